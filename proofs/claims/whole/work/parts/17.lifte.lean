/-! by program (wip/whole/emit.py) out of the claim's listing -/
def sh_Stays_hoursTill_L2 (N : Nat) : Nat → Int → Int → Int → Int → zHp → Option ((Int × zHp) ⊕ (Int × zHp))
  | 0, _, _, _, _, _ => none
  | n + 1, x1, x2, x3, x4, h => (if x3 ≤ x4 then some (.inr (x3, h)) else zb2 (sh_Stays_heedsCallAt N x1 x2 (w32 (((w32 ((sh_Herd_hour_14 h) + x4))).tmod 24)) h) fun r11 h12 => if r11 = 0 then sh_Stays_hoursTill_L2 N n x1 x2 x3 (w32 (x4 + 1)) h12 else some (.inl (x4, h12)))
def sh_Stays_hoursTill (N : Nat) (x1 x2 x3 : Int) (h : zHp) : Option (Int × zHp) := zb1 (sh_Stays_hoursTill_L2 N N x1 x2 x3 0 h) fun w15 => zsum2 w15 (zcu2 fun y16 h17 => some (y16, h17)) (zcu2 fun y18 h19 => some (y18, h19))
set_option maxRecDepth 100000 in
set_option maxHeartbeats 4000000 in
theorem zl_Stays_hoursTill_L2 {l : Launch} {E : zE} {d : Nat} (hd : 5 ≤ d) (N : Nat) {Q : Int → zHp → Prop} {res : (Int × zHp) ⊕ (Int × zHp)} (K1 : ∀ (o4 : Int) (oh : zHp), res = .inl (o4, oh) → zW l E d zm_Stays_hoursTill 18 [zJk, zJk, zJk, zJk, .inl o4] [] oh Q) (K2 : ∀ (o3 : Int) (oh : zHp), res = .inr (o3, oh) → zW l E d zm_Stays_hoursTill 22 [zJk, zJk, zJk, .inl o3, zJk] [] oh Q) : ∀ (n : Nat) (x1 x2 x3 x4 : Int) (h : zHp), sh_Stays_hoursTill_L2 N n x1 x2 x3 x4 h = some res → zW l E d zm_Stays_hoursTill 2 [.inr (.inr 38), .inl x1, .inl x2, .inl x3, .inl x4] [] h Q := by
  intro n
  induction n with
  | zero =>
    intro x1 x2 x3 x4 h hF
    cases (show (none : Option ((Int × zHp) ⊕ (Int × zHp))) = some res from hF)
  | succ n ih =>
    intro x1 x2 x3 x4 h hF
    rw [sh_Stays_hoursTill_L2] at hF
    refine z_iload rfl rfl ?_
    refine z_iload rfl rfl ?_
    refine z_cge rfl (fun c1 => ?_) (fun c1 => ?_)
    · rw [if_pos c1] at hF
      refine zsubL (L' := [zJk, zJk, zJk, .inl x3, zJk]) ⟨Or.inr rfl, Or.inr rfl, Or.inr rfl, Or.inl rfl, Or.inr rfl, trivial⟩ ?_
      exact K2 _ _ (Option.some.inj hF).symm
    · rw [if_neg c1] at hF
      refine z_aload rfl rfl rfl ?_
      refine z_iload rfl rfl ?_
      refine z_iload rfl rfl ?_
      refine z_aload rfl rfl rfl ?_
      refine z_getr (r := 1) rfl rfl rfl rfl ?_
      refine z_getr (r := 14) rfl rfl rfl rfl ?_
      refine z_inv1 (d' := d - 1) (As := []) rfl rfl (zf_Herd_hour_14 (by omega)) rfl rfl rfl (by omega) rfl (fun r2 h3 hR4 hQ5 => ?_)
      obtain ⟨rfl, rfl⟩ := hQ5
      refine z_iload rfl rfl ?_
      refine z_iadd rfl ?_
      refine z_const rfl ?_
      refine z_irem rfl (by decide) ?_
      obtain ⟨r11, h12, hc10, hF⟩ := zbind2 hF
      refine z_inv1 (d' := d - 1) (As := [.inl x1, .inl x2, .inl (w32 (((w32 ((sh_Herd_hour_14 h) + x4))).tmod 24))]) rfl rfl (zf_Stays_heedsCallAt (by omega) N _ _ _ hc10) rfl rfl rfl (by omega) rfl (fun r6 h7 hR8 hQ9 => ?_)
      obtain ⟨rfl, rfl⟩ := hQ9
      refine z_zeq rfl (fun c13 => ?_) (fun c13 => ?_)
      · rw [if_pos c13] at hF
        refine z_iinc rfl rfl rfl ?_
        refine z_goto rfl ?_
        exact ih _ _ _ _ _ hF
      · rw [if_neg c13] at hF
        refine zsubL (L' := [zJk, zJk, zJk, zJk, .inl x4]) ⟨Or.inr rfl, Or.inr rfl, Or.inr rfl, Or.inr rfl, Or.inl rfl, trivial⟩ ?_
        exact K1 _ _ (Option.some.inj hF).symm
set_option maxRecDepth 100000 in
set_option maxHeartbeats 4000000 in
theorem zw_Stays_hoursTill {l : Launch} {E : zE} {d : Nat} (hd : 5 ≤ d) (N : Nat) (x1 x2 x3 : Int) {h : zHp} {Q : Int → zHp → Prop} {r0 : Int} {h0 : zHp} (hF : sh_Stays_hoursTill N x1 x2 x3 h = some (r0, h0)) (K : Q r0 h0) : zW l E d zm_Stays_hoursTill 0 [.inr (.inr 38), .inl x1, .inl x2, .inl x3, zJk] [] h Q := by
  rw [sh_Stays_hoursTill] at hF
  refine z_const rfl ?_
  refine z_istore rfl rfl rfl ?_
  obtain ⟨w15, hL14, hF⟩ := zbind1 hF
  rcases w15 with ⟨y16, h17⟩ | ⟨y18, h19⟩
  · refine zl_Stays_hoursTill_L2 (by omega) N (fun q20 q21 e22 => ?_) (fun _ _ z => by cases z) N _ _ _ _ _ hL14
    obtain ⟨rfl, rfl⟩ := zinl2_0_2 e22
    replace hF := zs2_0_2 hF
    refine z_iload rfl rfl ?_
    obtain ⟨rfl, rfl⟩ := zinj2 hF
    exact z_iret rfl rfl K
  · refine zl_Stays_hoursTill_L2 (by omega) N (fun _ _ z => by cases z) (fun q23 q24 e25 => ?_) N _ _ _ _ _ hL14
    obtain ⟨rfl, rfl⟩ := zinl2_1_2 e25
    replace hF := zs2_1_2 hF
    refine z_iload rfl rfl ?_
    obtain ⟨rfl, rfl⟩ := zinj2 hF
    exact z_iret rfl rfl K
set_option maxRecDepth 100000 in
theorem zf_Stays_hoursTill {l : Launch} {E : zE} {d : Nat} (hd : 5 ≤ d) (N : Nat) (x1 x2 x3 : Int) {h : zHp} {r0 : Int} {h0 : zHp} (hF : sh_Stays_hoursTill N x1 x2 x3 h = some (r0, h0)) : zC l E d zm_Stays_hoursTill [.inr (.inr 38), .inl x1, .inl x2, .inl x3] h (fun r1 h1 => r0 = r1 ∧ h0 = h1) :=
  zC_of zk_Stays_hoursTill (by decide) rfl rfl (Nat.le_of_ble_eq_true rfl) (zw_Stays_hoursTill hd N _ _ _ hF ⟨rfl, rfl⟩)
def sh_Stays_doneIn_L10 (N : Nat) : Nat → Int → Int → Int → Int → Int → Int → Int → zHp → Option (Int × Int × zHp)
  | 0, _, _, _, _, _, _, _, _ => none
  | n + 1, x1, x2, x3, x4, x5, x6, x7, h => (if x4 ≤ x7 then some (x5, x6, h) else (if x5 ≤ x6 then some (x5, x6, h) else zb2 (sh_Laws_work N x1 x2 x3 (w32 (((w32 ((sh_Herd_hour_14 h) + x7))).tmod 24)) h) fun r16 h17 => sh_Stays_doneIn_L10 N n x1 x2 x3 x4 x5 (w32 (x6 + r16)) (w32 (x7 + 1)) h17))
def sh_Stays_doneIn (N : Nat) (x1 x2 x3 x4 : Int) (h : zHp) : Option (Int × zHp) := zb3 (sh_Stays_doneIn_L10 N N x1 x2 x3 x4 (sh_Herd_furrows_14 x3 h) 0 0 h) fun y19 y20 h21 => some (zmin y20 y19, h21)
set_option maxRecDepth 100000 in
set_option maxHeartbeats 4000000 in
theorem zl_Stays_doneIn_L10 {l : Launch} {E : zE} {d : Nat} (hd : 4 ≤ d) (N : Nat) {Q : Int → zHp → Prop} {o5 o6 : Int} {oh : zHp} (K1 : zW l E d zm_Stays_doneIn 35 [zJk, zJk, zJk, zJk, zJk, .inl o5, .inl o6, zJk] [] oh Q) : ∀ (n : Nat) (x1 x2 x3 x4 x5 x6 x7 : Int) (h : zHp), sh_Stays_doneIn_L10 N n x1 x2 x3 x4 x5 x6 x7 h = some (o5, o6, oh) → zW l E d zm_Stays_doneIn 10 [.inr (.inr 38), .inl x1, .inl x2, .inl x3, .inl x4, .inl x5, .inl x6, .inl x7] [] h Q := by
  intro n
  induction n with
  | zero =>
    intro x1 x2 x3 x4 x5 x6 x7 h hF
    cases (show (none : Option (Int × Int × zHp)) = some (o5, o6, oh) from hF)
  | succ n ih =>
    intro x1 x2 x3 x4 x5 x6 x7 h hF
    rw [sh_Stays_doneIn_L10] at hF
    refine z_iload rfl rfl ?_
    refine z_iload rfl rfl ?_
    refine z_cge rfl (fun c5 => ?_) (fun c5 => ?_)
    · rw [if_pos c5] at hF
      refine zsubL (L' := [zJk, zJk, zJk, zJk, zJk, .inl x5, .inl x6, zJk]) ⟨Or.inr rfl, Or.inr rfl, Or.inr rfl, Or.inr rfl, Or.inr rfl, Or.inl rfl, Or.inl rfl, Or.inr rfl, trivial⟩ ?_
      obtain ⟨rfl, rfl, rfl⟩ := zinj3 hF
      exact K1
    · rw [if_neg c5] at hF
      refine z_iload rfl rfl ?_
      refine z_iload rfl rfl ?_
      refine z_cge rfl (fun c6 => ?_) (fun c6 => ?_)
      · rw [if_pos c6] at hF
        refine zsubL (L' := [zJk, zJk, zJk, zJk, zJk, .inl x5, .inl x6, zJk]) ⟨Or.inr rfl, Or.inr rfl, Or.inr rfl, Or.inr rfl, Or.inr rfl, Or.inl rfl, Or.inl rfl, Or.inr rfl, trivial⟩ ?_
        obtain ⟨rfl, rfl, rfl⟩ := zinj3 hF
        exact K1
      · rw [if_neg c6] at hF
        refine z_iload rfl rfl ?_
        refine z_aload rfl rfl rfl ?_
        refine z_getr (r := 33) rfl rfl rfl rfl ?_
        refine z_iload rfl rfl ?_
        refine z_iload rfl rfl ?_
        refine z_iload rfl rfl ?_
        refine z_aload rfl rfl rfl ?_
        refine z_getr (r := 1) rfl rfl rfl rfl ?_
        refine z_getr (r := 14) rfl rfl rfl rfl ?_
        refine z_inv1 (d' := d - 1) (As := []) rfl rfl (zf_Herd_hour_14 (by omega)) rfl rfl rfl (by omega) rfl (fun r7 h8 hR9 hQ10 => ?_)
        obtain ⟨rfl, rfl⟩ := hQ10
        refine z_iload rfl rfl ?_
        refine z_iadd rfl ?_
        refine z_const rfl ?_
        refine z_irem rfl (by decide) ?_
        obtain ⟨r16, h17, hc15, hF⟩ := zbind2 hF
        refine z_inv1 (d' := d - 1) (As := [.inl x1, .inl x2, .inl x3, .inl (w32 (((w32 ((sh_Herd_hour_14 h) + x7))).tmod 24))]) rfl rfl (zf_Laws_work (by omega) N _ _ _ _ hc15) rfl rfl rfl (by omega) rfl (fun r11 h12 hR13 hQ14 => ?_)
        obtain ⟨rfl, rfl⟩ := hQ14
        refine z_iadd rfl ?_
        refine z_istore rfl rfl rfl ?_
        refine z_iinc rfl rfl rfl ?_
        refine z_goto rfl ?_
        exact ih _ _ _ _ _ _ _ _ hF
set_option maxRecDepth 100000 in
set_option maxHeartbeats 4000000 in
theorem zw_Stays_doneIn {l : Launch} {E : zE} {d : Nat} (hd : 4 ≤ d) (N : Nat) (x1 x2 x3 x4 : Int) {h : zHp} {Q : Int → zHp → Prop} {r0 : Int} {h0 : zHp} (hF : sh_Stays_doneIn N x1 x2 x3 x4 h = some (r0, h0)) (K : Q r0 h0) : zW l E d zm_Stays_doneIn 0 [.inr (.inr 38), .inl x1, .inl x2, .inl x3, .inl x4, zJk, zJk, zJk] [] h Q := by
  rw [sh_Stays_doneIn] at hF
  refine z_aload rfl rfl rfl ?_
  refine z_getr (r := 1) rfl rfl rfl rfl ?_
  refine z_getr (r := 14) rfl rfl rfl rfl ?_
  refine z_iload rfl rfl ?_
  refine z_inv1 (d' := d - 1) (As := [.inl x3]) rfl rfl (zf_Herd_furrows_14 (by omega) _) rfl rfl rfl (by omega) rfl (fun r1 h2 hR3 hQ4 => ?_)
  obtain ⟨rfl, rfl⟩ := hQ4
  refine z_istore rfl rfl rfl ?_
  refine z_const rfl ?_
  refine z_istore rfl rfl rfl ?_
  refine z_const rfl ?_
  refine z_istore rfl rfl rfl ?_
  obtain ⟨y19, y20, h21, hL18, hF⟩ := zbind3 hF
  refine zl_Stays_doneIn_L10 (by omega) N ?_ N _ _ _ _ _ _ _ _ hL18
  refine z_iload rfl rfl ?_
  refine z_iload rfl rfl ?_
  refine z_mmin rfl (by decide) (by omega) rfl ?_
  obtain ⟨rfl, rfl⟩ := zinj2 hF
  exact z_iret rfl rfl K
set_option maxRecDepth 100000 in
theorem zf_Stays_doneIn {l : Launch} {E : zE} {d : Nat} (hd : 4 ≤ d) (N : Nat) (x1 x2 x3 x4 : Int) {h : zHp} {r0 : Int} {h0 : zHp} (hF : sh_Stays_doneIn N x1 x2 x3 x4 h = some (r0, h0)) : zC l E d zm_Stays_doneIn [.inr (.inr 38), .inl x1, .inl x2, .inl x3, .inl x4] h (fun r1 h1 => r0 = r1 ∧ h0 = h1) :=
  zC_of zk_Stays_doneIn (by decide) rfl rfl (Nat.le_of_ble_eq_true rfl) (zw_Stays_doneIn hd N _ _ _ _ hF ⟨rfl, rfl⟩)
def sh_Ox_stay (N : Nat) (x1 x2 x3 x4 x5 : Int) (h : zHp) : Option (Int × zHp) := (if sh_Ox_isPair x1 x2 h = 0 then some ((-1), h) else (if sh_Ox_isField x3 h = 0 then some ((-1), h) else (if sh_Ox_within x4 1 24 = 0 then some ((-1), h) else zb2 (sh_Stays_hoursTill N x1 x3 x4 h) fun r21 h22 => zb2 (sh_Stays_hoursTill N x2 x3 x4 h22) fun r28 h29 => if x5 = 0 then some (zmin r21 r28, h29) else zb2 (sh_Stays_doneIn N x1 x2 x3 (zmin r21 r28) h29) fun r37 h38 => some (r37, h38))))
set_option maxRecDepth 100000 in
set_option maxHeartbeats 4000000 in
theorem zw_Ox_stay {l : Launch} {E : zE} {d : Nat} (hd : 6 ≤ d) (N : Nat) (x1 x2 x3 x4 x5 : Int) {h : zHp} {Q : Int → zHp → Prop} {r0 : Int} {h0 : zHp} (hF : sh_Ox_stay N x1 x2 x3 x4 x5 h = some (r0, h0)) (K : Q r0 h0) : zW l E d zm_Ox_stay 0 [.inr (.inr 0), .inl x1, .inl x2, .inl x3, .inl x4, .inl x5, zJk] [] h Q := by
  rw [sh_Ox_stay] at hF
  refine z_aload rfl rfl rfl ?_
  refine z_iload rfl rfl ?_
  refine z_iload rfl rfl ?_
  refine z_inv1 (d' := d - 1) (As := [.inl x1, .inl x2]) rfl rfl (zf_Ox_isPair (by omega) _ _) rfl rfl rfl (by omega) rfl (fun r1 h2 hR3 hQ4 => ?_)
  obtain ⟨rfl, rfl⟩ := hQ4
  refine z_zeq rfl (fun c5 => ?_) (fun c5 => ?_)
  · rw [if_pos c5] at hF
    refine z_const rfl ?_
    obtain ⟨rfl, rfl⟩ := zinj2 hF
    exact z_iret rfl rfl K
  · rw [if_neg c5] at hF
    refine z_aload rfl rfl rfl ?_
    refine z_iload rfl rfl ?_
    refine z_inv1 (d' := d - 1) (As := [.inl x3]) rfl rfl (zf_Ox_isField (by omega) _) rfl rfl rfl (by omega) rfl (fun r6 h7 hR8 hQ9 => ?_)
    obtain ⟨rfl, rfl⟩ := hQ9
    refine z_zeq rfl (fun c10 => ?_) (fun c10 => ?_)
    · rw [if_pos c10] at hF
      refine z_const rfl ?_
      obtain ⟨rfl, rfl⟩ := zinj2 hF
      exact z_iret rfl rfl K
    · rw [if_neg c10] at hF
      refine z_iload rfl rfl ?_
      refine z_const rfl ?_
      refine z_const rfl ?_
      refine z_ivs1 (d' := d - 1) (As := [.inl x4, .inl 1, .inl 24]) rfl rfl (zf_Ox_within (by omega) _ _ _) rfl (by omega) rfl (fun r11 h12 hR13 hQ14 => ?_)
      obtain ⟨rfl, rfl⟩ := hQ14
      refine z_zne rfl (fun c15 => ?_) (fun c15 => ?_)
      · rw [if_neg c15] at hF
        refine z_aload rfl rfl rfl ?_
        refine z_getr (r := 38) rfl rfl rfl rfl ?_
        refine z_iload rfl rfl ?_
        refine z_iload rfl rfl ?_
        refine z_iload rfl rfl ?_
        obtain ⟨r21, h22, hc20, hF⟩ := zbind2 hF
        refine z_inv1 (d' := d - 1) (As := [.inl x1, .inl x3, .inl x4]) rfl rfl (zf_Stays_hoursTill (by omega) N _ _ _ hc20) rfl rfl rfl (by omega) rfl (fun r16 h17 hR18 hQ19 => ?_)
        obtain ⟨rfl, rfl⟩ := hQ19
        refine z_aload rfl rfl rfl ?_
        refine z_getr (r := 38) rfl rfl rfl rfl ?_
        refine z_iload rfl rfl ?_
        refine z_iload rfl rfl ?_
        refine z_iload rfl rfl ?_
        obtain ⟨r28, h29, hc27, hF⟩ := zbind2 hF
        refine z_inv1 (d' := d - 1) (As := [.inl x2, .inl x3, .inl x4]) rfl rfl (zf_Stays_hoursTill (by omega) N _ _ _ hc27) rfl rfl rfl (by omega) rfl (fun r23 h24 hR25 hQ26 => ?_)
        obtain ⟨rfl, rfl⟩ := hQ26
        refine z_mmin rfl (by decide) (by omega) rfl ?_
        refine z_istore rfl rfl rfl ?_
        refine z_iload rfl rfl ?_
        refine z_zeq rfl (fun c31 => ?_) (fun c31 => ?_)
        · rw [if_pos c31] at hF
          refine z_iload rfl rfl ?_
          obtain ⟨rfl, rfl⟩ := zinj2 hF
          exact z_iret rfl rfl K
        · rw [if_neg c31] at hF
          refine z_aload rfl rfl rfl ?_
          refine z_getr (r := 38) rfl rfl rfl rfl ?_
          refine z_iload rfl rfl ?_
          refine z_iload rfl rfl ?_
          refine z_iload rfl rfl ?_
          refine z_iload rfl rfl ?_
          obtain ⟨r37, h38, hc36, hF⟩ := zbind2 hF
          refine z_inv1 (d' := d - 1) (As := [.inl x1, .inl x2, .inl x3, .inl (zmin r21 r28)]) rfl rfl (zf_Stays_doneIn (by omega) N _ _ _ _ hc36) rfl rfl rfl (by omega) rfl (fun r32 h33 hR34 hQ35 => ?_)
          obtain ⟨rfl, rfl⟩ := hQ35
          refine z_goto rfl ?_
          obtain ⟨rfl, rfl⟩ := zinj2 hF
          exact z_iret rfl rfl K
      · rw [if_pos c15] at hF
        refine z_const rfl ?_
        obtain ⟨rfl, rfl⟩ := zinj2 hF
        exact z_iret rfl rfl K
set_option maxRecDepth 100000 in
theorem zf_Ox_stay {l : Launch} {E : zE} {d : Nat} (hd : 6 ≤ d) (N : Nat) (x1 x2 x3 x4 x5 : Int) {h : zHp} {r0 : Int} {h0 : zHp} (hF : sh_Ox_stay N x1 x2 x3 x4 x5 h = some (r0, h0)) : zC l E d zm_Ox_stay [.inr (.inr 0), .inl x1, .inl x2, .inl x3, .inl x4, .inl x5] h (fun r1 h1 => r0 = r1 ∧ h0 = h1) :=
  zC_of zk_Ox_stay (by decide) rfl rfl (Nat.le_of_ble_eq_true rfl) (zw_Ox_stay hd N _ _ _ _ _ hF ⟨rfl, rfl⟩)
def sh_Mo_isCalled_L2 (N : Nat) : Nat → Int → Int → Int → Int → zHp → Option ((zHp) ⊕ (zHp))
  | 0, _, _, _, _, _ => none
  | n + 1, x1, x2, x3, x4, h => (if h 86 6 ≤ x4 then some (.inr h) else if 0 ≤ w32 (105 + (w32 (2 * x4))) ∧ w32 (105 + (w32 (2 * x4))) < 1061 then if h 86 (w32 (105 + (w32 (2 * x4)))).toNat = x3 then if 0 ≤ w32 ((w32 (105 + (w32 (2 * x4)))) + 1) ∧ w32 ((w32 (105 + (w32 (2 * x4)))) + 1) < 1061 then zb1 (sh_Mo_pitchOf N (h 86 (w32 ((w32 (105 + (w32 (2 * x4)))) + 1)).toNat) h) fun r10 => zb1 (sh_Mo_name N x1 (h 86 (w32 ((w32 (105 + (w32 (2 * x4)))) + 1)).toNat) r10 x2 1 x3 h) fun h16 => zb2 (sh_Mo_isHeeded N h16) fun r22 h23 => if r22 = 0 then sh_Mo_isCalled_L2 N n x1 x2 x3 (w32 (x4 + 1)) h23 else some (.inl h23) else none else sh_Mo_isCalled_L2 N n x1 x2 x3 (w32 (x4 + 1)) h else none)
def sh_Mo_isCalled (N : Nat) (x1 x2 x3 : Int) (h : zHp) : Option (Int × zHp) := zb1 (sh_Mo_isCalled_L2 N N x1 x2 x3 0 h) fun w26 => zsum2 w26 (zcu1 fun h27 => some (1, h27)) (zcu1 fun h28 => some (0, h28))
set_option maxRecDepth 100000 in
set_option maxHeartbeats 4000000 in
theorem zl_Mo_isCalled_L2 {l : Launch} {E : zE} {d : Nat} (hd : 5 ≤ d) (N : Nat) {Q : Int → zHp → Prop} {res : (zHp) ⊕ (zHp)} (K1 : ∀ (oh : zHp), res = .inl oh → zW l E d zm_Mo_isCalled 43 [zJk, zJk, zJk, zJk, zJk, zJk] [] oh Q) (K2 : ∀ (oh : zHp), res = .inr oh → zW l E d zm_Mo_isCalled 47 [zJk, zJk, zJk, zJk, zJk, zJk] [] oh Q) : ∀ (n : Nat) (x1 x2 x3 x4 : Int) (h : zHp), sh_Mo_isCalled_L2 N n x1 x2 x3 x4 h = some res → zW l E d zm_Mo_isCalled 2 [.inr (.inr 85), .inl x1, .inl x2, .inl x3, .inl x4, zJk] [] h Q := by
  intro n
  induction n with
  | zero =>
    intro x1 x2 x3 x4 h hF
    cases (show (none : Option ((zHp) ⊕ (zHp))) = some res from hF)
  | succ n ih =>
    intro x1 x2 x3 x4 h hF
    rw [sh_Mo_isCalled_L2] at hF
    refine z_iload rfl rfl ?_
    refine z_aload rfl rfl rfl ?_
    refine z_getr (r := 86) rfl rfl rfl rfl ?_
    refine z_const rfl ?_
    refine z_ialdc 6 rfl rfl rfl (by decide) ?_
    refine z_cge rfl (fun c1 => ?_) (fun c1 => ?_)
    · rw [if_pos c1] at hF
      refine zsubL (L' := [zJk, zJk, zJk, zJk, zJk, zJk]) ⟨Or.inr rfl, Or.inr rfl, Or.inr rfl, Or.inr rfl, Or.inr rfl, Or.inl rfl, trivial⟩ ?_
      exact K2 _ (Option.some.inj hF).symm
    · rw [if_neg c1] at hF
      refine z_aload rfl rfl rfl ?_
      refine z_getr (r := 86) rfl rfl rfl rfl ?_
      refine z_const rfl ?_
      refine z_const rfl ?_
      refine z_iload rfl rfl ?_
      refine z_imul rfl ?_
      refine z_iadd rfl ?_
      obtain ⟨g2, hF⟩ := zguard hF
      refine z_iald rfl rfl g2.1 g2.2 ?_
      refine z_iload rfl rfl ?_
      refine z_ceq rfl (fun c3 => ?_) (fun c3 => ?_)
      · rw [if_pos c3] at hF
        refine z_aload rfl rfl rfl ?_
        refine z_getr (r := 86) rfl rfl rfl rfl ?_
        refine z_const rfl ?_
        refine z_const rfl ?_
        refine z_iload rfl rfl ?_
        refine z_imul rfl ?_
        refine z_iadd rfl ?_
        refine z_const rfl ?_
        refine z_iadd rfl ?_
        obtain ⟨g4, hF⟩ := zguard hF
        refine z_iald rfl rfl g4.1 g4.2 ?_
        refine z_istore rfl rfl rfl ?_
        refine z_aload rfl rfl rfl ?_
        refine z_iload rfl rfl ?_
        refine z_iload rfl rfl ?_
        refine z_aload rfl rfl rfl ?_
        refine z_iload rfl rfl ?_
        obtain ⟨r10, hc9, hF⟩ := zbind1 hF
        refine z_inv1 (d' := d - 1) (As := [.inl (h 86 (w32 ((w32 (105 + (w32 (2 * x4)))) + 1)).toNat)]) rfl rfl (zf_Mo_pitchOf (by omega) N _ hc9) rfl rfl rfl (by omega) rfl (fun r5 h6 hR7 hQ8 => ?_)
        obtain ⟨rfl, rfl⟩ := hQ8
        refine z_iload rfl rfl ?_
        refine z_const rfl ?_
        refine z_iload rfl rfl ?_
        obtain ⟨h16, hc15, hF⟩ := zbind1 hF
        refine z_inv0 (d' := d - 1) (As := [.inl x1, .inl (h 86 (w32 ((w32 (105 + (w32 (2 * x4)))) + 1)).toNat), .inl r10, .inl x2, .inl 1, .inl x3]) rfl rfl (zf_Mo_name (by omega) N _ _ _ _ _ _ hc15) rfl rfl rfl (by omega) rfl (fun r11 h12 hR13 hQ14 => ?_)
        obtain ⟨rfl, rfl⟩ := hQ14
        refine z_aload rfl rfl rfl ?_
        obtain ⟨r22, h23, hc21, hF⟩ := zbind2 hF
        refine z_inv1 (d' := d - 1) (As := []) rfl rfl (zf_Mo_isHeeded (by omega) N hc21) rfl rfl rfl (by omega) rfl (fun r17 h18 hR19 hQ20 => ?_)
        obtain ⟨rfl, rfl⟩ := hQ20
        refine z_zeq rfl (fun c24 => ?_) (fun c24 => ?_)
        · rw [if_pos c24] at hF
          refine z_iinc rfl rfl rfl ?_
          refine z_goto rfl ?_
          refine zsubL (L' := [.inr (.inr 85), .inl x1, .inl x2, .inl x3, .inl (w32 (x4 + 1)), zJk]) ⟨Or.inl rfl, Or.inl rfl, Or.inl rfl, Or.inl rfl, Or.inl rfl, Or.inr rfl, trivial⟩ ?_
          exact ih _ _ _ _ _ hF
        · rw [if_neg c24] at hF
          refine zsubL (L' := [zJk, zJk, zJk, zJk, zJk, zJk]) ⟨Or.inr rfl, Or.inr rfl, Or.inr rfl, Or.inr rfl, Or.inr rfl, Or.inr rfl, trivial⟩ ?_
          exact K1 _ (Option.some.inj hF).symm
      · rw [if_neg c3] at hF
        refine z_goto rfl ?_
        refine z_iinc rfl rfl rfl ?_
        refine z_goto rfl ?_
        exact ih _ _ _ _ _ hF
set_option maxRecDepth 100000 in
set_option maxHeartbeats 4000000 in
theorem zw_Mo_isCalled {l : Launch} {E : zE} {d : Nat} (hd : 5 ≤ d) (N : Nat) (x1 x2 x3 : Int) {h : zHp} {Q : Int → zHp → Prop} {r0 : Int} {h0 : zHp} (hF : sh_Mo_isCalled N x1 x2 x3 h = some (r0, h0)) (K : Q r0 h0) : zW l E d zm_Mo_isCalled 0 [.inr (.inr 85), .inl x1, .inl x2, .inl x3, zJk, zJk] [] h Q := by
  rw [sh_Mo_isCalled] at hF
  refine z_const rfl ?_
  refine z_istore rfl rfl rfl ?_
  obtain ⟨w26, hL25, hF⟩ := zbind1 hF
  rcases w26 with h27 | h28
  · refine zl_Mo_isCalled_L2 (by omega) N (fun q29 e30 => ?_) (fun _ z => by cases z) N _ _ _ _ _ hL25
    obtain rfl := zinl2_0_1 e30
    replace hF := zs2_0_1 hF
    refine z_const rfl ?_
    obtain ⟨rfl, rfl⟩ := zinj2 hF
    exact z_zret rfl rfl (Or.inr rfl) K
  · refine zl_Mo_isCalled_L2 (by omega) N (fun _ z => by cases z) (fun q31 e32 => ?_) N _ _ _ _ _ hL25
    obtain rfl := zinl2_1_1 e32
    replace hF := zs2_1_1 hF
    refine z_const rfl ?_
    obtain ⟨rfl, rfl⟩ := zinj2 hF
    exact z_zret rfl rfl (Or.inl rfl) K
set_option maxRecDepth 100000 in
theorem zf_Mo_isCalled {l : Launch} {E : zE} {d : Nat} (hd : 5 ≤ d) (N : Nat) (x1 x2 x3 : Int) {h : zHp} {r0 : Int} {h0 : zHp} (hF : sh_Mo_isCalled N x1 x2 x3 h = some (r0, h0)) : zC l E d zm_Mo_isCalled [.inr (.inr 85), .inl x1, .inl x2, .inl x3] h (fun r1 h1 => r0 = r1 ∧ h0 = h1) :=
  zC_of zk_Mo_isCalled (by decide) rfl rfl (Nat.le_of_ble_eq_true rfl) (zw_Mo_isCalled hd N _ _ _ hF ⟨rfl, rfl⟩)
def sh_Mo_stayOf_L2 (N : Nat) : Nat → Int → Int → Int → Int → Int → zHp → Option ((Int × zHp) ⊕ (Int × zHp))
  | 0, _, _, _, _, _, _ => none
  | n + 1, x1, x2, x3, x4, x5, h => (if x4 ≤ x5 then some (.inr (x4, h)) else zb2 (sh_Mo_isCalled N x1 x3 (w32 (((w32 ((h 86 3) + x5))).tmod 24)) h) fun r7 h8 => if r7 = 0 then zb2 (sh_Mo_isCalled N x2 x3 (w32 (((w32 ((h 86 3) + x5))).tmod 24)) h8) fun r15 h16 => if r15 = 0 then sh_Mo_stayOf_L2 N n x1 x2 x3 x4 (w32 (x5 + 1)) h16 else some (.inl (x5, h16)) else some (.inl (x5, h8)))
def sh_Mo_stayOf (N : Nat) (x1 x2 x3 x4 : Int) (h : zHp) : Option (Int × zHp) := zb1 (sh_Mo_stayOf_L2 N N x1 x2 x3 x4 0 h) fun w19 => zsum2 w19 (zcu2 fun y20 h21 => some (y20, h21)) (zcu2 fun y22 h23 => some (y22, h23))
set_option maxRecDepth 100000 in
set_option maxHeartbeats 4000000 in
theorem zl_Mo_stayOf_L2 {l : Launch} {E : zE} {d : Nat} (hd : 6 ≤ d) (N : Nat) {Q : Int → zHp → Prop} {res : (Int × zHp) ⊕ (Int × zHp)} (K1 : ∀ (o5 : Int) (oh : zHp), res = .inl (o5, oh) → zW l E d zm_Mo_stayOf 26 [zJk, zJk, zJk, zJk, zJk, .inl o5, zJk] [] oh Q) (K2 : ∀ (o4 : Int) (oh : zHp), res = .inr (o4, oh) → zW l E d zm_Mo_stayOf 30 [zJk, zJk, zJk, zJk, .inl o4, zJk, zJk] [] oh Q) : ∀ (n : Nat) (x1 x2 x3 x4 x5 : Int) (h : zHp), sh_Mo_stayOf_L2 N n x1 x2 x3 x4 x5 h = some res → zW l E d zm_Mo_stayOf 2 [.inr (.inr 85), .inl x1, .inl x2, .inl x3, .inl x4, .inl x5, zJk] [] h Q := by
  intro n
  induction n with
  | zero =>
    intro x1 x2 x3 x4 x5 h hF
    cases (show (none : Option ((Int × zHp) ⊕ (Int × zHp))) = some res from hF)
  | succ n ih =>
    intro x1 x2 x3 x4 x5 h hF
    rw [sh_Mo_stayOf_L2] at hF
    refine z_iload rfl rfl ?_
    refine z_iload rfl rfl ?_
    refine z_cge rfl (fun c1 => ?_) (fun c1 => ?_)
    · rw [if_pos c1] at hF
      refine zsubL (L' := [zJk, zJk, zJk, zJk, .inl x4, zJk, zJk]) ⟨Or.inr rfl, Or.inr rfl, Or.inr rfl, Or.inr rfl, Or.inl rfl, Or.inr rfl, Or.inl rfl, trivial⟩ ?_
      exact K2 _ _ (Option.some.inj hF).symm
    · rw [if_neg c1] at hF
      refine z_aload rfl rfl rfl ?_
      refine z_getr (r := 86) rfl rfl rfl rfl ?_
      refine z_const rfl ?_
      refine z_ialdc 3 rfl rfl rfl (by decide) ?_
      refine z_iload rfl rfl ?_
      refine z_iadd rfl ?_
      refine z_const rfl ?_
      refine z_irem rfl (by decide) ?_
      refine z_istore rfl rfl rfl ?_
      refine z_aload rfl rfl rfl ?_
      refine z_iload rfl rfl ?_
      refine z_iload rfl rfl ?_
      refine z_iload rfl rfl ?_
      obtain ⟨r7, h8, hc6, hF⟩ := zbind2 hF
      refine z_inv1 (d' := d - 1) (As := [.inl x1, .inl x3, .inl (w32 (((w32 ((h 86 3) + x5))).tmod 24))]) rfl rfl (zf_Mo_isCalled (by omega) N _ _ _ hc6) rfl rfl rfl (by omega) rfl (fun r2 h3 hR4 hQ5 => ?_)
      obtain ⟨rfl, rfl⟩ := hQ5
      refine z_zne rfl (fun c9 => ?_) (fun c9 => ?_)
      · rw [if_neg c9] at hF
        refine zsubL (L' := [zJk, zJk, zJk, zJk, zJk, .inl x5, zJk]) ⟨Or.inr rfl, Or.inr rfl, Or.inr rfl, Or.inr rfl, Or.inr rfl, Or.inl rfl, Or.inr rfl, trivial⟩ ?_
        exact K1 _ _ (Option.some.inj hF).symm
      · rw [if_pos c9] at hF
        refine z_aload rfl rfl rfl ?_
        refine z_iload rfl rfl ?_
        refine z_iload rfl rfl ?_
        refine z_iload rfl rfl ?_
        obtain ⟨r15, h16, hc14, hF⟩ := zbind2 hF
        refine z_inv1 (d' := d - 1) (As := [.inl x2, .inl x3, .inl (w32 (((w32 ((h 86 3) + x5))).tmod 24))]) rfl rfl (zf_Mo_isCalled (by omega) N _ _ _ hc14) rfl rfl rfl (by omega) rfl (fun r10 h11 hR12 hQ13 => ?_)
        obtain ⟨rfl, rfl⟩ := hQ13
        refine z_zeq rfl (fun c17 => ?_) (fun c17 => ?_)
        · rw [if_pos c17] at hF
          refine z_iinc rfl rfl rfl ?_
          refine z_goto rfl ?_
          refine zsubL (L' := [.inr (.inr 85), .inl x1, .inl x2, .inl x3, .inl x4, .inl (w32 (x5 + 1)), zJk]) ⟨Or.inl rfl, Or.inl rfl, Or.inl rfl, Or.inl rfl, Or.inl rfl, Or.inl rfl, Or.inr rfl, trivial⟩ ?_
          exact ih _ _ _ _ _ _ hF
        · rw [if_neg c17] at hF
          refine zsubL (L' := [zJk, zJk, zJk, zJk, zJk, .inl x5, zJk]) ⟨Or.inr rfl, Or.inr rfl, Or.inr rfl, Or.inr rfl, Or.inr rfl, Or.inl rfl, Or.inr rfl, trivial⟩ ?_
          exact K1 _ _ (Option.some.inj hF).symm
set_option maxRecDepth 100000 in
set_option maxHeartbeats 4000000 in
theorem zw_Mo_stayOf {l : Launch} {E : zE} {d : Nat} (hd : 6 ≤ d) (N : Nat) (x1 x2 x3 x4 : Int) {h : zHp} {Q : Int → zHp → Prop} {r0 : Int} {h0 : zHp} (hF : sh_Mo_stayOf N x1 x2 x3 x4 h = some (r0, h0)) (K : Q r0 h0) : zW l E d zm_Mo_stayOf 0 [.inr (.inr 85), .inl x1, .inl x2, .inl x3, .inl x4, zJk, zJk] [] h Q := by
  rw [sh_Mo_stayOf] at hF
  refine z_const rfl ?_
  refine z_istore rfl rfl rfl ?_
  obtain ⟨w19, hL18, hF⟩ := zbind1 hF
  rcases w19 with ⟨y20, h21⟩ | ⟨y22, h23⟩
  · refine zl_Mo_stayOf_L2 (by omega) N (fun q24 q25 e26 => ?_) (fun _ _ z => by cases z) N _ _ _ _ _ _ hL18
    obtain ⟨rfl, rfl⟩ := zinl2_0_2 e26
    replace hF := zs2_0_2 hF
    refine z_iload rfl rfl ?_
    obtain ⟨rfl, rfl⟩ := zinj2 hF
    exact z_iret rfl rfl K
  · refine zl_Mo_stayOf_L2 (by omega) N (fun _ _ z => by cases z) (fun q27 q28 e29 => ?_) N _ _ _ _ _ _ hL18
    obtain ⟨rfl, rfl⟩ := zinl2_1_2 e29
    replace hF := zs2_1_2 hF
    refine z_iload rfl rfl ?_
    obtain ⟨rfl, rfl⟩ := zinj2 hF
    exact z_iret rfl rfl K
set_option maxRecDepth 100000 in
theorem zf_Mo_stayOf {l : Launch} {E : zE} {d : Nat} (hd : 6 ≤ d) (N : Nat) (x1 x2 x3 x4 : Int) {h : zHp} {r0 : Int} {h0 : zHp} (hF : sh_Mo_stayOf N x1 x2 x3 x4 h = some (r0, h0)) : zC l E d zm_Mo_stayOf [.inr (.inr 85), .inl x1, .inl x2, .inl x3, .inl x4] h (fun r1 h1 => r0 = r1 ∧ h0 = h1) :=
  zC_of zk_Mo_stayOf (by decide) rfl rfl (Nat.le_of_ble_eq_true rfl) (zw_Mo_stayOf hd N _ _ _ _ hF ⟨rfl, rfl⟩)
def sh_Mo_doneOf_L11 (N : Nat) : Nat → Int → Int → Int → Int → Int → Int → zHp → Option (Int × Int × zHp)
  | 0, _, _, _, _, _, _, _ => none
  | n + 1, x1, x2, x3, x5, x6, x7, h => (if x6 ≤ x7 then some (x3, x5, h) else zb2 (sh_Mo_workOf N x1 x2 x3 (w32 (((w32 ((h 86 3) + x7))).tmod 24)) h) fun r14 h15 => sh_Mo_doneOf_L11 N n x1 x2 x3 (w32 (x5 + r14)) x6 (w32 (x7 + 1)) h15)
def sh_Mo_doneOf (N : Nat) (x1 x2 x3 x4 : Int) (h : zHp) : Option (Int × zHp) := zb2 (sh_Mo_stayOf N x1 x2 x3 x4 h) fun r6 h7 => zb3 (sh_Mo_doneOf_L11 N N x1 x2 x3 0 r6 0 h7) fun y17 y18 h19 => if 0 ≤ w32 ((w32 (25 + (w32 (4 * y17)))) + 3) ∧ w32 ((w32 (25 + (w32 (4 * y17)))) + 3) < 1061 then some ((if y18 ≤ h19 86 (w32 ((w32 (25 + (w32 (4 * y17)))) + 3)).toNat then y18 else h19 86 (w32 ((w32 (25 + (w32 (4 * y17)))) + 3)).toNat : Int), h19) else none
set_option maxRecDepth 100000 in
set_option maxHeartbeats 4000000 in
theorem zl_Mo_doneOf_L11 {l : Launch} {E : zE} {d : Nat} (hd : 7 ≤ d) (N : Nat) {Q : Int → zHp → Prop} {o3 o5 : Int} {oh : zHp} (K1 : zW l E d zm_Mo_doneOf 32 [.inr (.inr 85), zJk, zJk, .inl o3, zJk, .inl o5, zJk, zJk] [] oh Q) : ∀ (n : Nat) (x1 x2 x3 x5 x6 x7 : Int) (h : zHp), sh_Mo_doneOf_L11 N n x1 x2 x3 x5 x6 x7 h = some (o3, o5, oh) → zW l E d zm_Mo_doneOf 11 [.inr (.inr 85), .inl x1, .inl x2, .inl x3, zJk, .inl x5, .inl x6, .inl x7] [] h Q := by
  intro n
  induction n with
  | zero =>
    intro x1 x2 x3 x5 x6 x7 h hF
    cases (show (none : Option (Int × Int × zHp)) = some (o3, o5, oh) from hF)
  | succ n ih =>
    intro x1 x2 x3 x5 x6 x7 h hF
    rw [sh_Mo_doneOf_L11] at hF
    refine z_iload rfl rfl ?_
    refine z_iload rfl rfl ?_
    refine z_cge rfl (fun c8 => ?_) (fun c8 => ?_)
    · rw [if_pos c8] at hF
      refine zsubL (L' := [.inr (.inr 85), zJk, zJk, .inl x3, zJk, .inl x5, zJk, zJk]) ⟨Or.inl rfl, Or.inr rfl, Or.inr rfl, Or.inl rfl, Or.inl rfl, Or.inl rfl, Or.inr rfl, Or.inr rfl, trivial⟩ ?_
      obtain ⟨rfl, rfl, rfl⟩ := zinj3 hF
      exact K1
    · rw [if_neg c8] at hF
      refine z_iload rfl rfl ?_
      refine z_aload rfl rfl rfl ?_
      refine z_iload rfl rfl ?_
      refine z_iload rfl rfl ?_
      refine z_iload rfl rfl ?_
      refine z_aload rfl rfl rfl ?_
      refine z_getr (r := 86) rfl rfl rfl rfl ?_
      refine z_const rfl ?_
      refine z_ialdc 3 rfl rfl rfl (by decide) ?_
      refine z_iload rfl rfl ?_
      refine z_iadd rfl ?_
      refine z_const rfl ?_
      refine z_irem rfl (by decide) ?_
      obtain ⟨r14, h15, hc13, hF⟩ := zbind2 hF
      refine z_inv1 (d' := d - 1) (As := [.inl x1, .inl x2, .inl x3, .inl (w32 (((w32 ((h 86 3) + x7))).tmod 24))]) rfl rfl (zf_Mo_workOf (by omega) N _ _ _ _ hc13) rfl rfl rfl (by omega) rfl (fun r9 h10 hR11 hQ12 => ?_)
      obtain ⟨rfl, rfl⟩ := hQ12
      refine z_iadd rfl ?_
      refine z_istore rfl rfl rfl ?_
      refine z_iinc rfl rfl rfl ?_
      refine z_goto rfl ?_
      exact ih _ _ _ _ _ _ _ hF
set_option maxRecDepth 100000 in
set_option maxHeartbeats 4000000 in
theorem zw_Mo_doneOf {l : Launch} {E : zE} {d : Nat} (hd : 7 ≤ d) (N : Nat) (x1 x2 x3 x4 : Int) {h : zHp} {Q : Int → zHp → Prop} {r0 : Int} {h0 : zHp} (hF : sh_Mo_doneOf N x1 x2 x3 x4 h = some (r0, h0)) (K : Q r0 h0) : zW l E d zm_Mo_doneOf 0 [.inr (.inr 85), .inl x1, .inl x2, .inl x3, .inl x4, zJk, zJk, zJk] [] h Q := by
  rw [sh_Mo_doneOf] at hF
  refine z_const rfl ?_
  refine z_istore rfl rfl rfl ?_
  refine z_aload rfl rfl rfl ?_
  refine z_iload rfl rfl ?_
  refine z_iload rfl rfl ?_
  refine z_iload rfl rfl ?_
  refine z_iload rfl rfl ?_
  obtain ⟨r6, h7, hc5, hF⟩ := zbind2 hF
  refine z_inv1 (d' := d - 1) (As := [.inl x1, .inl x2, .inl x3, .inl x4]) rfl rfl (zf_Mo_stayOf (by omega) N _ _ _ _ hc5) rfl rfl rfl (by omega) rfl (fun r1 h2 hR3 hQ4 => ?_)
  obtain ⟨rfl, rfl⟩ := hQ4
  refine z_istore rfl rfl rfl ?_
  refine z_const rfl ?_
  refine z_istore rfl rfl rfl ?_
  refine zsubL (L' := [.inr (.inr 85), .inl x1, .inl x2, .inl x3, zJk, .inl 0, .inl r6, .inl 0]) ⟨Or.inl rfl, Or.inl rfl, Or.inl rfl, Or.inl rfl, Or.inr rfl, Or.inl rfl, Or.inl rfl, Or.inl rfl, trivial⟩ ?_
  obtain ⟨y17, y18, h19, hL16, hF⟩ := zbind3 hF
  refine zl_Mo_doneOf_L11 (by omega) N ?_ N _ _ _ _ _ _ _ hL16
  refine z_aload rfl rfl rfl ?_
  refine z_getr (r := 86) rfl rfl rfl rfl ?_
  refine z_const rfl ?_
  refine z_const rfl ?_
  refine z_iload rfl rfl ?_
  refine z_imul rfl ?_
  refine z_iadd rfl ?_
  refine z_const rfl ?_
  refine z_iadd rfl ?_
  obtain ⟨g20, hF⟩ := zguard hF
  refine z_iald rfl rfl g20.1 g20.2 ?_
  refine z_istore rfl rfl rfl ?_
  refine z_iload rfl rfl ?_
  refine z_iload rfl rfl ?_
  have hJ22 : zW l E d zm_Mo_doneOf 49 [zJk, zJk, zJk, zJk, zJk, zJk, zJk, zJk] [.inl (if y18 ≤ h19 86 (w32 ((w32 (25 + (w32 (4 * y17)))) + 3)).toNat then y18 else h19 86 (w32 ((w32 (25 + (w32 (4 * y17)))) + 3)).toNat : Int)] h19 Q := by
    obtain ⟨rfl, rfl⟩ := zinj2 hF
    exact z_iret rfl rfl K
  refine z_cle rfl (fun c21 => ?_) (fun c21 => ?_)
  · refine z_iload rfl rfl ?_
    refine zsubL (L' := [zJk, zJk, zJk, zJk, zJk, zJk, zJk, zJk]) ⟨Or.inr rfl, Or.inl rfl, Or.inl rfl, Or.inr rfl, Or.inl rfl, Or.inr rfl, Or.inl rfl, Or.inr rfl, trivial⟩ ?_
    exact zcast (by first | rfl | (simp only [if_pos c21] <;> rfl)) (by first | rfl | (simp only [if_pos c21] <;> rfl)) hJ22
  · refine z_iload rfl rfl ?_
    refine z_goto rfl ?_
    refine zsubL (L' := [zJk, zJk, zJk, zJk, zJk, zJk, zJk, zJk]) ⟨Or.inr rfl, Or.inl rfl, Or.inl rfl, Or.inr rfl, Or.inl rfl, Or.inr rfl, Or.inl rfl, Or.inr rfl, trivial⟩ ?_
    exact zcast (by first | rfl | (simp only [if_neg c21] <;> rfl)) (by first | rfl | (simp only [if_neg c21] <;> rfl)) hJ22
set_option maxRecDepth 100000 in
theorem zf_Mo_doneOf {l : Launch} {E : zE} {d : Nat} (hd : 7 ≤ d) (N : Nat) (x1 x2 x3 x4 : Int) {h : zHp} {r0 : Int} {h0 : zHp} (hF : sh_Mo_doneOf N x1 x2 x3 x4 h = some (r0, h0)) : zC l E d zm_Mo_doneOf [.inr (.inr 85), .inl x1, .inl x2, .inl x3, .inl x4] h (fun r1 h1 => r0 = r1 ∧ h0 = h1) :=
  zC_of zk_Mo_doneOf (by decide) rfl rfl (Nat.le_of_ble_eq_true rfl) (zw_Mo_doneOf hd N _ _ _ _ hF ⟨rfl, rfl⟩)
def sh_Mo_stay (N : Nat) (x1 x2 x3 x4 x5 : Int) (h : zHp) : Option (Int × zHp) := (if sh_Mo_isOx x1 h = 0 then some ((-1), h) else (if sh_Mo_isOx x2 h = 0 then some ((-1), h) else (if x1 = x2 then some ((-1), h) else (if sh_Mo_isField x3 h = 0 then some ((-1), h) else (if sh_Mo_isIn x4 1 24 = 0 then some ((-1), h) else (if x5 = 0 then zb2 (sh_Mo_stayOf N x1 x2 x3 x4 h) fun r29 h30 => some (r29, h30) else zb2 (sh_Mo_doneOf N x1 x2 x3 x4 h) fun r36 h37 => some (r36, h37)))))))
set_option maxRecDepth 100000 in
set_option maxHeartbeats 4000000 in
theorem zw_Mo_stay {l : Launch} {E : zE} {d : Nat} (hd : 8 ≤ d) (N : Nat) (x1 x2 x3 x4 x5 : Int) {h : zHp} {Q : Int → zHp → Prop} {r0 : Int} {h0 : zHp} (hF : sh_Mo_stay N x1 x2 x3 x4 x5 h = some (r0, h0)) (K : Q r0 h0) : zW l E d zm_Mo_stay 0 [.inr (.inr 85), .inl x1, .inl x2, .inl x3, .inl x4, .inl x5] [] h Q := by
  rw [sh_Mo_stay] at hF
  refine z_aload rfl rfl rfl ?_
  refine z_iload rfl rfl ?_
  refine z_inv1 (d' := d - 1) (As := [.inl x1]) rfl rfl (zf_Mo_isOx (by omega) _) rfl rfl rfl (by omega) rfl (fun r1 h2 hR3 hQ4 => ?_)
  obtain ⟨rfl, rfl⟩ := hQ4
  refine z_zeq rfl (fun c5 => ?_) (fun c5 => ?_)
  · rw [if_pos c5] at hF
    refine z_const rfl ?_
    obtain ⟨rfl, rfl⟩ := zinj2 hF
    exact z_iret rfl rfl K
  · rw [if_neg c5] at hF
    refine z_aload rfl rfl rfl ?_
    refine z_iload rfl rfl ?_
    refine z_inv1 (d' := d - 1) (As := [.inl x2]) rfl rfl (zf_Mo_isOx (by omega) _) rfl rfl rfl (by omega) rfl (fun r6 h7 hR8 hQ9 => ?_)
    obtain ⟨rfl, rfl⟩ := hQ9
    refine z_zeq rfl (fun c10 => ?_) (fun c10 => ?_)
    · rw [if_pos c10] at hF
      refine z_const rfl ?_
      obtain ⟨rfl, rfl⟩ := zinj2 hF
      exact z_iret rfl rfl K
    · rw [if_neg c10] at hF
      refine z_iload rfl rfl ?_
      refine z_iload rfl rfl ?_
      refine z_ceq rfl (fun c11 => ?_) (fun c11 => ?_)
      · rw [if_pos c11] at hF
        refine z_const rfl ?_
        obtain ⟨rfl, rfl⟩ := zinj2 hF
        exact z_iret rfl rfl K
      · rw [if_neg c11] at hF
        refine z_aload rfl rfl rfl ?_
        refine z_iload rfl rfl ?_
        refine z_inv1 (d' := d - 1) (As := [.inl x3]) rfl rfl (zf_Mo_isField (by omega) _) rfl rfl rfl (by omega) rfl (fun r12 h13 hR14 hQ15 => ?_)
        obtain ⟨rfl, rfl⟩ := hQ15
        refine z_zeq rfl (fun c16 => ?_) (fun c16 => ?_)
        · rw [if_pos c16] at hF
          refine z_const rfl ?_
          obtain ⟨rfl, rfl⟩ := zinj2 hF
          exact z_iret rfl rfl K
        · rw [if_neg c16] at hF
          refine z_iload rfl rfl ?_
          refine z_const rfl ?_
          refine z_const rfl ?_
          refine z_ivs1 (d' := d - 1) (As := [.inl x4, .inl 1, .inl 24]) rfl rfl (zf_Mo_isIn (by omega) _ _ _) rfl (by omega) rfl (fun r17 h18 hR19 hQ20 => ?_)
          obtain ⟨rfl, rfl⟩ := hQ20
          refine z_zne rfl (fun c21 => ?_) (fun c21 => ?_)
          · rw [if_neg c21] at hF
            refine z_iload rfl rfl ?_
            refine z_zeq rfl (fun c23 => ?_) (fun c23 => ?_)
            · rw [if_pos c23] at hF
              refine z_aload rfl rfl rfl ?_
              refine z_iload rfl rfl ?_
              refine z_iload rfl rfl ?_
              refine z_iload rfl rfl ?_
              refine z_iload rfl rfl ?_
              obtain ⟨r29, h30, hc28, hF⟩ := zbind2 hF
              refine z_inv1 (d' := d - 1) (As := [.inl x1, .inl x2, .inl x3, .inl x4]) rfl rfl (zf_Mo_stayOf (by omega) N _ _ _ _ hc28) rfl rfl rfl (by omega) rfl (fun r24 h25 hR26 hQ27 => ?_)
              obtain ⟨rfl, rfl⟩ := hQ27
              obtain ⟨rfl, rfl⟩ := zinj2 hF
              exact z_iret rfl rfl K
            · rw [if_neg c23] at hF
              refine z_aload rfl rfl rfl ?_
              refine z_iload rfl rfl ?_
              refine z_iload rfl rfl ?_
              refine z_iload rfl rfl ?_
              refine z_iload rfl rfl ?_
              obtain ⟨r36, h37, hc35, hF⟩ := zbind2 hF
              refine z_inv1 (d' := d - 1) (As := [.inl x1, .inl x2, .inl x3, .inl x4]) rfl rfl (zf_Mo_doneOf (by omega) N _ _ _ _ hc35) rfl rfl rfl (by omega) rfl (fun r31 h32 hR33 hQ34 => ?_)
              obtain ⟨rfl, rfl⟩ := hQ34
              refine z_goto rfl ?_
              obtain ⟨rfl, rfl⟩ := zinj2 hF
              exact z_iret rfl rfl K
          · rw [if_pos c21] at hF
            refine z_const rfl ?_
            obtain ⟨rfl, rfl⟩ := zinj2 hF
            exact z_iret rfl rfl K
set_option maxRecDepth 100000 in
theorem zf_Mo_stay {l : Launch} {E : zE} {d : Nat} (hd : 8 ≤ d) (N : Nat) (x1 x2 x3 x4 x5 : Int) {h : zHp} {r0 : Int} {h0 : zHp} (hF : sh_Mo_stay N x1 x2 x3 x4 x5 h = some (r0, h0)) : zC l E d zm_Mo_stay [.inr (.inr 85), .inl x1, .inl x2, .inl x3, .inl x4, .inl x5] h (fun r1 h1 => r0 = r1 ∧ h0 = h1) :=
  zC_of zk_Mo_stay (by decide) rfl rfl (Nat.le_of_ble_eq_true rfl) (zw_Mo_stay hd N _ _ _ _ _ hF ⟨rfl, rfl⟩)
def sh_Stays_measure_L2 (N : Nat) : Nat → Int → Int → Int → zHp → Option (zHp)
  | 0, _, _, _, _ => none
  | n + 1, x1, x2, x3, h => (if sh_Herd_oxen_14 h ≤ x3 then some h else zb2 (sh_Stays_hoursTill N x3 x1 x2 h) fun r11 h12 => sh_Stays_measure_L2 N n x1 x2 (w32 (x3 + 1)) (rput h12 40 8 x3 r11))
def sh_Stays_measure (N : Nat) (x1 x2 : Int) (h : zHp) : Option zHp := zb1 (sh_Stays_measure_L2 N N x1 x2 0 h) fun h18 => some h18
set_option maxRecDepth 100000 in
set_option maxHeartbeats 4000000 in
theorem zl_Stays_measure_L2 {l : Launch} {E : zE} {d : Nat} (hd : 6 ≤ d) (N : Nat) {Q : Int → zHp → Prop} {oh : zHp} (K1 : zW l E d zm_Stays_measure 19 [zJk, zJk, zJk, zJk] [] oh Q) : ∀ (n : Nat) (x1 x2 x3 : Int) (h : zHp), sh_Stays_measure_L2 N n x1 x2 x3 h = some oh → zW l E d zm_Stays_measure 2 [.inr (.inr 38), .inl x1, .inl x2, .inl x3] [] h Q := by
  intro n
  induction n with
  | zero =>
    intro x1 x2 x3 h hF
    cases (show (none : Option (zHp)) = some oh from hF)
  | succ n ih =>
    intro x1 x2 x3 h hF
    rw [sh_Stays_measure_L2] at hF
    refine z_iload rfl rfl ?_
    refine z_aload rfl rfl rfl ?_
    refine z_getr (r := 1) rfl rfl rfl rfl ?_
    refine z_getr (r := 14) rfl rfl rfl rfl ?_
    refine z_inv1 (d' := d - 1) (As := []) rfl rfl (zf_Herd_oxen_14 (by omega)) rfl rfl rfl (by omega) rfl (fun r1 h2 hR3 hQ4 => ?_)
    obtain ⟨rfl, rfl⟩ := hQ4
    refine z_cge rfl (fun c5 => ?_) (fun c5 => ?_)
    · rw [if_pos c5] at hF
      refine zsubL (L' := [zJk, zJk, zJk, zJk]) ⟨Or.inr rfl, Or.inr rfl, Or.inr rfl, Or.inr rfl, trivial⟩ ?_
      obtain rfl := Option.some.inj hF
      exact K1
    · rw [if_neg c5] at hF
      refine z_aload rfl rfl rfl ?_
      refine z_getr (r := 39) rfl rfl rfl rfl ?_
      refine z_iload rfl rfl ?_
      refine z_aload rfl rfl rfl ?_
      refine z_iload rfl rfl ?_
      refine z_iload rfl rfl ?_
      refine z_iload rfl rfl ?_
      obtain ⟨r11, h12, hc10, hF⟩ := zbind2 hF
      refine z_inv1 (d' := d - 1) (As := [.inl x3, .inl x1, .inl x2]) rfl rfl (zf_Stays_hoursTill (by omega) N _ _ _ hc10) rfl rfl rfl (by omega) rfl (fun r6 h7 hR8 hQ9 => ?_)
      obtain ⟨rfl, rfl⟩ := hQ9
      refine z_inv0 (d' := d - 1) (As := [.inl x3, .inl r11]) rfl rfl (zf_Row_put (r := 39) (a := 40) (n := 8) rfl rfl _ _) rfl rfl rfl (by omega) rfl (fun r13 h14 hR15 hQ16 => ?_)
      obtain ⟨rfl, rfl⟩ := hQ16
      refine z_iinc rfl rfl rfl ?_
      refine z_goto rfl ?_
      exact ih _ _ _ _ hF
set_option maxRecDepth 100000 in
set_option maxHeartbeats 4000000 in
theorem zw_Stays_measure {l : Launch} {E : zE} {d : Nat} (hd : 6 ≤ d) (N : Nat) (x1 x2 : Int) {h : zHp} {Q : Int → zHp → Prop} {h0 : zHp} (hF : sh_Stays_measure N x1 x2 h = some h0) (K : Q 0 h0) : zW l E d zm_Stays_measure 0 [.inr (.inr 38), .inl x1, .inl x2, zJk] [] h Q := by
  rw [sh_Stays_measure] at hF
  refine z_const rfl ?_
  refine z_istore rfl rfl rfl ?_
  obtain ⟨h18, hL17, hF⟩ := zbind1 hF
  refine zl_Stays_measure_L2 (by omega) N ?_ N _ _ _ _ hL17
  obtain rfl := Option.some.inj hF
  exact z_ret rfl rfl rfl K
set_option maxRecDepth 100000 in
theorem zf_Stays_measure {l : Launch} {E : zE} {d : Nat} (hd : 6 ≤ d) (N : Nat) (x1 x2 : Int) {h : zHp} {h0 : zHp} (hF : sh_Stays_measure N x1 x2 h = some h0) : zC l E d zm_Stays_measure [.inr (.inr 38), .inl x1, .inl x2] h (fun r1 h1 => 0 = r1 ∧ h0 = h1) :=
  zC_of zk_Stays_measure (by decide) rfl rfl (Nat.le_of_ble_eq_true rfl) (zw_Stays_measure hd N _ _ hF ⟨rfl, rfl⟩)
def sh_Stays_measured (x1 x2 : Int) (h : zHp) : Int := zmin (rget h 40 8 x1) (rget h 40 8 x2)
set_option maxRecDepth 100000 in
set_option maxHeartbeats 4000000 in
theorem zw_Stays_measured {l : Launch} {E : zE} {d : Nat} (hd : 2 ≤ d) (x1 x2 : Int) {h : zHp} {Q : Int → zHp → Prop} {r0 : Int} (hF : sh_Stays_measured x1 x2 h = r0) (K : Q r0 h) : zW l E d zm_Stays_measured 0 [.inr (.inr 38), .inl x1, .inl x2] [] h Q := by
  rw [sh_Stays_measured] at hF
  refine z_aload rfl rfl rfl ?_
  refine z_getr (r := 39) rfl rfl rfl rfl ?_
  refine z_iload rfl rfl ?_
  refine z_inv1 (d' := d - 1) (As := [.inl x1]) rfl rfl (zf_Row_get (r := 39) (a := 40) (n := 8) rfl rfl _) rfl rfl rfl (by omega) rfl (fun r1 h2 hR3 hQ4 => ?_)
  obtain ⟨rfl, rfl⟩ := hQ4
  refine z_aload rfl rfl rfl ?_
  refine z_getr (r := 39) rfl rfl rfl rfl ?_
  refine z_iload rfl rfl ?_
  refine z_inv1 (d' := d - 1) (As := [.inl x2]) rfl rfl (zf_Row_get (r := 39) (a := 40) (n := 8) rfl rfl _) rfl rfl rfl (by omega) rfl (fun r5 h6 hR7 hQ8 => ?_)
  obtain ⟨rfl, rfl⟩ := hQ8
  refine z_mmin rfl (by decide) (by omega) rfl ?_
  subst hF
  exact z_iret rfl rfl K
set_option maxRecDepth 100000 in
theorem zf_Stays_measured {l : Launch} {E : zE} {d : Nat} (hd : 2 ≤ d) (x1 x2 : Int) {h : zHp} : zC l E d zm_Stays_measured [.inr (.inr 38), .inl x1, .inl x2] h (fun r1 h1 => sh_Stays_measured x1 x2 h = r1 ∧ h = h1) :=
  zC_of zk_Stays_measured (by decide) rfl rfl (Nat.le_of_ble_eq_true rfl) (zw_Stays_measured hd _ _ rfl ⟨rfl, rfl⟩)
def sh_Planner_measurePairs_L12 (N : Nat) : Nat → Int → Int → Int → zHp → Option (Int × Int × zHp)
  | 0, _, _, _, _ => none
  | n + 1, x1, x2, x3, h => (if sh_Herd_oxen_14 h ≤ x3 then some (x1, x2, h) else zb2 (sh_Stays_doneIn N x2 x3 x1 (sh_Stays_measured x2 x3 h) h) fun r20 h21 => sh_Planner_measurePairs_L12 N n x1 x2 (w32 (x3 + 1)) (rput h21 70 400 (w32 ((w32 ((w32 (x1 * 100)) + (w32 (x2 * 10)))) + x3)) r20))
def sh_Planner_measurePairs_L2 (N : Nat) : Nat → Int → Int → zHp → Option (zHp)
  | 0, _, _, _ => none
  | n + 1, x1, x2, h => (if sh_Herd_oxen_14 h ≤ x2 then some h else zb3 (sh_Planner_measurePairs_L12 N N x1 x2 (w32 (x2 + 1)) h) fun y27 y28 h29 => sh_Planner_measurePairs_L2 N n y27 (w32 (y28 + 1)) h29)
def sh_Planner_measurePairs (N : Nat) (x1 : Int) (h : zHp) : Option zHp := zb1 (sh_Planner_measurePairs_L2 N N x1 0 h) fun h31 => some h31
set_option maxRecDepth 100000 in
set_option maxHeartbeats 4000000 in
theorem zl_Planner_measurePairs_L12 {l : Launch} {E : zE} {d : Nat} (hd : 5 ≤ d) (N : Nat) {Q : Int → zHp → Prop} {o1 o2 : Int} {oh : zHp} (K1 : zW l E d zm_Planner_measurePairs 47 [.inr (.inr 68), .inl o1, .inl o2, zJk, zJk, zJk] [] oh Q) : ∀ (n : Nat) (x1 x2 x3 : Int) (h : zHp), sh_Planner_measurePairs_L12 N n x1 x2 x3 h = some (o1, o2, oh) → zW l E d zm_Planner_measurePairs 12 [.inr (.inr 68), .inl x1, .inl x2, .inl x3, zJk, zJk] [] h Q := by
  intro n
  induction n with
  | zero =>
    intro x1 x2 x3 h hF
    cases (show (none : Option (Int × Int × zHp)) = some (o1, o2, oh) from hF)
  | succ n ih =>
    intro x1 x2 x3 h hF
    rw [sh_Planner_measurePairs_L12] at hF
    refine z_iload rfl rfl ?_
    refine z_aload rfl rfl rfl ?_
    refine z_getr (r := 1) rfl rfl rfl rfl ?_
    refine z_getr (r := 14) rfl rfl rfl rfl ?_
    refine z_inv1 (d' := d - 1) (As := []) rfl rfl (zf_Herd_oxen_14 (by omega)) rfl rfl rfl (by omega) rfl (fun r6 h7 hR8 hQ9 => ?_)
    obtain ⟨rfl, rfl⟩ := hQ9
    refine z_cge rfl (fun c10 => ?_) (fun c10 => ?_)
    · rw [if_pos c10] at hF
      refine zsubL (L' := [.inr (.inr 68), .inl x1, .inl x2, zJk, zJk, zJk]) ⟨Or.inl rfl, Or.inl rfl, Or.inl rfl, Or.inr rfl, Or.inl rfl, Or.inl rfl, trivial⟩ ?_
      obtain ⟨rfl, rfl, rfl⟩ := zinj3 hF
      exact K1
    · rw [if_neg c10] at hF
      refine z_aload rfl rfl rfl ?_
      refine z_getr (r := 38) rfl rfl rfl rfl ?_
      refine z_iload rfl rfl ?_
      refine z_iload rfl rfl ?_
      refine z_inv1 (d' := d - 1) (As := [.inl x2, .inl x3]) rfl rfl (zf_Stays_measured (by omega) _ _) rfl rfl rfl (by omega) rfl (fun r11 h12 hR13 hQ14 => ?_)
      obtain ⟨rfl, rfl⟩ := hQ14
      refine z_istore rfl rfl rfl ?_
      refine z_aload rfl rfl rfl ?_
      refine z_getr (r := 38) rfl rfl rfl rfl ?_
      refine z_iload rfl rfl ?_
      refine z_iload rfl rfl ?_
      refine z_iload rfl rfl ?_
      refine z_iload rfl rfl ?_
      obtain ⟨r20, h21, hc19, hF⟩ := zbind2 hF
      refine z_inv1 (d' := d - 1) (As := [.inl x2, .inl x3, .inl x1, .inl (sh_Stays_measured x2 x3 h)]) rfl rfl (zf_Stays_doneIn (by omega) N _ _ _ _ hc19) rfl rfl rfl (by omega) rfl (fun r15 h16 hR17 hQ18 => ?_)
      obtain ⟨rfl, rfl⟩ := hQ18
      refine z_istore rfl rfl rfl ?_
      refine z_aload rfl rfl rfl ?_
      refine z_getr (r := 69) rfl rfl rfl rfl ?_
      refine z_iload rfl rfl ?_
      refine z_const rfl ?_
      refine z_imul rfl ?_
      refine z_iload rfl rfl ?_
      refine z_const rfl ?_
      refine z_imul rfl ?_
      refine z_iadd rfl ?_
      refine z_iload rfl rfl ?_
      refine z_iadd rfl ?_
      refine z_iload rfl rfl ?_
      refine z_inv0 (d' := d - 1) (As := [.inl (w32 ((w32 ((w32 (x1 * 100)) + (w32 (x2 * 10)))) + x3)), .inl r20]) rfl rfl (zf_Row_put (r := 69) (a := 70) (n := 400) rfl rfl _ _) rfl rfl rfl (by omega) rfl (fun r22 h23 hR24 hQ25 => ?_)
      obtain ⟨rfl, rfl⟩ := hQ25
      refine z_iinc rfl rfl rfl ?_
      refine z_goto rfl ?_
      refine zsubL (L' := [.inr (.inr 68), .inl x1, .inl x2, .inl (w32 (x3 + 1)), zJk, zJk]) ⟨Or.inl rfl, Or.inl rfl, Or.inl rfl, Or.inl rfl, Or.inr rfl, Or.inr rfl, trivial⟩ ?_
      exact ih _ _ _ _ hF
set_option maxRecDepth 100000 in
set_option maxHeartbeats 4000000 in
theorem zl_Planner_measurePairs_L2 {l : Launch} {E : zE} {d : Nat} (hd : 5 ≤ d) (N : Nat) {Q : Int → zHp → Prop} {oh : zHp} (K1 : zW l E d zm_Planner_measurePairs 49 [zJk, zJk, zJk, zJk, zJk, zJk] [] oh Q) : ∀ (n : Nat) (x1 x2 : Int) (h : zHp), sh_Planner_measurePairs_L2 N n x1 x2 h = some oh → zW l E d zm_Planner_measurePairs 2 [.inr (.inr 68), .inl x1, .inl x2, zJk, zJk, zJk] [] h Q := by
  intro n
  induction n with
  | zero =>
    intro x1 x2 h hF
    cases (show (none : Option (zHp)) = some oh from hF)
  | succ n ih =>
    intro x1 x2 h hF
    rw [sh_Planner_measurePairs_L2] at hF
    refine z_iload rfl rfl ?_
    refine z_aload rfl rfl rfl ?_
    refine z_getr (r := 1) rfl rfl rfl rfl ?_
    refine z_getr (r := 14) rfl rfl rfl rfl ?_
    refine z_inv1 (d' := d - 1) (As := []) rfl rfl (zf_Herd_oxen_14 (by omega)) rfl rfl rfl (by omega) rfl (fun r1 h2 hR3 hQ4 => ?_)
    obtain ⟨rfl, rfl⟩ := hQ4
    refine z_cge rfl (fun c5 => ?_) (fun c5 => ?_)
    · rw [if_pos c5] at hF
      refine zsubL (L' := [zJk, zJk, zJk, zJk, zJk, zJk]) ⟨Or.inr rfl, Or.inr rfl, Or.inr rfl, Or.inl rfl, Or.inl rfl, Or.inl rfl, trivial⟩ ?_
      obtain rfl := Option.some.inj hF
      exact K1
    · rw [if_neg c5] at hF
      refine z_iload rfl rfl ?_
      refine z_const rfl ?_
      refine z_iadd rfl ?_
      refine z_istore rfl rfl rfl ?_
      obtain ⟨y27, y28, h29, hL26, hF⟩ := zbind3 hF
      refine zl_Planner_measurePairs_L12 (by omega) N ?_ N _ _ _ _ hL26
      refine z_iinc rfl rfl rfl ?_
      refine z_goto rfl ?_
      exact ih _ _ _ hF
set_option maxRecDepth 100000 in
set_option maxHeartbeats 4000000 in
theorem zw_Planner_measurePairs {l : Launch} {E : zE} {d : Nat} (hd : 5 ≤ d) (N : Nat) (x1 : Int) {h : zHp} {Q : Int → zHp → Prop} {h0 : zHp} (hF : sh_Planner_measurePairs N x1 h = some h0) (K : Q 0 h0) : zW l E d zm_Planner_measurePairs 0 [.inr (.inr 68), .inl x1, zJk, zJk, zJk, zJk] [] h Q := by
  rw [sh_Planner_measurePairs] at hF
  refine z_const rfl ?_
  refine z_istore rfl rfl rfl ?_
  obtain ⟨h31, hL30, hF⟩ := zbind1 hF
  refine zl_Planner_measurePairs_L2 (by omega) N ?_ N _ _ _ hL30
  obtain rfl := Option.some.inj hF
  exact z_ret rfl rfl rfl K
set_option maxRecDepth 100000 in
theorem zf_Planner_measurePairs {l : Launch} {E : zE} {d : Nat} (hd : 5 ≤ d) (N : Nat) (x1 : Int) {h : zHp} {h0 : zHp} (hF : sh_Planner_measurePairs N x1 h = some h0) : zC l E d zm_Planner_measurePairs [.inr (.inr 68), .inl x1] h (fun r1 h1 => 0 = r1 ∧ h0 = h1) :=
  zC_of zk_Planner_measurePairs (by decide) rfl rfl (Nat.le_of_ble_eq_true rfl) (zw_Planner_measurePairs hd N _ hF ⟨rfl, rfl⟩)
def sh_Planner_follow_L4 (N : Nat) : Nat → Int → Int → zHp → Option (zHp)
  | 0, _, _, _ => none
  | n + 1, x1, x2, h => (if sh_Herd_fields_14 h ≤ x2 then some h else sh_Planner_follow_L4 N n (zor x1 (if rget h 74 1024 (w32 ((w32 (x2 * 256)) + x1)) = (-1) then 0 else zor (zshl 1 (w32 (((rget h 74 1024 (w32 ((w32 (x2 * 256)) + x1)))).tdiv 10))) (zshl 1 (w32 (((rget h 74 1024 (w32 ((w32 (x2 * 256)) + x1)))).tmod 10))) : Int)) (w32 (x2 + 1)) (rput h 76 4 x2 (rget h 74 1024 (w32 ((w32 (x2 * 256)) + x1)))))
def sh_Planner_follow (N : Nat) (h : zHp) : Option zHp := zb1 (sh_Planner_follow_L4 N N 0 0 h) fun h17 => some h17
set_option maxRecDepth 100000 in
set_option maxHeartbeats 4000000 in
theorem zl_Planner_follow_L4 {l : Launch} {E : zE} {d : Nat} (hd : 3 ≤ d) (N : Nat) {Q : Int → zHp → Prop} {oh : zHp} (K1 : zW l E d zm_Planner_follow 45 [zJk, zJk, zJk, zJk] [] oh Q) : ∀ (n : Nat) (x1 x2 : Int) (h : zHp), sh_Planner_follow_L4 N n x1 x2 h = some oh → zW l E d zm_Planner_follow 4 [.inr (.inr 68), .inl x1, .inl x2, zJk] [] h Q := by
  intro n
  induction n with
  | zero =>
    intro x1 x2 h hF
    cases (show (none : Option (zHp)) = some oh from hF)
  | succ n ih =>
    intro x1 x2 h hF
    rw [sh_Planner_follow_L4] at hF
    refine z_iload rfl rfl ?_
    refine z_aload rfl rfl rfl ?_
    refine z_getr (r := 1) rfl rfl rfl rfl ?_
    refine z_getr (r := 14) rfl rfl rfl rfl ?_
    refine z_inv1 (d' := d - 1) (As := []) rfl rfl (zf_Herd_fields_14 (by omega)) rfl rfl rfl (by omega) rfl (fun r1 h2 hR3 hQ4 => ?_)
    obtain ⟨rfl, rfl⟩ := hQ4
    refine z_cge rfl (fun c5 => ?_) (fun c5 => ?_)
    · rw [if_pos c5] at hF
      refine zsubL (L' := [zJk, zJk, zJk, zJk]) ⟨Or.inr rfl, Or.inr rfl, Or.inr rfl, Or.inl rfl, trivial⟩ ?_
      obtain rfl := Option.some.inj hF
      exact K1
    · rw [if_neg c5] at hF
      refine z_aload rfl rfl rfl ?_
      refine z_getr (r := 73) rfl rfl rfl rfl ?_
      refine z_iload rfl rfl ?_
      refine z_const rfl ?_
      refine z_imul rfl ?_
      refine z_iload rfl rfl ?_
      refine z_iadd rfl ?_
      refine z_inv1 (d' := d - 1) (As := [.inl (w32 ((w32 (x2 * 256)) + x1))]) rfl rfl (zf_Row_get (r := 73) (a := 74) (n := 1024) rfl rfl _) rfl rfl rfl (by omega) rfl (fun r6 h7 hR8 hQ9 => ?_)
      obtain ⟨rfl, rfl⟩ := hQ9
      refine z_istore rfl rfl rfl ?_
      refine z_aload rfl rfl rfl ?_
      refine z_getr (r := 75) rfl rfl rfl rfl ?_
      refine z_iload rfl rfl ?_
      refine z_iload rfl rfl ?_
      refine z_inv0 (d' := d - 1) (As := [.inl x2, .inl (rget h 74 1024 (w32 ((w32 (x2 * 256)) + x1)))]) rfl rfl (zf_Row_put (r := 75) (a := 76) (n := 4) rfl rfl _ _) rfl rfl rfl (by omega) rfl (fun r10 h11 hR12 hQ13 => ?_)
      obtain ⟨rfl, rfl⟩ := hQ13
      refine z_iload rfl rfl ?_
      refine z_iload rfl rfl ?_
      refine z_const rfl ?_
      have hJ15 : zW l E d zm_Planner_follow 41 [.inr (.inr 68), zJk, .inl x2, zJk] [.inl (if rget h 74 1024 (w32 ((w32 (x2 * 256)) + x1)) = (-1) then 0 else zor (zshl 1 (w32 (((rget h 74 1024 (w32 ((w32 (x2 * 256)) + x1)))).tdiv 10))) (zshl 1 (w32 (((rget h 74 1024 (w32 ((w32 (x2 * 256)) + x1)))).tmod 10))) : Int), .inl x1] (rput h 76 4 x2 (rget h 74 1024 (w32 ((w32 (x2 * 256)) + x1)))) Q := by
        refine z_ior rfl ?_
        refine z_istore rfl rfl rfl ?_
        refine z_iinc rfl rfl rfl ?_
        refine z_goto rfl ?_
        exact ih _ _ _ hF
      refine z_cne rfl (fun c14 => ?_) (fun c14 => ?_)
      · refine z_const rfl ?_
        refine z_iload rfl rfl ?_
        refine z_const rfl ?_
        refine z_idiv rfl (by decide) ?_
        refine z_ishl rfl ?_
        refine z_const rfl ?_
        refine z_iload rfl rfl ?_
        refine z_const rfl ?_
        refine z_irem rfl (by decide) ?_
        refine z_ishl rfl ?_
        refine z_ior rfl ?_
        refine zsubL (L' := [.inr (.inr 68), zJk, .inl x2, zJk]) ⟨Or.inl rfl, Or.inr rfl, Or.inl rfl, Or.inr rfl, trivial⟩ ?_
        exact zcast (by first | rfl | (simp only [if_neg c14] <;> rfl)) (by first | rfl | (simp only [if_neg c14] <;> rfl)) hJ15
      · refine z_const rfl ?_
        refine z_goto rfl ?_
        refine zsubL (L' := [.inr (.inr 68), zJk, .inl x2, zJk]) ⟨Or.inl rfl, Or.inr rfl, Or.inl rfl, Or.inr rfl, trivial⟩ ?_
        exact zcast (by first | rfl | (simp only [if_pos c14] <;> rfl)) (by first | rfl | (simp only [if_pos c14] <;> rfl)) hJ15
set_option maxRecDepth 100000 in
set_option maxHeartbeats 4000000 in
theorem zw_Planner_follow {l : Launch} {E : zE} {d : Nat} (hd : 3 ≤ d) (N : Nat) {h : zHp} {Q : Int → zHp → Prop} {h0 : zHp} (hF : sh_Planner_follow N h = some h0) (K : Q 0 h0) : zW l E d zm_Planner_follow 0 [.inr (.inr 68), zJk, zJk, zJk] [] h Q := by
  rw [sh_Planner_follow] at hF
  refine z_const rfl ?_
  refine z_istore rfl rfl rfl ?_
  refine z_const rfl ?_
  refine z_istore rfl rfl rfl ?_
  obtain ⟨h17, hL16, hF⟩ := zbind1 hF
  refine zl_Planner_follow_L4 (by omega) N ?_ N _ _ _ hL16
  obtain rfl := Option.some.inj hF
  exact z_ret rfl rfl rfl K
set_option maxRecDepth 100000 in
theorem zf_Planner_follow {l : Launch} {E : zE} {d : Nat} (hd : 3 ≤ d) (N : Nat) {h : zHp} {h0 : zHp} (hF : sh_Planner_follow N h = some h0) : zC l E d zm_Planner_follow [.inr (.inr 68)] h (fun r1 h1 => 0 = r1 ∧ h0 = h1) :=
  zC_of zk_Planner_follow (by decide) rfl rfl (Nat.le_of_ble_eq_true rfl) (zw_Planner_follow hd N hF ⟨rfl, rfl⟩)
def sh_Planner_search_L18 (N : Nat) : Nat → Int → Int → Int → zHp → Option (Int × Int × zHp)
  | 0, _, _, _, _ => none
  | n + 1, x1, x2, x3, h => (if 256 ≤ x3 then some (x1, x2, h) else sh_Planner_search_L18 N n x1 x2 (w32 (x3 + 1)) (rput h 72 1024 (w32 ((w32 (x2 * 256)) + x3)) (-1)))
def sh_Planner_search_L2 (N : Nat) : Nat → Int → Int → zHp → Option (zHp)
  | 0, _, _, _ => none
  | n + 1, x1, x2, h => (if sh_Herd_fields_14 h ≤ x2 then some h else zb1 (sh_Stays_measure N x2 x1 h) fun h11 => zb1 (sh_Planner_measurePairs N x2 h11) fun h17 => zb3 (sh_Planner_search_L18 N N x1 x2 0 h17) fun y24 y25 h26 => sh_Planner_search_L2 N n y24 (w32 (y25 + 1)) h26)
def sh_Planner_search (N : Nat) (x1 : Int) (h : zHp) : Option zHp := zb1 (sh_Planner_search_L2 N N x1 0 h) fun h28 => zb2 (sh_Planner_yieldFrom N 0 0 h28) fun r34 h35 => zb1 (sh_Planner_follow N (zst h35 68 6 r34)) fun h41 => some h41
set_option maxRecDepth 100000 in
set_option maxHeartbeats 4000000 in
theorem zl_Planner_search_L18 {l : Launch} {E : zE} {d : Nat} (hd : 24 ≤ d) (N : Nat) {Q : Int → zHp → Prop} {o1 o2 : Int} {oh : zHp} (K1 : zW l E d zm_Planner_search 32 [.inr (.inr 68), .inl o1, .inl o2, zJk] [] oh Q) : ∀ (n : Nat) (x1 x2 x3 : Int) (h : zHp), sh_Planner_search_L18 N n x1 x2 x3 h = some (o1, o2, oh) → zW l E d zm_Planner_search 18 [.inr (.inr 68), .inl x1, .inl x2, .inl x3] [] h Q := by
  intro n
  induction n with
  | zero =>
    intro x1 x2 x3 h hF
    cases (show (none : Option (Int × Int × zHp)) = some (o1, o2, oh) from hF)
  | succ n ih =>
    intro x1 x2 x3 h hF
    rw [sh_Planner_search_L18] at hF
    refine z_iload rfl rfl ?_
    refine z_const rfl ?_
    refine z_cge rfl (fun c18 => ?_) (fun c18 => ?_)
    · rw [if_pos c18] at hF
      refine zsubL (L' := [.inr (.inr 68), .inl x1, .inl x2, zJk]) ⟨Or.inl rfl, Or.inl rfl, Or.inl rfl, Or.inr rfl, trivial⟩ ?_
      obtain ⟨rfl, rfl, rfl⟩ := zinj3 hF
      exact K1
    · rw [if_neg c18] at hF
      refine z_aload rfl rfl rfl ?_
      refine z_getr (r := 71) rfl rfl rfl rfl ?_
      refine z_iload rfl rfl ?_
      refine z_const rfl ?_
      refine z_imul rfl ?_
      refine z_iload rfl rfl ?_
      refine z_iadd rfl ?_
      refine z_const rfl ?_
      refine z_inv0 (d' := d - 1) (As := [.inl (w32 ((w32 (x2 * 256)) + x3)), .inl (-1)]) rfl rfl (zf_Row_put (r := 71) (a := 72) (n := 1024) rfl rfl _ _) rfl rfl rfl (by omega) rfl (fun r19 h20 hR21 hQ22 => ?_)
      obtain ⟨rfl, rfl⟩ := hQ22
      refine z_iinc rfl rfl rfl ?_
      refine z_goto rfl ?_
      exact ih _ _ _ _ hF
set_option maxRecDepth 100000 in
set_option maxHeartbeats 4000000 in
theorem zl_Planner_search_L2 {l : Launch} {E : zE} {d : Nat} (hd : 24 ≤ d) (N : Nat) {Q : Int → zHp → Prop} {oh : zHp} (K1 : zW l E d zm_Planner_search 34 [.inr (.inr 68), zJk, zJk, zJk] [] oh Q) : ∀ (n : Nat) (x1 x2 : Int) (h : zHp), sh_Planner_search_L2 N n x1 x2 h = some oh → zW l E d zm_Planner_search 2 [.inr (.inr 68), .inl x1, .inl x2, zJk] [] h Q := by
  intro n
  induction n with
  | zero =>
    intro x1 x2 h hF
    cases (show (none : Option (zHp)) = some oh from hF)
  | succ n ih =>
    intro x1 x2 h hF
    rw [sh_Planner_search_L2] at hF
    refine z_iload rfl rfl ?_
    refine z_aload rfl rfl rfl ?_
    refine z_getr (r := 1) rfl rfl rfl rfl ?_
    refine z_getr (r := 14) rfl rfl rfl rfl ?_
    refine z_inv1 (d' := d - 1) (As := []) rfl rfl (zf_Herd_fields_14 (by omega)) rfl rfl rfl (by omega) rfl (fun r1 h2 hR3 hQ4 => ?_)
    obtain ⟨rfl, rfl⟩ := hQ4
    refine z_cge rfl (fun c5 => ?_) (fun c5 => ?_)
    · rw [if_pos c5] at hF
      refine zsubL (L' := [.inr (.inr 68), zJk, zJk, zJk]) ⟨Or.inl rfl, Or.inr rfl, Or.inr rfl, Or.inl rfl, trivial⟩ ?_
      obtain rfl := Option.some.inj hF
      exact K1
    · rw [if_neg c5] at hF
      refine z_aload rfl rfl rfl ?_
      refine z_getr (r := 38) rfl rfl rfl rfl ?_
      refine z_iload rfl rfl ?_
      refine z_iload rfl rfl ?_
      obtain ⟨h11, hc10, hF⟩ := zbind1 hF
      refine z_inv0 (d' := d - 1) (As := [.inl x2, .inl x1]) rfl rfl (zf_Stays_measure (by omega) N _ _ hc10) rfl rfl rfl (by omega) rfl (fun r6 h7 hR8 hQ9 => ?_)
      obtain ⟨rfl, rfl⟩ := hQ9
      refine z_aload rfl rfl rfl ?_
      refine z_iload rfl rfl ?_
      obtain ⟨h17, hc16, hF⟩ := zbind1 hF
      refine z_inv0 (d' := d - 1) (As := [.inl x2]) rfl rfl (zf_Planner_measurePairs (by omega) N _ hc16) rfl rfl rfl (by omega) rfl (fun r12 h13 hR14 hQ15 => ?_)
      obtain ⟨rfl, rfl⟩ := hQ15
      refine z_const rfl ?_
      refine z_istore rfl rfl rfl ?_
      obtain ⟨y24, y25, h26, hL23, hF⟩ := zbind3 hF
      refine zl_Planner_search_L18 (by omega) N ?_ N _ _ _ _ hL23
      refine z_iinc rfl rfl rfl ?_
      refine z_goto rfl ?_
      exact ih _ _ _ hF
set_option maxRecDepth 100000 in
set_option maxHeartbeats 4000000 in
theorem zw_Planner_search {l : Launch} {E : zE} {d : Nat} (hd : 24 ≤ d) (N : Nat) (x1 : Int) {h : zHp} {Q : Int → zHp → Prop} {h0 : zHp} (hF : sh_Planner_search N x1 h = some h0) (K : Q 0 h0) : zW l E d zm_Planner_search 0 [.inr (.inr 68), .inl x1, zJk, zJk] [] h Q := by
  rw [sh_Planner_search] at hF
  refine z_const rfl ?_
  refine z_istore rfl rfl rfl ?_
  obtain ⟨h28, hL27, hF⟩ := zbind1 hF
  refine zl_Planner_search_L2 (by omega) N ?_ N _ _ _ hL27
  refine z_aload rfl rfl rfl ?_
  refine z_aload rfl rfl rfl ?_
  refine z_const rfl ?_
  refine z_const rfl ?_
  obtain ⟨r34, h35, hc33, hF⟩ := zbind2 hF
  refine z_inv1 (d' := d - 1) (As := [.inl 0, .inl 0]) rfl rfl (zf_Planner_yieldFrom (by omega) N _ _ hc33) rfl rfl rfl (by omega) rfl (fun r29 h30 hR31 hQ32 => ?_)
  obtain ⟨rfl, rfl⟩ := hQ32
  refine z_puti rfl rfl rfl rfl ?_
  refine z_aload rfl rfl rfl ?_
  obtain ⟨h41, hc40, hF⟩ := zbind1 hF
  refine z_inv0 (d' := d - 1) (As := []) rfl rfl (zf_Planner_follow (by omega) N hc40) rfl rfl rfl (by omega) rfl (fun r36 h37 hR38 hQ39 => ?_)
  obtain ⟨rfl, rfl⟩ := hQ39
  obtain rfl := Option.some.inj hF
  exact z_ret rfl rfl rfl K
set_option maxRecDepth 100000 in
theorem zf_Planner_search {l : Launch} {E : zE} {d : Nat} (hd : 24 ≤ d) (N : Nat) (x1 : Int) {h : zHp} {h0 : zHp} (hF : sh_Planner_search N x1 h = some h0) : zC l E d zm_Planner_search [.inr (.inr 68), .inl x1] h (fun r1 h1 => 0 = r1 ∧ h0 = h1) :=
  zC_of zk_Planner_search (by decide) rfl rfl (Nat.le_of_ble_eq_true rfl) (zw_Planner_search hd N _ hF ⟨rfl, rfl⟩)
def sh_Ox_plan (N : Nat) (x1 x2 : Int) (h : zHp) : Option (Int × zHp) := (if sh_Ox_within x1 1 24 = 0 then some ((-2), h) else (if x2 = (-1) then zb1 (sh_Planner_search N x1 h) fun h12 => some ((if x2 = (-1) then h12 68 6 else rget h12 76 4 x2 : Int), h12) else (if sh_Ox_isField x2 h = 0 then some ((-2), h) else zb1 (sh_Planner_search N x1 h) fun h29 => some ((if x2 = (-1) then h29 68 6 else rget h29 76 4 x2 : Int), h29))))
set_option maxRecDepth 100000 in
set_option maxHeartbeats 4000000 in
theorem zw_Ox_plan {l : Launch} {E : zE} {d : Nat} (hd : 25 ≤ d) (N : Nat) (x1 x2 : Int) {h : zHp} {Q : Int → zHp → Prop} {r0 : Int} {h0 : zHp} (hF : sh_Ox_plan N x1 x2 h = some (r0, h0)) (K : Q r0 h0) : zW l E d zm_Ox_plan 0 [.inr (.inr 0), .inl x1, .inl x2] [] h Q := by
  rw [sh_Ox_plan] at hF
  refine z_iload rfl rfl ?_
  refine z_const rfl ?_
  refine z_const rfl ?_
  refine z_ivs1 (d' := d - 1) (As := [.inl x1, .inl 1, .inl 24]) rfl rfl (zf_Ox_within (by omega) _ _ _) rfl (by omega) rfl (fun r1 h2 hR3 hQ4 => ?_)
  obtain ⟨rfl, rfl⟩ := hQ4
  refine z_zeq rfl (fun c5 => ?_) (fun c5 => ?_)
  · rw [if_pos c5] at hF
    refine z_const rfl ?_
    obtain ⟨rfl, rfl⟩ := zinj2 hF
    exact z_iret rfl rfl K
  · rw [if_neg c5] at hF
    refine z_iload rfl rfl ?_
    refine z_const rfl ?_
    refine z_ceq rfl (fun c6 => ?_) (fun c6 => ?_)
    · rw [if_pos c6] at hF
      refine z_aload rfl rfl rfl ?_
      refine z_getr (r := 68) rfl rfl rfl rfl ?_
      refine z_iload rfl rfl ?_
      obtain ⟨h12, hc11, hF⟩ := zbind1 hF
      refine z_inv0 (d' := d - 1) (As := [.inl x1]) rfl rfl (zf_Planner_search (by omega) N _ hc11) rfl rfl rfl (by omega) rfl (fun r7 h8 hR9 hQ10 => ?_)
      obtain ⟨rfl, rfl⟩ := hQ10
      refine z_iload rfl rfl ?_
      refine z_const rfl ?_
      have hJ18 : zW l E d zm_Ox_plan 30 [zJk, zJk, zJk] [.inl (if x2 = (-1) then h12 68 6 else rget h12 76 4 x2 : Int)] h12 Q := by
        obtain ⟨rfl, rfl⟩ := zinj2 hF
        exact z_iret rfl rfl K
      refine z_cne rfl (fun c13 => ?_) (fun c13 => ?_)
      · refine z_aload rfl rfl rfl ?_
        refine z_getr (r := 68) rfl rfl rfl rfl ?_
        refine z_getr (r := 75) rfl rfl rfl rfl ?_
        refine z_iload rfl rfl ?_
        refine z_inv1 (d' := d - 1) (As := [.inl x2]) rfl rfl (zf_Row_get (r := 75) (a := 76) (n := 4) rfl rfl _) rfl rfl rfl (by omega) rfl (fun r14 h15 hR16 hQ17 => ?_)
        obtain ⟨rfl, rfl⟩ := hQ17
        refine zsubL (L' := [zJk, zJk, zJk]) ⟨Or.inr rfl, Or.inr rfl, Or.inr rfl, trivial⟩ ?_
        exact zcast (by first | rfl | (simp only [if_neg c13] <;> rfl)) (by first | rfl | (simp only [if_neg c13] <;> rfl)) hJ18
      · refine z_aload rfl rfl rfl ?_
        refine z_getr (r := 68) rfl rfl rfl rfl ?_
        refine z_geti rfl rfl rfl rfl ?_
        refine z_goto rfl ?_
        refine zsubL (L' := [zJk, zJk, zJk]) ⟨Or.inr rfl, Or.inr rfl, Or.inr rfl, trivial⟩ ?_
        exact zcast (by first | rfl | (simp only [if_pos c13] <;> rfl)) (by first | rfl | (simp only [if_pos c13] <;> rfl)) hJ18
    · rw [if_neg c6] at hF
      refine z_aload rfl rfl rfl ?_
      refine z_iload rfl rfl ?_
      refine z_inv1 (d' := d - 1) (As := [.inl x2]) rfl rfl (zf_Ox_isField (by omega) _) rfl rfl rfl (by omega) rfl (fun r19 h20 hR21 hQ22 => ?_)
      obtain ⟨rfl, rfl⟩ := hQ22
      refine z_zne rfl (fun c23 => ?_) (fun c23 => ?_)
      · rw [if_neg c23] at hF
        refine z_aload rfl rfl rfl ?_
        refine z_getr (r := 68) rfl rfl rfl rfl ?_
        refine z_iload rfl rfl ?_
        obtain ⟨h29, hc28, hF⟩ := zbind1 hF
        refine z_inv0 (d' := d - 1) (As := [.inl x1]) rfl rfl (zf_Planner_search (by omega) N _ hc28) rfl rfl rfl (by omega) rfl (fun r24 h25 hR26 hQ27 => ?_)
        obtain ⟨rfl, rfl⟩ := hQ27
        refine z_iload rfl rfl ?_
        refine z_const rfl ?_
        have hJ35 : zW l E d zm_Ox_plan 30 [zJk, zJk, zJk] [.inl (if x2 = (-1) then h29 68 6 else rget h29 76 4 x2 : Int)] h29 Q := by
          obtain ⟨rfl, rfl⟩ := zinj2 hF
          exact z_iret rfl rfl K
        refine z_cne rfl (fun c30 => ?_) (fun c30 => ?_)
        · refine z_aload rfl rfl rfl ?_
          refine z_getr (r := 68) rfl rfl rfl rfl ?_
          refine z_getr (r := 75) rfl rfl rfl rfl ?_
          refine z_iload rfl rfl ?_
          refine z_inv1 (d' := d - 1) (As := [.inl x2]) rfl rfl (zf_Row_get (r := 75) (a := 76) (n := 4) rfl rfl _) rfl rfl rfl (by omega) rfl (fun r31 h32 hR33 hQ34 => ?_)
          obtain ⟨rfl, rfl⟩ := hQ34
          refine zsubL (L' := [zJk, zJk, zJk]) ⟨Or.inr rfl, Or.inr rfl, Or.inr rfl, trivial⟩ ?_
          exact zcast (by first | rfl | (simp only [if_neg c30] <;> rfl)) (by first | rfl | (simp only [if_neg c30] <;> rfl)) hJ35
        · refine z_aload rfl rfl rfl ?_
          refine z_getr (r := 68) rfl rfl rfl rfl ?_
          refine z_geti rfl rfl rfl rfl ?_
          refine z_goto rfl ?_
          refine zsubL (L' := [zJk, zJk, zJk]) ⟨Or.inr rfl, Or.inr rfl, Or.inr rfl, trivial⟩ ?_
          exact zcast (by first | rfl | (simp only [if_pos c30] <;> rfl)) (by first | rfl | (simp only [if_pos c30] <;> rfl)) hJ35
      · rw [if_pos c23] at hF
        refine z_const rfl ?_
        obtain ⟨rfl, rfl⟩ := zinj2 hF
        exact z_iret rfl rfl K
set_option maxRecDepth 100000 in
theorem zf_Ox_plan {l : Launch} {E : zE} {d : Nat} (hd : 25 ≤ d) (N : Nat) (x1 x2 : Int) {h : zHp} {r0 : Int} {h0 : zHp} (hF : sh_Ox_plan N x1 x2 h = some (r0, h0)) : zC l E d zm_Ox_plan [.inr (.inr 0), .inl x1, .inl x2] h (fun r1 h1 => r0 = r1 ∧ h0 = h1) :=
  zC_of zk_Ox_plan (by decide) rfl rfl (Nat.le_of_ble_eq_true rfl) (zw_Ox_plan hd N _ _ hF ⟨rfl, rfl⟩)
def sh_Mo_has (x0 x1 : Int) : Int := (if zand (zshr x0 x1) 1 = 1 then 1 else 0 : Int)
set_option maxRecDepth 100000 in
set_option maxHeartbeats 4000000 in
theorem zw_Mo_has {l : Launch} {E : zE} {d : Nat} (hd : 1 ≤ d) (x0 x1 : Int) {h : zHp} {Q : Int → zHp → Prop} {r0 : Int} (hF : sh_Mo_has x0 x1 = r0) (K : Q r0 h) : zW l E d zm_Mo_has 0 [.inl x0, .inl x1] [] h Q := by
  rw [sh_Mo_has] at hF
  refine z_iload rfl rfl ?_
  refine z_iload rfl rfl ?_
  refine z_ishr rfl ?_
  refine z_const rfl ?_
  refine z_iand rfl ?_
  refine z_const rfl ?_
  have hJ2 : zW l E d zm_Mo_has 10 [zJk, zJk] [.inl (if zand (zshr x0 x1) 1 = 1 then 1 else 0 : Int)] h Q := by
    subst hF
    exact z_zret rfl rfl (zor_ite (Or.inr rfl) (Or.inl rfl)) K
  refine z_cne rfl (fun c1 => ?_) (fun c1 => ?_)
  · refine z_const rfl ?_
    refine zsubL (L' := [zJk, zJk]) ⟨Or.inr rfl, Or.inr rfl, trivial⟩ ?_
    exact zcast (by first | rfl | (simp only [if_neg c1] <;> rfl)) (by first | rfl | (simp only [if_neg c1] <;> rfl)) hJ2
  · refine z_const rfl ?_
    refine z_goto rfl ?_
    refine zsubL (L' := [zJk, zJk]) ⟨Or.inr rfl, Or.inr rfl, trivial⟩ ?_
    exact zcast (by first | rfl | (simp only [if_pos c1] <;> rfl)) (by first | rfl | (simp only [if_pos c1] <;> rfl)) hJ2
set_option maxRecDepth 100000 in
theorem zf_Mo_has {l : Launch} {E : zE} {d : Nat} (hd : 1 ≤ d) (x0 x1 : Int) {h : zHp} : zC l E d zm_Mo_has [.inl x0, .inl x1] h (fun r1 h1 => sh_Mo_has x0 x1 = r1 ∧ h = h1) :=
  zC_of zk_Mo_has (by decide) rfl rfl (Nat.le_of_ble_eq_true rfl) (zw_Mo_has hd _ _ rfl ⟨rfl, rfl⟩)
theorem zb_Mo_has (x0 x1 : Int) : sh_Mo_has x0 x1 = 0 ∨ sh_Mo_has x0 x1 = 1 := by
  unfold sh_Mo_has
  exact zor_ite (Or.inr rfl) (Or.inl rfl)
def sh_Mo_isPair (x1 x2 : Int) (h : zHp) : Int := (if x1 < 0 then 1 else (if w32 ((x1).tmod 10) ≤ w32 ((x1).tdiv 10) then 0 else (if h 86 2 ≤ w32 ((x1).tmod 10) then 0 else (if sh_Mo_has x2 (w32 ((x1).tdiv 10)) = 0 then (if sh_Mo_has x2 (w32 ((x1).tmod 10)) = 0 then 1 else 0 : Int) else 0 : Int) : Int)))
set_option maxRecDepth 100000 in
set_option maxHeartbeats 4000000 in
theorem zw_Mo_isPair {l : Launch} {E : zE} {d : Nat} (hd : 2 ≤ d) (x1 x2 : Int) {h : zHp} {Q : Int → zHp → Prop} {r0 : Int} (hF : sh_Mo_isPair x1 x2 h = r0) (K : Q r0 h) : zW l E d zm_Mo_isPair 0 [.inr (.inr 85), .inl x1, .inl x2] [] h Q := by
  rw [sh_Mo_isPair] at hF
  refine z_iload rfl rfl ?_
  refine z_zlt rfl (fun c3 => ?_) (fun c3 => ?_)
  · rw [if_pos c3] at hF
    refine z_const rfl ?_
    refine z_goto rfl ?_
    subst hF
    exact z_zret rfl rfl (Or.inr rfl) K
  · rw [if_neg c3] at hF
    refine z_iload rfl rfl ?_
    refine z_const rfl ?_
    refine z_idiv rfl (by decide) ?_
    refine z_iload rfl rfl ?_
    refine z_const rfl ?_
    refine z_irem rfl (by decide) ?_
    refine z_cge rfl (fun c5 => ?_) (fun c5 => ?_)
    · rw [if_pos c5] at hF
      refine z_const rfl ?_
      subst hF
      exact z_zret rfl rfl (Or.inl rfl) K
    · rw [if_neg c5] at hF
      refine z_iload rfl rfl ?_
      refine z_const rfl ?_
      refine z_irem rfl (by decide) ?_
      refine z_aload rfl rfl rfl ?_
      refine z_getr (r := 86) rfl rfl rfl rfl ?_
      refine z_const rfl ?_
      refine z_ialdc 2 rfl rfl rfl (by decide) ?_
      have hJ17 : zW l E d zm_Mo_isPair 32 [zJk, zJk, zJk] [.inl (if h 86 2 ≤ w32 ((x1).tmod 10) then 0 else (if sh_Mo_has x2 (w32 ((x1).tdiv 10)) = 0 then (if sh_Mo_has x2 (w32 ((x1).tmod 10)) = 0 then 1 else 0 : Int) else 0 : Int) : Int)] h Q := by
        subst hF
        exact z_zret rfl rfl (zor_ite (Or.inl rfl) (zor_ite (zor_ite (Or.inr rfl) (Or.inl rfl)) (Or.inl rfl))) K
      refine z_cge rfl (fun c6 => ?_) (fun c6 => ?_)
      · refine z_const rfl ?_
        refine zsubL (L' := [zJk, zJk, zJk]) ⟨Or.inr rfl, Or.inr rfl, Or.inr rfl, trivial⟩ ?_
        exact zcast (by first | rfl | (simp only [if_pos c6] <;> rfl)) (by first | rfl | (simp only [if_pos c6] <;> rfl)) hJ17
      · refine z_iload rfl rfl ?_
        refine z_iload rfl rfl ?_
        refine z_const rfl ?_
        refine z_idiv rfl (by decide) ?_
        refine z_ivs1 (d' := d - 1) (As := [.inl x2, .inl (w32 ((x1).tdiv 10))]) rfl rfl (zf_Mo_has (by omega) _ _) rfl (by omega) rfl (fun r7 h8 hR9 hQ10 => ?_)
        obtain ⟨rfl, rfl⟩ := hQ10
        refine z_zne rfl (fun c11 => ?_) (fun c11 => ?_)
        · refine z_const rfl ?_
          refine zsubL (L' := [zJk, zJk, zJk]) ⟨Or.inr rfl, Or.inr rfl, Or.inr rfl, trivial⟩ ?_
          exact zcast (by first | rfl | (simp only [if_neg c6, if_neg c11] <;> rfl)) (by first | rfl | (simp only [if_neg c6, if_neg c11] <;> rfl)) hJ17
        · refine z_iload rfl rfl ?_
          refine z_iload rfl rfl ?_
          refine z_const rfl ?_
          refine z_irem rfl (by decide) ?_
          refine z_ivs1 (d' := d - 1) (As := [.inl x2, .inl (w32 ((x1).tmod 10))]) rfl rfl (zf_Mo_has (by omega) _ _) rfl (by omega) rfl (fun r12 h13 hR14 hQ15 => ?_)
          obtain ⟨rfl, rfl⟩ := hQ15
          refine z_zne rfl (fun c16 => ?_) (fun c16 => ?_)
          · refine z_const rfl ?_
            refine zsubL (L' := [zJk, zJk, zJk]) ⟨Or.inr rfl, Or.inr rfl, Or.inr rfl, trivial⟩ ?_
            exact zcast (by first | rfl | (simp only [if_neg c6, if_pos c11, if_neg c16] <;> rfl)) (by first | rfl | (simp only [if_neg c6, if_pos c11, if_neg c16] <;> rfl)) hJ17
          · refine z_const rfl ?_
            refine z_goto rfl ?_
            refine zsubL (L' := [zJk, zJk, zJk]) ⟨Or.inr rfl, Or.inr rfl, Or.inr rfl, trivial⟩ ?_
            exact zcast (by first | rfl | (simp only [if_neg c6, if_pos c11, if_pos c16] <;> rfl)) (by first | rfl | (simp only [if_neg c6, if_pos c11, if_pos c16] <;> rfl)) hJ17
set_option maxRecDepth 100000 in
theorem zf_Mo_isPair {l : Launch} {E : zE} {d : Nat} (hd : 2 ≤ d) (x1 x2 : Int) {h : zHp} : zC l E d zm_Mo_isPair [.inr (.inr 85), .inl x1, .inl x2] h (fun r1 h1 => sh_Mo_isPair x1 x2 h = r1 ∧ h = h1) :=
  zC_of zk_Mo_isPair (by decide) rfl rfl (Nat.le_of_ble_eq_true rfl) (zw_Mo_isPair hd _ _ rfl ⟨rfl, rfl⟩)
theorem zb_Mo_isPair (x1 x2 : Int) (h : zHp) : sh_Mo_isPair x1 x2 h = 0 ∨ sh_Mo_isPair x1 x2 h = 1 := by
  unfold sh_Mo_isPair
  exact zor_ite (Or.inr rfl) (zor_ite (Or.inl rfl) (zor_ite (Or.inl rfl) (zor_ite (zor_ite (Or.inr rfl) (Or.inl rfl)) (Or.inl rfl))))
def sh_Mo_by_ (N : Nat) (x1 x2 x3 : Int) (h : zHp) : Option Int := (if 0 ≤ x3 then if 0 ≤ w32 ((w32 (80 * x1)) + x3) ∧ w32 ((w32 (80 * x1)) + x3) < 320 then if 0 ≤ w32 ((w32 (256 * (w32 (x1 + 1)))) + (zor (zor x2 (zshl 1 (w32 ((x3).tdiv 10)))) (zshl 1 (w32 ((x3).tmod 10))))) ∧ w32 ((w32 (256 * (w32 (x1 + 1)))) + (zor (zor x2 (zshl 1 (w32 ((x3).tdiv 10)))) (zshl 1 (w32 ((x3).tmod 10))))) < 1280 then some (w32 ((h 95 (w32 ((w32 (80 * x1)) + x3)).toNat) + (h 96 (w32 ((w32 (256 * (w32 (x1 + 1)))) + (zor (zor x2 (zshl 1 (w32 ((x3).tdiv 10)))) (zshl 1 (w32 ((x3).tmod 10)))))).toNat))) else none else none else if 0 ≤ w32 ((w32 (256 * (w32 (x1 + 1)))) + x2) ∧ w32 ((w32 (256 * (w32 (x1 + 1)))) + x2) < 1280 then some (h 96 (w32 ((w32 (256 * (w32 (x1 + 1)))) + x2)).toNat) else none)
set_option maxRecDepth 100000 in
set_option maxHeartbeats 4000000 in
theorem zw_Mo_by_ {l : Launch} {E : zE} {d : Nat} (hd : 1 ≤ d) (N : Nat) (x1 x2 x3 : Int) {h : zHp} {Q : Int → zHp → Prop} {r0 : Int} (hF : sh_Mo_by_ N x1 x2 x3 h = some r0) (K : Q r0 h) : zW l E d zm_Mo_by_ 0 [.inr (.inr 85), .inl x1, .inl x2, .inl x3] [] h Q := by
  rw [sh_Mo_by_] at hF
  refine z_iload rfl rfl ?_
  refine z_zge rfl (fun c1 => ?_) (fun c1 => ?_)
  · rw [if_pos c1] at hF
    refine z_aload rfl rfl rfl ?_
    refine z_getr (r := 95) rfl rfl rfl rfl ?_
    refine z_const rfl ?_
    refine z_iload rfl rfl ?_
    refine z_imul rfl ?_
    refine z_iload rfl rfl ?_
    refine z_iadd rfl ?_
    obtain ⟨g2, hF⟩ := zguard hF
    refine z_iald rfl rfl g2.1 g2.2 ?_
    refine z_aload rfl rfl rfl ?_
    refine z_getr (r := 96) rfl rfl rfl rfl ?_
    refine z_const rfl ?_
    refine z_iload rfl rfl ?_
    refine z_const rfl ?_
    refine z_iadd rfl ?_
    refine z_imul rfl ?_
    refine z_iload rfl rfl ?_
    refine z_const rfl ?_
    refine z_iload rfl rfl ?_
    refine z_const rfl ?_
    refine z_idiv rfl (by decide) ?_
    refine z_ishl rfl ?_
    refine z_ior rfl ?_
    refine z_const rfl ?_
    refine z_iload rfl rfl ?_
    refine z_const rfl ?_
    refine z_irem rfl (by decide) ?_
    refine z_ishl rfl ?_
    refine z_ior rfl ?_
    refine z_iadd rfl ?_
    obtain ⟨g3, hF⟩ := zguard hF
    refine z_iald rfl rfl g3.1 g3.2 ?_
    refine z_iadd rfl ?_
    obtain rfl := Option.some.inj hF
    exact z_iret rfl rfl K
  · rw [if_neg c1] at hF
    refine z_aload rfl rfl rfl ?_
    refine z_getr (r := 96) rfl rfl rfl rfl ?_
    refine z_const rfl ?_
    refine z_iload rfl rfl ?_
    refine z_const rfl ?_
    refine z_iadd rfl ?_
    refine z_imul rfl ?_
    refine z_iload rfl rfl ?_
    refine z_iadd rfl ?_
    obtain ⟨g4, hF⟩ := zguard hF
    refine z_iald rfl rfl g4.1 g4.2 ?_
    obtain rfl := Option.some.inj hF
    exact z_iret rfl rfl K
set_option maxRecDepth 100000 in
theorem zf_Mo_by_ {l : Launch} {E : zE} {d : Nat} (hd : 1 ≤ d) (N : Nat) (x1 x2 x3 : Int) {h : zHp} {r0 : Int} (hF : sh_Mo_by_ N x1 x2 x3 h = some r0) : zC l E d zm_Mo_by_ [.inr (.inr 85), .inl x1, .inl x2, .inl x3] h (fun r1 h1 => r0 = r1 ∧ h = h1) :=
  zC_of zk_Mo_by_ (by decide) rfl rfl (Nat.le_of_ble_eq_true rfl) (zw_Mo_by_ hd N _ _ _ hF ⟨rfl, rfl⟩)
def sh_Mo_plan_L24 (N : Nat) : Nat → Int → Int → Int → Int → zHp → Option (Int × Int × Int × zHp)
  | 0, _, _, _, _, _ => none
  | n + 1, x1, x2, x3, x4, h => (if 80 ≤ x4 then some (x1, x2, x3, h) else (if sh_Mo_isPair x4 0 h = 0 then if 0 ≤ w32 ((w32 (80 * x3)) + x4) ∧ w32 ((w32 (80 * x3)) + x4) < 320 then sh_Mo_plan_L24 N n x1 x2 x3 (w32 (x4 + 1)) (zst h 95 (w32 ((w32 (80 * x3)) + x4)).toNat 0) else none else zb2 (sh_Mo_doneOf N (w32 ((x4).tdiv 10)) (w32 ((x4).tmod 10)) x3 x1 h) fun r21 h22 => if 0 ≤ w32 ((w32 (80 * x3)) + x4) ∧ w32 ((w32 (80 * x3)) + x4) < 320 then sh_Mo_plan_L24 N n x1 x2 x3 (w32 (x4 + 1)) (zst h22 95 (w32 ((w32 (80 * x3)) + x4)).toNat r21) else none))
def sh_Mo_plan_L16 (N : Nat) : Nat → Int → Int → Int → zHp → Option (Int × zHp)
  | 0, _, _, _, _ => none
  | n + 1, x1, x2, x3, h => (if h 86 1 ≤ x3 then some (x2, h) else zb4 (sh_Mo_plan_L24 N N x1 x2 x3 0 h) fun y25 y26 y27 h28 => sh_Mo_plan_L16 N n y25 y26 (w32 (y27 + 1)) h28)
def sh_Mo_plan_L58 (N : Nat) : Nat → Int → Int → zHp → Option (Int × zHp)
  | 0, _, _, _ => none
  | n + 1, x2, x3, h => (if 256 ≤ x3 then some (x2, h) else if 0 ≤ w32 ((w32 (256 * (h 86 1))) + x3) ∧ w32 ((w32 (256 * (h 86 1))) + x3) < 1280 then sh_Mo_plan_L58 N n x2 (w32 (x3 + 1)) (zst h 96 (w32 ((w32 (256 * (h 86 1))) + x3)).toNat 0) else none)
def sh_Mo_plan_L97 (N : Nat) (h : zHp) : Nat → Int → Int → Int → Int → Int → Option (Int × Int × Int × Int)
  | 0, _, _, _, _, _ => none
  | n + 1, x2, x3, x4, x5, x6 => (if 80 ≤ x6 then some (x2, x3, x4, x5) else (if sh_Mo_isPair x6 x4 h = 0 then sh_Mo_plan_L97 N h n x2 x3 x4 x5 (w32 (x6 + 1)) else zb1 (sh_Mo_by_ N x3 x4 x6 h) fun r57 => if r57 ≤ x5 then sh_Mo_plan_L97 N h n x2 x3 x4 x5 (w32 (x6 + 1)) else zb1 (sh_Mo_by_ N x3 x4 x6 h) fun r65 => sh_Mo_plan_L97 N h n x2 x3 x4 r65 (w32 (x6 + 1))))
def sh_Mo_plan_L86 (N : Nat) : Nat → Int → Int → Int → zHp → Option (Int × Int × zHp)
  | 0, _, _, _, _ => none
  | n + 1, x2, x3, x4, h => (if 256 ≤ x4 then some (x2, x3, h) else zb1 (sh_Mo_by_ N x3 x4 (-1) h) fun r44 => zb4 (sh_Mo_plan_L97 N h N x2 x3 x4 r44 0) fun y67 y68 y69 y70 => if 0 ≤ w32 ((w32 (256 * y68)) + y69) ∧ w32 ((w32 (256 * y68)) + y69) < 1280 then sh_Mo_plan_L86 N n y67 y68 (w32 (y69 + 1)) (zst h 96 (w32 ((w32 (256 * y68)) + y69)).toNat y70) else none)
def sh_Mo_plan_L82 (N : Nat) : Nat → Int → Int → zHp → Option (Int × zHp)
  | 0, _, _, _ => none
  | n + 1, x2, x3, h => (if x3 < 0 then some (x2, h) else zb3 (sh_Mo_plan_L86 N N x2 x3 0 h) fun y73 y74 h75 => sh_Mo_plan_L82 N n y73 (w32 (y74 + (-1))) h75)
def sh_Mo_plan_L152 (N : Nat) (h : zHp) : Nat → Int → Int → Int → Int → Option (Int × Int × Int × Int)
  | 0, _, _, _, _ => none
  | n + 1, x2, x3, x4, x5 => (if sh_Mo_isPair x4 x3 h = 0 then sh_Mo_plan_L152 N h n x2 x3 (w32 (x4 + 1)) x5 else zb1 (sh_Mo_by_ N x5 x3 x4 h) fun r92 => if 0 ≤ w32 ((w32 (256 * x5)) + x3) ∧ w32 ((w32 (256 * x5)) + x3) < 1280 then if r92 = h 96 (w32 ((w32 (256 * x5)) + x3)).toNat then some (x2, x3, x4, x5) else sh_Mo_plan_L152 N h n x2 x3 (w32 (x4 + 1)) x5 else none)
def sh_Mo_plan_L147 (N : Nat) (h : zHp) : Nat → Int → Int → Int → Int → Option (Int)
  | 0, _, _, _, _ => none
  | n + 1, x2, x3, x4, x5 => (if x2 < x5 then some x4 else zb4 (sh_Mo_plan_L152 N h N x2 x3 (-1) x5) fun y96 y97 y98 y99 => sh_Mo_plan_L147 N h n y96 (if y98 < 0 then y97 else zor y97 (zor (zshl 1 (w32 ((y98).tdiv 10))) (zshl 1 (w32 ((y98).tmod 10)))) : Int) y98 (w32 (y99 + 1)))
def sh_Mo_plan (N : Nat) (x1 x2 : Int) (h : zHp) : Option (Int × zHp) := (if sh_Mo_isIn x1 1 24 = 0 then some ((-2), h) else (if x2 = (-1) then zb2 (sh_Mo_plan_L16 N N x1 x2 0 h) fun y30 h31 => zb2 (sh_Mo_plan_L58 N N y30 0 h31) fun y35 h36 => zb2 (sh_Mo_plan_L82 N N y35 (w32 ((h36 86 1) - 1)) h36) fun y77 h78 => if y77 = (-1) then some (h78 96 0, h78) else zb1 (sh_Mo_plan_L147 N h78 N y77 0 (-1) 0) fun y103 => some (y103, h78) else (if sh_Mo_isField x2 h = 0 then some ((-2), h) else zb2 (sh_Mo_plan_L16 N N x1 x2 0 h) fun y110 h111 => zb2 (sh_Mo_plan_L58 N N y110 0 h111) fun y113 h114 => zb2 (sh_Mo_plan_L82 N N y113 (w32 ((h114 86 1) - 1)) h114) fun y116 h117 => if y116 = (-1) then some (h117 96 0, h117) else zb1 (sh_Mo_plan_L147 N h117 N y116 0 (-1) 0) fun y120 => some (y120, h117))))
set_option maxRecDepth 100000 in
set_option maxHeartbeats 4000000 in
theorem zl_Mo_plan_L24 {l : Launch} {E : zE} {d : Nat} (hd : 8 ≤ d) (N : Nat) {Q : Int → zHp → Prop} {o1 o2 o3 : Int} {oh : zHp} (K1 : zW l E d zm_Mo_plan 54 [.inr (.inr 85), .inl o1, .inl o2, .inl o3, zJk, zJk, zJk] [] oh Q) : ∀ (n : Nat) (x1 x2 x3 x4 : Int) (h : zHp), sh_Mo_plan_L24 N n x1 x2 x3 x4 h = some (o1, o2, o3, oh) → zW l E d zm_Mo_plan 24 [.inr (.inr 85), .inl x1, .inl x2, .inl x3, .inl x4, zJk, zJk] [] h Q := by
  intro n
  induction n with
  | zero =>
    intro x1 x2 x3 x4 h hF
    cases (show (none : Option (Int × Int × Int × zHp)) = some (o1, o2, o3, oh) from hF)
  | succ n ih =>
    intro x1 x2 x3 x4 h hF
    rw [sh_Mo_plan_L24] at hF
    refine z_iload rfl rfl ?_
    refine z_const rfl ?_
    refine z_cge rfl (fun c8 => ?_) (fun c8 => ?_)
    · rw [if_pos c8] at hF
      refine zsubL (L' := [.inr (.inr 85), .inl x1, .inl x2, .inl x3, zJk, zJk, zJk]) ⟨Or.inl rfl, Or.inl rfl, Or.inl rfl, Or.inl rfl, Or.inr rfl, Or.inl rfl, Or.inl rfl, trivial⟩ ?_
      obtain ⟨rfl, rfl, rfl, rfl⟩ := zinj4 hF
      exact K1
    · rw [if_neg c8] at hF
      refine z_aload rfl rfl rfl ?_
      refine z_getr (r := 95) rfl rfl rfl rfl ?_
      refine z_const rfl ?_
      refine z_iload rfl rfl ?_
      refine z_imul rfl ?_
      refine z_iload rfl rfl ?_
      refine z_iadd rfl ?_
      refine z_aload rfl rfl rfl ?_
      refine z_iload rfl rfl ?_
      refine z_const rfl ?_
      refine z_inv1 (d' := d - 1) (As := [.inl x4, .inl 0]) rfl rfl (zf_Mo_isPair (by omega) _ _) rfl rfl rfl (by omega) rfl (fun r9 h10 hR11 hQ12 => ?_)
      obtain ⟨rfl, rfl⟩ := hQ12
      refine z_zeq rfl (fun c14 => ?_) (fun c14 => ?_)
      · rw [if_pos c14] at hF
        refine z_const rfl ?_
        obtain ⟨g15, hF⟩ := zguard hF
        refine z_iast rfl rfl g15.1 g15.2 ?_
        refine z_iinc rfl rfl rfl ?_
        refine z_goto rfl ?_
        exact ih _ _ _ _ _ hF
      · rw [if_neg c14] at hF
        refine z_aload rfl rfl rfl ?_
        refine z_iload rfl rfl ?_
        refine z_const rfl ?_
        refine z_idiv rfl (by decide) ?_
        refine z_iload rfl rfl ?_
        refine z_const rfl ?_
        refine z_irem rfl (by decide) ?_
        refine z_iload rfl rfl ?_
        refine z_iload rfl rfl ?_
        obtain ⟨r21, h22, hc20, hF⟩ := zbind2 hF
        refine z_inv1 (d' := d - 1) (As := [.inl (w32 ((x4).tdiv 10)), .inl (w32 ((x4).tmod 10)), .inl x3, .inl x1]) rfl rfl (zf_Mo_doneOf (by omega) N _ _ _ _ hc20) rfl rfl rfl (by omega) rfl (fun r16 h17 hR18 hQ19 => ?_)
        obtain ⟨rfl, rfl⟩ := hQ19
        refine z_goto rfl ?_
        obtain ⟨g23, hF⟩ := zguard hF
        refine z_iast rfl rfl g23.1 g23.2 ?_
        refine z_iinc rfl rfl rfl ?_
        refine z_goto rfl ?_
        exact ih _ _ _ _ _ hF
set_option maxRecDepth 100000 in
set_option maxHeartbeats 4000000 in
theorem zl_Mo_plan_L16 {l : Launch} {E : zE} {d : Nat} (hd : 8 ≤ d) (N : Nat) {Q : Int → zHp → Prop} {o2 : Int} {oh : zHp} (K1 : zW l E d zm_Mo_plan 56 [.inr (.inr 85), zJk, .inl o2, zJk, zJk, zJk, zJk] [] oh Q) : ∀ (n : Nat) (x1 x2 x3 : Int) (h : zHp), sh_Mo_plan_L16 N n x1 x2 x3 h = some (o2, oh) → zW l E d zm_Mo_plan 16 [.inr (.inr 85), .inl x1, .inl x2, .inl x3, zJk, zJk, zJk] [] h Q := by
  intro n
  induction n with
  | zero =>
    intro x1 x2 x3 h hF
    cases (show (none : Option (Int × zHp)) = some (o2, oh) from hF)
  | succ n ih =>
    intro x1 x2 x3 h hF
    rw [sh_Mo_plan_L16] at hF
    refine z_iload rfl rfl ?_
    refine z_aload rfl rfl rfl ?_
    refine z_getr (r := 86) rfl rfl rfl rfl ?_
    refine z_const rfl ?_
    refine z_ialdc 1 rfl rfl rfl (by decide) ?_
    refine z_cge rfl (fun c7 => ?_) (fun c7 => ?_)
    · rw [if_pos c7] at hF
      refine zsubL (L' := [.inr (.inr 85), zJk, .inl x2, zJk, zJk, zJk, zJk]) ⟨Or.inl rfl, Or.inr rfl, Or.inl rfl, Or.inr rfl, Or.inl rfl, Or.inl rfl, Or.inl rfl, trivial⟩ ?_
      obtain ⟨rfl, rfl⟩ := zinj2 hF
      exact K1
    · rw [if_neg c7] at hF
      refine z_const rfl ?_
      refine z_istore rfl rfl rfl ?_
      obtain ⟨y25, y26, y27, h28, hL24, hF⟩ := zbind4 hF
      refine zl_Mo_plan_L24 (by omega) N ?_ N _ _ _ _ _ hL24
      refine z_iinc rfl rfl rfl ?_
      refine z_goto rfl ?_
      exact ih _ _ _ _ hF
set_option maxRecDepth 100000 in
set_option maxHeartbeats 4000000 in
theorem zl_Mo_plan_L58 {l : Launch} {E : zE} {d : Nat} (hd : 8 ≤ d) (N : Nat) {Q : Int → zHp → Prop} {o2 : Int} {oh : zHp} (K1 : zW l E d zm_Mo_plan 75 [.inr (.inr 85), zJk, .inl o2, zJk, zJk, zJk, zJk] [] oh Q) : ∀ (n : Nat) (x2 x3 : Int) (h : zHp), sh_Mo_plan_L58 N n x2 x3 h = some (o2, oh) → zW l E d zm_Mo_plan 58 [.inr (.inr 85), zJk, .inl x2, .inl x3, zJk, zJk, zJk] [] h Q := by
  intro n
  induction n with
  | zero =>
    intro x2 x3 h hF
    cases (show (none : Option (Int × zHp)) = some (o2, oh) from hF)
  | succ n ih =>
    intro x2 x3 h hF
    rw [sh_Mo_plan_L58] at hF
    refine z_iload rfl rfl ?_
    refine z_const rfl ?_
    refine z_cge rfl (fun c32 => ?_) (fun c32 => ?_)
    · rw [if_pos c32] at hF
      refine zsubL (L' := [.inr (.inr 85), zJk, .inl x2, zJk, zJk, zJk, zJk]) ⟨Or.inl rfl, Or.inl rfl, Or.inl rfl, Or.inr rfl, Or.inl rfl, Or.inl rfl, Or.inl rfl, trivial⟩ ?_
      obtain ⟨rfl, rfl⟩ := zinj2 hF
      exact K1
    · rw [if_neg c32] at hF
      refine z_aload rfl rfl rfl ?_
      refine z_getr (r := 96) rfl rfl rfl rfl ?_
      refine z_const rfl ?_
      refine z_aload rfl rfl rfl ?_
      refine z_getr (r := 86) rfl rfl rfl rfl ?_
      refine z_const rfl ?_
      refine z_ialdc 1 rfl rfl rfl (by decide) ?_
      refine z_imul rfl ?_
      refine z_iload rfl rfl ?_
      refine z_iadd rfl ?_
      refine z_const rfl ?_
      obtain ⟨g33, hF⟩ := zguard hF
      refine z_iast rfl rfl g33.1 g33.2 ?_
      refine z_iinc rfl rfl rfl ?_
      refine z_goto rfl ?_
      exact ih _ _ _ hF
set_option maxRecDepth 100000 in
set_option maxHeartbeats 4000000 in
theorem zl_Mo_plan_L97 {l : Launch} {E : zE} {d : Nat} (hd : 8 ≤ d) (N : Nat) {h : zHp} {Q : Int → zHp → Prop} {o2 o3 o4 o5 : Int} (K1 : zW l E d zm_Mo_plan 120 [.inr (.inr 85), zJk, .inl o2, .inl o3, .inl o4, .inl o5, zJk] [] h Q) : ∀ (n : Nat) (x2 x3 x4 x5 x6 : Int) , sh_Mo_plan_L97 N h n x2 x3 x4 x5 x6 = some (o2, o3, o4, o5) → zW l E d zm_Mo_plan 97 [.inr (.inr 85), zJk, .inl x2, .inl x3, .inl x4, .inl x5, .inl x6] [] h Q := by
  intro n
  induction n with
  | zero =>
    intro x2 x3 x4 x5 x6 hF
    cases (show (none : Option (Int × Int × Int × Int)) = some (o2, o3, o4, o5) from hF)
  | succ n ih =>
    intro x2 x3 x4 x5 x6 hF
    rw [sh_Mo_plan_L97] at hF
    refine z_iload rfl rfl ?_
    refine z_const rfl ?_
    refine z_cge rfl (fun c45 => ?_) (fun c45 => ?_)
    · rw [if_pos c45] at hF
      refine zsubL (L' := [.inr (.inr 85), zJk, .inl x2, .inl x3, .inl x4, .inl x5, zJk]) ⟨Or.inl rfl, Or.inl rfl, Or.inl rfl, Or.inl rfl, Or.inl rfl, Or.inl rfl, Or.inr rfl, trivial⟩ ?_
      obtain ⟨rfl, rfl, rfl, rfl⟩ := zinj4 hF
      exact K1
    · rw [if_neg c45] at hF
      refine z_aload rfl rfl rfl ?_
      refine z_iload rfl rfl ?_
      refine z_iload rfl rfl ?_
      refine z_inv1 (d' := d - 1) (As := [.inl x6, .inl x4]) rfl rfl (zf_Mo_isPair (by omega) _ _) rfl rfl rfl (by omega) rfl (fun r46 h47 hR48 hQ49 => ?_)
      obtain ⟨rfl, rfl⟩ := hQ49
      refine z_zeq rfl (fun c51 => ?_) (fun c51 => ?_)
      · rw [if_pos c51] at hF
        refine z_iinc rfl rfl rfl ?_
        refine z_goto rfl ?_
        exact ih _ _ _ _ _ hF
      · rw [if_neg c51] at hF
        refine z_aload rfl rfl rfl ?_
        refine z_iload rfl rfl ?_
        refine z_iload rfl rfl ?_
        refine z_iload rfl rfl ?_
        obtain ⟨r57, hc56, hF⟩ := zbind1 hF
        refine z_inv1 (d' := d - 1) (As := [.inl x3, .inl x4, .inl x6]) rfl rfl (zf_Mo_by_ (by omega) N _ _ _ hc56) rfl rfl rfl (by omega) rfl (fun r52 h53 hR54 hQ55 => ?_)
        obtain ⟨rfl, rfl⟩ := hQ55
        refine z_iload rfl rfl ?_
        refine z_cle rfl (fun c59 => ?_) (fun c59 => ?_)
        · rw [if_pos c59] at hF
          refine z_iinc rfl rfl rfl ?_
          refine z_goto rfl ?_
          exact ih _ _ _ _ _ hF
        · rw [if_neg c59] at hF
          refine z_aload rfl rfl rfl ?_
          refine z_iload rfl rfl ?_
          refine z_iload rfl rfl ?_
          refine z_iload rfl rfl ?_
          obtain ⟨r65, hc64, hF⟩ := zbind1 hF
          refine z_inv1 (d' := d - 1) (As := [.inl x3, .inl x4, .inl x6]) rfl rfl (zf_Mo_by_ (by omega) N _ _ _ hc64) rfl rfl rfl (by omega) rfl (fun r60 h61 hR62 hQ63 => ?_)
          obtain ⟨rfl, rfl⟩ := hQ63
          refine z_istore rfl rfl rfl ?_
          refine z_iinc rfl rfl rfl ?_
          refine z_goto rfl ?_
          exact ih _ _ _ _ _ hF
set_option maxRecDepth 100000 in
set_option maxHeartbeats 4000000 in
theorem zl_Mo_plan_L86 {l : Launch} {E : zE} {d : Nat} (hd : 8 ≤ d) (N : Nat) {Q : Int → zHp → Prop} {o2 o3 : Int} {oh : zHp} (K1 : zW l E d zm_Mo_plan 131 [.inr (.inr 85), zJk, .inl o2, .inl o3, zJk, zJk, zJk] [] oh Q) : ∀ (n : Nat) (x2 x3 x4 : Int) (h : zHp), sh_Mo_plan_L86 N n x2 x3 x4 h = some (o2, o3, oh) → zW l E d zm_Mo_plan 86 [.inr (.inr 85), zJk, .inl x2, .inl x3, .inl x4, zJk, zJk] [] h Q := by
  intro n
  induction n with
  | zero =>
    intro x2 x3 x4 h hF
    cases (show (none : Option (Int × Int × zHp)) = some (o2, o3, oh) from hF)
  | succ n ih =>
    intro x2 x3 x4 h hF
    rw [sh_Mo_plan_L86] at hF
    refine z_iload rfl rfl ?_
    refine z_const rfl ?_
    refine z_cge rfl (fun c38 => ?_) (fun c38 => ?_)
    · rw [if_pos c38] at hF
      refine zsubL (L' := [.inr (.inr 85), zJk, .inl x2, .inl x3, zJk, zJk, zJk]) ⟨Or.inl rfl, Or.inl rfl, Or.inl rfl, Or.inl rfl, Or.inr rfl, Or.inl rfl, Or.inl rfl, trivial⟩ ?_
      obtain ⟨rfl, rfl, rfl⟩ := zinj3 hF
      exact K1
    · rw [if_neg c38] at hF
      refine z_aload rfl rfl rfl ?_
      refine z_iload rfl rfl ?_
      refine z_iload rfl rfl ?_
      refine z_const rfl ?_
      obtain ⟨r44, hc43, hF⟩ := zbind1 hF
      refine z_inv1 (d' := d - 1) (As := [.inl x3, .inl x4, .inl (-1)]) rfl rfl (zf_Mo_by_ (by omega) N _ _ _ hc43) rfl rfl rfl (by omega) rfl (fun r39 h40 hR41 hQ42 => ?_)
      obtain ⟨rfl, rfl⟩ := hQ42
      refine z_istore rfl rfl rfl ?_
      refine z_const rfl ?_
      refine z_istore rfl rfl rfl ?_
      obtain ⟨y67, y68, y69, y70, hL66, hF⟩ := zbind4 hF
      refine zl_Mo_plan_L97 (by omega) N ?_ N _ _ _ _ _ hL66
      refine z_aload rfl rfl rfl ?_
      refine z_getr (r := 96) rfl rfl rfl rfl ?_
      refine z_const rfl ?_
      refine z_iload rfl rfl ?_
      refine z_imul rfl ?_
      refine z_iload rfl rfl ?_
      refine z_iadd rfl ?_
      refine z_iload rfl rfl ?_
      obtain ⟨g71, hF⟩ := zguard hF
      refine z_iast rfl rfl g71.1 g71.2 ?_
      refine z_iinc rfl rfl rfl ?_
      refine z_goto rfl ?_
      refine zsubL (L' := [.inr (.inr 85), zJk, .inl y67, .inl y68, .inl (w32 (y69 + 1)), zJk, zJk]) ⟨Or.inl rfl, Or.inl rfl, Or.inl rfl, Or.inl rfl, Or.inl rfl, Or.inr rfl, Or.inl rfl, trivial⟩ ?_
      exact ih _ _ _ _ hF
set_option maxRecDepth 100000 in
set_option maxHeartbeats 4000000 in
theorem zl_Mo_plan_L82 {l : Launch} {E : zE} {d : Nat} (hd : 8 ≤ d) (N : Nat) {Q : Int → zHp → Prop} {o2 : Int} {oh : zHp} (K1 : zW l E d zm_Mo_plan 133 [.inr (.inr 85), zJk, .inl o2, zJk, zJk, zJk, zJk] [] oh Q) : ∀ (n : Nat) (x2 x3 : Int) (h : zHp), sh_Mo_plan_L82 N n x2 x3 h = some (o2, oh) → zW l E d zm_Mo_plan 82 [.inr (.inr 85), zJk, .inl x2, .inl x3, zJk, zJk, zJk] [] h Q := by
  intro n
  induction n with
  | zero =>
    intro x2 x3 h hF
    cases (show (none : Option (Int × zHp)) = some (o2, oh) from hF)
  | succ n ih =>
    intro x2 x3 h hF
    rw [sh_Mo_plan_L82] at hF
    refine z_iload rfl rfl ?_
    refine z_zlt rfl (fun c37 => ?_) (fun c37 => ?_)
    · rw [if_pos c37] at hF
      refine zsubL (L' := [.inr (.inr 85), zJk, .inl x2, zJk, zJk, zJk, zJk]) ⟨Or.inl rfl, Or.inl rfl, Or.inl rfl, Or.inr rfl, Or.inl rfl, Or.inl rfl, Or.inl rfl, trivial⟩ ?_
      obtain ⟨rfl, rfl⟩ := zinj2 hF
      exact K1
    · rw [if_neg c37] at hF
      refine z_const rfl ?_
      refine z_istore rfl rfl rfl ?_
      obtain ⟨y73, y74, h75, hL72, hF⟩ := zbind3 hF
      refine zl_Mo_plan_L86 (by omega) N ?_ N _ _ _ _ hL72
      refine z_iinc rfl rfl rfl ?_
      refine z_goto rfl ?_
      exact ih _ _ _ hF
set_option maxRecDepth 100000 in
set_option maxHeartbeats 4000000 in
theorem zl_Mo_plan_L152 {l : Launch} {E : zE} {d : Nat} (hd : 8 ≤ d) (N : Nat) {h : zHp} {Q : Int → zHp → Prop} {o2 o3 o4 o5 : Int} (K1 : zW l E d zm_Mo_plan 173 [.inr (.inr 85), zJk, .inl o2, .inl o3, .inl o4, .inl o5, zJk] [] h Q) : ∀ (n : Nat) (x2 x3 x4 x5 : Int) , sh_Mo_plan_L152 N h n x2 x3 x4 x5 = some (o2, o3, o4, o5) → zW l E d zm_Mo_plan 152 [.inr (.inr 85), zJk, .inl x2, .inl x3, .inl x4, .inl x5, zJk] [] h Q := by
  intro n
  induction n with
  | zero =>
    intro x2 x3 x4 x5 hF
    cases (show (none : Option (Int × Int × Int × Int)) = some (o2, o3, o4, o5) from hF)
  | succ n ih =>
    intro x2 x3 x4 x5 hF
    rw [sh_Mo_plan_L152] at hF
    refine z_aload rfl rfl rfl ?_
    refine z_iload rfl rfl ?_
    refine z_iload rfl rfl ?_
    refine z_inv1 (d' := d - 1) (As := [.inl x4, .inl x3]) rfl rfl (zf_Mo_isPair (by omega) _ _) rfl rfl rfl (by omega) rfl (fun r81 h82 hR83 hQ84 => ?_)
    obtain ⟨rfl, rfl⟩ := hQ84
    refine z_zeq rfl (fun c86 => ?_) (fun c86 => ?_)
    · rw [if_pos c86] at hF
      refine z_iinc rfl rfl rfl ?_
      refine z_goto rfl ?_
      exact ih _ _ _ _ hF
    · rw [if_neg c86] at hF
      refine z_aload rfl rfl rfl ?_
      refine z_iload rfl rfl ?_
      refine z_iload rfl rfl ?_
      refine z_iload rfl rfl ?_
      obtain ⟨r92, hc91, hF⟩ := zbind1 hF
      refine z_inv1 (d' := d - 1) (As := [.inl x5, .inl x3, .inl x4]) rfl rfl (zf_Mo_by_ (by omega) N _ _ _ hc91) rfl rfl rfl (by omega) rfl (fun r87 h88 hR89 hQ90 => ?_)
      obtain ⟨rfl, rfl⟩ := hQ90
      refine z_aload rfl rfl rfl ?_
      refine z_getr (r := 96) rfl rfl rfl rfl ?_
      refine z_const rfl ?_
      refine z_iload rfl rfl ?_
      refine z_imul rfl ?_
      refine z_iload rfl rfl ?_
      refine z_iadd rfl ?_
      obtain ⟨g93, hF⟩ := zguard hF
      refine z_iald rfl rfl g93.1 g93.2 ?_
      refine z_ceq rfl (fun c94 => ?_) (fun c94 => ?_)
      · rw [if_pos c94] at hF
        obtain ⟨rfl, rfl, rfl, rfl⟩ := zinj4 hF
        exact K1
      · rw [if_neg c94] at hF
        refine z_iinc rfl rfl rfl ?_
        refine z_goto rfl ?_
        exact ih _ _ _ _ hF
set_option maxRecDepth 100000 in
set_option maxHeartbeats 4000000 in
theorem zl_Mo_plan_L147 {l : Launch} {E : zE} {d : Nat} (hd : 8 ≤ d) (N : Nat) {h : zHp} {Q : Int → zHp → Prop} {o4 : Int} (K1 : zW l E d zm_Mo_plan 191 [zJk, zJk, zJk, zJk, .inl o4, zJk, zJk] [] h Q) : ∀ (n : Nat) (x2 x3 x4 x5 : Int) , sh_Mo_plan_L147 N h n x2 x3 x4 x5 = some o4 → zW l E d zm_Mo_plan 147 [.inr (.inr 85), zJk, .inl x2, .inl x3, .inl x4, .inl x5, zJk] [] h Q := by
  intro n
  induction n with
  | zero =>
    intro x2 x3 x4 x5 hF
    cases (show (none : Option (Int)) = some o4 from hF)
  | succ n ih =>
    intro x2 x3 x4 x5 hF
    rw [sh_Mo_plan_L147] at hF
    refine z_iload rfl rfl ?_
    refine z_iload rfl rfl ?_
    refine z_cgt rfl (fun c80 => ?_) (fun c80 => ?_)
    · rw [if_pos c80] at hF
      refine zsubL (L' := [zJk, zJk, zJk, zJk, .inl x4, zJk, zJk]) ⟨Or.inr rfl, Or.inl rfl, Or.inr rfl, Or.inr rfl, Or.inl rfl, Or.inr rfl, Or.inl rfl, trivial⟩ ?_
      obtain rfl := Option.some.inj hF
      exact K1
    · rw [if_neg c80] at hF
      refine z_const rfl ?_
      refine z_istore rfl rfl rfl ?_
      obtain ⟨y96, y97, y98, y99, hL95, hF⟩ := zbind4 hF
      refine zl_Mo_plan_L152 (by omega) N ?_ N _ _ _ _ hL95
      refine z_iload rfl rfl ?_
      have hJ101 : zW l E d zm_Mo_plan 189 [.inr (.inr 85), zJk, .inl y96, .inl (if y98 < 0 then y97 else zor y97 (zor (zshl 1 (w32 ((y98).tdiv 10))) (zshl 1 (w32 ((y98).tmod 10)))) : Int), .inl y98, .inl y99, zJk] [] h Q := by
        refine z_iinc rfl rfl rfl ?_
        refine z_goto rfl ?_
        exact ih _ _ _ _ hF
      refine z_zlt rfl (fun c100 => ?_) (fun c100 => ?_)
      · exact zcast (by first | rfl | (simp only [if_pos c100] <;> rfl)) (by first | rfl | (simp only [if_pos c100] <;> rfl)) hJ101
      · refine z_iload rfl rfl ?_
        refine z_const rfl ?_
        refine z_iload rfl rfl ?_
        refine z_const rfl ?_
        refine z_idiv rfl (by decide) ?_
        refine z_ishl rfl ?_
        refine z_const rfl ?_
        refine z_iload rfl rfl ?_
        refine z_const rfl ?_
        refine z_irem rfl (by decide) ?_
        refine z_ishl rfl ?_
        refine z_ior rfl ?_
        refine z_ior rfl ?_
        refine z_istore rfl rfl rfl ?_
        exact zcast (by first | rfl | (simp only [if_neg c100] <;> rfl)) (by first | rfl | (simp only [if_neg c100] <;> rfl)) hJ101
set_option maxRecDepth 100000 in
set_option maxHeartbeats 4000000 in
theorem zw_Mo_plan {l : Launch} {E : zE} {d : Nat} (hd : 8 ≤ d) (N : Nat) (x1 x2 : Int) {h : zHp} {Q : Int → zHp → Prop} {r0 : Int} {h0 : zHp} (hF : sh_Mo_plan N x1 x2 h = some (r0, h0)) (K : Q r0 h0) : zW l E d zm_Mo_plan 0 [.inr (.inr 85), .inl x1, .inl x2, zJk, zJk, zJk, zJk] [] h Q := by
  rw [sh_Mo_plan] at hF
  refine z_iload rfl rfl ?_
  refine z_const rfl ?_
  refine z_const rfl ?_
  refine z_ivs1 (d' := d - 1) (As := [.inl x1, .inl 1, .inl 24]) rfl rfl (zf_Mo_isIn (by omega) _ _ _) rfl (by omega) rfl (fun r1 h2 hR3 hQ4 => ?_)
  obtain ⟨rfl, rfl⟩ := hQ4
  refine z_zeq rfl (fun c5 => ?_) (fun c5 => ?_)
  · rw [if_pos c5] at hF
    refine z_const rfl ?_
    obtain ⟨rfl, rfl⟩ := zinj2 hF
    exact z_iret rfl rfl K
  · rw [if_neg c5] at hF
    refine z_iload rfl rfl ?_
    refine z_const rfl ?_
    refine z_ceq rfl (fun c6 => ?_) (fun c6 => ?_)
    · rw [if_pos c6] at hF
      refine z_const rfl ?_
      refine z_istore rfl rfl rfl ?_
      obtain ⟨y30, h31, hL29, hF⟩ := zbind2 hF
      refine zl_Mo_plan_L16 (by omega) N ?_ N _ _ _ _ hL29
      refine z_const rfl ?_
      refine z_istore rfl rfl rfl ?_
      obtain ⟨y35, h36, hL34, hF⟩ := zbind2 hF
      refine zl_Mo_plan_L58 (by omega) N ?_ N _ _ _ hL34
      refine z_aload rfl rfl rfl ?_
      refine z_getr (r := 86) rfl rfl rfl rfl ?_
      refine z_const rfl ?_
      refine z_ialdc 1 rfl rfl rfl (by decide) ?_
      refine z_const rfl ?_
      refine z_isub rfl ?_
      refine z_istore rfl rfl rfl ?_
      obtain ⟨y77, h78, hL76, hF⟩ := zbind2 hF
      refine zl_Mo_plan_L82 (by omega) N ?_ N _ _ _ hL76
      refine z_iload rfl rfl ?_
      refine z_const rfl ?_
      refine z_cne rfl (fun c79 => ?_) (fun c79 => ?_)
      · rw [if_neg c79] at hF
        refine z_const rfl ?_
        refine z_istore rfl rfl rfl ?_
        refine z_const rfl ?_
        refine z_istore rfl rfl rfl ?_
        refine z_const rfl ?_
        refine z_istore rfl rfl rfl ?_
        obtain ⟨y103, hL102, hF⟩ := zbind1 hF
        refine zl_Mo_plan_L147 (by omega) N ?_ N _ _ _ _ hL102
        refine z_iload rfl rfl ?_
        obtain ⟨rfl, rfl⟩ := zinj2 hF
        exact z_iret rfl rfl K
      · rw [if_pos c79] at hF
        refine z_aload rfl rfl rfl ?_
        refine z_getr (r := 96) rfl rfl rfl rfl ?_
        refine z_const rfl ?_
        refine z_ialdc 0 rfl rfl rfl (by decide) ?_
        obtain ⟨rfl, rfl⟩ := zinj2 hF
        exact z_iret rfl rfl K
    · rw [if_neg c6] at hF
      refine z_aload rfl rfl rfl ?_
      refine z_iload rfl rfl ?_
      refine z_inv1 (d' := d - 1) (As := [.inl x2]) rfl rfl (zf_Mo_isField (by omega) _) rfl rfl rfl (by omega) rfl (fun r104 h105 hR106 hQ107 => ?_)
      obtain ⟨rfl, rfl⟩ := hQ107
      refine z_zne rfl (fun c108 => ?_) (fun c108 => ?_)
      · rw [if_neg c108] at hF
        refine z_const rfl ?_
        refine z_istore rfl rfl rfl ?_
        obtain ⟨y110, h111, hL109, hF⟩ := zbind2 hF
        refine zl_Mo_plan_L16 (by omega) N ?_ N _ _ _ _ hL109
        refine z_const rfl ?_
        refine z_istore rfl rfl rfl ?_
        obtain ⟨y113, h114, hL112, hF⟩ := zbind2 hF
        refine zl_Mo_plan_L58 (by omega) N ?_ N _ _ _ hL112
        refine z_aload rfl rfl rfl ?_
        refine z_getr (r := 86) rfl rfl rfl rfl ?_
        refine z_const rfl ?_
        refine z_ialdc 1 rfl rfl rfl (by decide) ?_
        refine z_const rfl ?_
        refine z_isub rfl ?_
        refine z_istore rfl rfl rfl ?_
        obtain ⟨y116, h117, hL115, hF⟩ := zbind2 hF
        refine zl_Mo_plan_L82 (by omega) N ?_ N _ _ _ hL115
        refine z_iload rfl rfl ?_
        refine z_const rfl ?_
        refine z_cne rfl (fun c118 => ?_) (fun c118 => ?_)
        · rw [if_neg c118] at hF
          refine z_const rfl ?_
          refine z_istore rfl rfl rfl ?_
          refine z_const rfl ?_
          refine z_istore rfl rfl rfl ?_
          refine z_const rfl ?_
          refine z_istore rfl rfl rfl ?_
          obtain ⟨y120, hL119, hF⟩ := zbind1 hF
          refine zl_Mo_plan_L147 (by omega) N ?_ N _ _ _ _ hL119
          refine z_iload rfl rfl ?_
          obtain ⟨rfl, rfl⟩ := zinj2 hF
          exact z_iret rfl rfl K
        · rw [if_pos c118] at hF
          refine z_aload rfl rfl rfl ?_
          refine z_getr (r := 96) rfl rfl rfl rfl ?_
          refine z_const rfl ?_
          refine z_ialdc 0 rfl rfl rfl (by decide) ?_
          obtain ⟨rfl, rfl⟩ := zinj2 hF
          exact z_iret rfl rfl K
      · rw [if_pos c108] at hF
        refine z_const rfl ?_
        obtain ⟨rfl, rfl⟩ := zinj2 hF
        exact z_iret rfl rfl K
set_option maxRecDepth 100000 in
theorem zf_Mo_plan {l : Launch} {E : zE} {d : Nat} (hd : 8 ≤ d) (N : Nat) (x1 x2 : Int) {h : zHp} {r0 : Int} {h0 : zHp} (hF : sh_Mo_plan N x1 x2 h = some (r0, h0)) : zC l E d zm_Mo_plan [.inr (.inr 85), .inl x1, .inl x2] h (fun r1 h1 => r0 = r1 ∧ h0 = h1) :=
  zC_of zk_Mo_plan (by decide) rfl rfl (Nat.le_of_ble_eq_true rfl) (zw_Mo_plan hd N _ _ hF ⟨rfl, rfl⟩)
def sh_Stays_longestPair_L20 (N : Nat) (h : zHp) : Nat → Int → Int → Int → Int → Option (Int × Int × Int)
  | 0, _, _, _, _ => none
  | n + 1, x3, x4, x5, x6 => (if sh_Herd_oxen_14 h ≤ x6 then some (x3, x4, x5) else sh_Stays_longestPair_L20 N h n (if sh_Stays_measured x5 x6 h ≤ x4 then x3 else w32 ((w32 (x5 * 10)) + x6) : Int) (if sh_Stays_measured x5 x6 h ≤ x4 then x4 else sh_Stays_measured x5 x6 h : Int) x5 (w32 (x6 + 1)))
def sh_Stays_longestPair_L10 (N : Nat) (h : zHp) : Nat → Int → Int → Int → Option (Int)
  | 0, _, _, _ => none
  | n + 1, x3, x4, x5 => (if sh_Herd_oxen_14 h ≤ x5 then some x3 else zb3 (sh_Stays_longestPair_L20 N h N x3 x4 x5 (w32 (x5 + 1))) fun y28 y29 y30 => sh_Stays_longestPair_L10 N h n y28 y29 (w32 (y30 + 1)))
def sh_Stays_longestPair (N : Nat) (x1 x2 : Int) (h : zHp) : Option (Int × zHp) := zb1 (sh_Stays_measure N x1 x2 h) fun h6 => zb1 (sh_Stays_longestPair_L10 N h6 N (-1) (-1) 0) fun y32 => some (y32, h6)
set_option maxRecDepth 100000 in
set_option maxHeartbeats 4000000 in
theorem zl_Stays_longestPair_L20 {l : Launch} {E : zE} {d : Nat} (hd : 7 ≤ d) (N : Nat) {h : zHp} {Q : Int → zHp → Prop} {o3 o4 o5 : Int} (K1 : zW l E d zm_Stays_longestPair 45 [.inr (.inr 38), zJk, zJk, .inl o3, .inl o4, .inl o5, zJk] [] h Q) : ∀ (n : Nat) (x3 x4 x5 x6 : Int) , sh_Stays_longestPair_L20 N h n x3 x4 x5 x6 = some (o3, o4, o5) → zW l E d zm_Stays_longestPair 20 [.inr (.inr 38), zJk, zJk, .inl x3, .inl x4, .inl x5, .inl x6] [] h Q := by
  intro n
  induction n with
  | zero =>
    intro x3 x4 x5 x6 hF
    cases (show (none : Option (Int × Int × Int)) = some (o3, o4, o5) from hF)
  | succ n ih =>
    intro x3 x4 x5 x6 hF
    rw [sh_Stays_longestPair_L20] at hF
    refine z_iload rfl rfl ?_
    refine z_aload rfl rfl rfl ?_
    refine z_getr (r := 1) rfl rfl rfl rfl ?_
    refine z_getr (r := 14) rfl rfl rfl rfl ?_
    refine z_inv1 (d' := d - 1) (As := []) rfl rfl (zf_Herd_oxen_14 (by omega)) rfl rfl rfl (by omega) rfl (fun r12 h13 hR14 hQ15 => ?_)
    obtain ⟨rfl, rfl⟩ := hQ15
    refine z_cge rfl (fun c16 => ?_) (fun c16 => ?_)
    · rw [if_pos c16] at hF
      refine zsubL (L' := [.inr (.inr 38), zJk, zJk, .inl x3, .inl x4, .inl x5, zJk]) ⟨Or.inl rfl, Or.inl rfl, Or.inl rfl, Or.inl rfl, Or.inl rfl, Or.inl rfl, Or.inr rfl, trivial⟩ ?_
      obtain ⟨rfl, rfl, rfl⟩ := zinj3 hF
      exact K1
    · rw [if_neg c16] at hF
      refine z_aload rfl rfl rfl ?_
      refine z_iload rfl rfl ?_
      refine z_iload rfl rfl ?_
      refine z_inv1 (d' := d - 1) (As := [.inl x5, .inl x6]) rfl rfl (zf_Stays_measured (by omega) _ _) rfl rfl rfl (by omega) rfl (fun r17 h18 hR19 hQ20 => ?_)
      obtain ⟨rfl, rfl⟩ := hQ20
      refine z_iload rfl rfl ?_
      have hJ26 : zW l E d zm_Stays_longestPair 43 [.inr (.inr 38), zJk, zJk, .inl (if sh_Stays_measured x5 x6 h ≤ x4 then x3 else w32 ((w32 (x5 * 10)) + x6) : Int), .inl (if sh_Stays_measured x5 x6 h ≤ x4 then x4 else sh_Stays_measured x5 x6 h : Int), .inl x5, .inl x6] [] h Q := by
        refine z_iinc rfl rfl rfl ?_
        refine z_goto rfl ?_
        exact ih _ _ _ _ hF
      refine z_cle rfl (fun c21 => ?_) (fun c21 => ?_)
      · exact zcast (by first | rfl | (simp only [if_pos c21] <;> rfl)) (by first | rfl | (simp only [if_pos c21] <;> rfl)) hJ26
      · refine z_aload rfl rfl rfl ?_
        refine z_iload rfl rfl ?_
        refine z_iload rfl rfl ?_
        refine z_inv1 (d' := d - 1) (As := [.inl x5, .inl x6]) rfl rfl (zf_Stays_measured (by omega) _ _) rfl rfl rfl (by omega) rfl (fun r22 h23 hR24 hQ25 => ?_)
        obtain ⟨rfl, rfl⟩ := hQ25
        refine z_istore rfl rfl rfl ?_
        refine z_iload rfl rfl ?_
        refine z_const rfl ?_
        refine z_imul rfl ?_
        refine z_iload rfl rfl ?_
        refine z_iadd rfl ?_
        refine z_istore rfl rfl rfl ?_
        exact zcast (by first | rfl | (simp only [if_neg c21] <;> rfl)) (by first | rfl | (simp only [if_neg c21] <;> rfl)) hJ26
set_option maxRecDepth 100000 in
set_option maxHeartbeats 4000000 in
theorem zl_Stays_longestPair_L10 {l : Launch} {E : zE} {d : Nat} (hd : 7 ≤ d) (N : Nat) {h : zHp} {Q : Int → zHp → Prop} {o3 : Int} (K1 : zW l E d zm_Stays_longestPair 47 [zJk, zJk, zJk, .inl o3, zJk, zJk, zJk] [] h Q) : ∀ (n : Nat) (x3 x4 x5 : Int) , sh_Stays_longestPair_L10 N h n x3 x4 x5 = some o3 → zW l E d zm_Stays_longestPair 10 [.inr (.inr 38), zJk, zJk, .inl x3, .inl x4, .inl x5, zJk] [] h Q := by
  intro n
  induction n with
  | zero =>
    intro x3 x4 x5 hF
    cases (show (none : Option (Int)) = some o3 from hF)
  | succ n ih =>
    intro x3 x4 x5 hF
    rw [sh_Stays_longestPair_L10] at hF
    refine z_iload rfl rfl ?_
    refine z_aload rfl rfl rfl ?_
    refine z_getr (r := 1) rfl rfl rfl rfl ?_
    refine z_getr (r := 14) rfl rfl rfl rfl ?_
    refine z_inv1 (d' := d - 1) (As := []) rfl rfl (zf_Herd_oxen_14 (by omega)) rfl rfl rfl (by omega) rfl (fun r7 h8 hR9 hQ10 => ?_)
    obtain ⟨rfl, rfl⟩ := hQ10
    refine z_cge rfl (fun c11 => ?_) (fun c11 => ?_)
    · rw [if_pos c11] at hF
      refine zsubL (L' := [zJk, zJk, zJk, .inl x3, zJk, zJk, zJk]) ⟨Or.inr rfl, Or.inl rfl, Or.inl rfl, Or.inl rfl, Or.inr rfl, Or.inr rfl, Or.inl rfl, trivial⟩ ?_
      obtain rfl := Option.some.inj hF
      exact K1
    · rw [if_neg c11] at hF
      refine z_iload rfl rfl ?_
      refine z_const rfl ?_
      refine z_iadd rfl ?_
      refine z_istore rfl rfl rfl ?_
      obtain ⟨y28, y29, y30, hL27, hF⟩ := zbind3 hF
      refine zl_Stays_longestPair_L20 (by omega) N ?_ N _ _ _ _ hL27
      refine z_iinc rfl rfl rfl ?_
      refine z_goto rfl ?_
      exact ih _ _ _ hF
set_option maxRecDepth 100000 in
set_option maxHeartbeats 4000000 in
theorem zw_Stays_longestPair {l : Launch} {E : zE} {d : Nat} (hd : 7 ≤ d) (N : Nat) (x1 x2 : Int) {h : zHp} {Q : Int → zHp → Prop} {r0 : Int} {h0 : zHp} (hF : sh_Stays_longestPair N x1 x2 h = some (r0, h0)) (K : Q r0 h0) : zW l E d zm_Stays_longestPair 0 [.inr (.inr 38), .inl x1, .inl x2, zJk, zJk, zJk, zJk] [] h Q := by
  rw [sh_Stays_longestPair] at hF
  refine z_aload rfl rfl rfl ?_
  refine z_iload rfl rfl ?_
  refine z_iload rfl rfl ?_
  obtain ⟨h6, hc5, hF⟩ := zbind1 hF
  refine z_inv0 (d' := d - 1) (As := [.inl x1, .inl x2]) rfl rfl (zf_Stays_measure (by omega) N _ _ hc5) rfl rfl rfl (by omega) rfl (fun r1 h2 hR3 hQ4 => ?_)
  obtain ⟨rfl, rfl⟩ := hQ4
  refine z_const rfl ?_
  refine z_istore rfl rfl rfl ?_
  refine z_const rfl ?_
  refine z_istore rfl rfl rfl ?_
  refine z_const rfl ?_
  refine z_istore rfl rfl rfl ?_
  refine zsubL (L' := [.inr (.inr 38), zJk, zJk, .inl (-1), .inl (-1), .inl 0, zJk]) ⟨Or.inl rfl, Or.inr rfl, Or.inr rfl, Or.inl rfl, Or.inl rfl, Or.inl rfl, Or.inl rfl, trivial⟩ ?_
  obtain ⟨y32, hL31, hF⟩ := zbind1 hF
  refine zl_Stays_longestPair_L10 (by omega) N ?_ N _ _ _ hL31
  refine z_iload rfl rfl ?_
  obtain ⟨rfl, rfl⟩ := zinj2 hF
  exact z_iret rfl rfl K
set_option maxRecDepth 100000 in
theorem zf_Stays_longestPair {l : Launch} {E : zE} {d : Nat} (hd : 7 ≤ d) (N : Nat) (x1 x2 : Int) {h : zHp} {r0 : Int} {h0 : zHp} (hF : sh_Stays_longestPair N x1 x2 h = some (r0, h0)) : zC l E d zm_Stays_longestPair [.inr (.inr 38), .inl x1, .inl x2] h (fun r1 h1 => r0 = r1 ∧ h0 = h1) :=
  zC_of zk_Stays_longestPair (by decide) rfl rfl (Nat.le_of_ble_eq_true rfl) (zw_Stays_longestPair hd N _ _ hF ⟨rfl, rfl⟩)
def sh_Ox_longest (N : Nat) (x1 x2 : Int) (h : zHp) : Option (Int × zHp) := (if sh_Ox_isField x1 h = 0 then some ((-1), h) else (if sh_Ox_within x2 1 24 = 0 then some ((-1), h) else zb2 (sh_Stays_longestPair N x1 x2 h) fun r23 h24 => some (r23, h24)))
set_option maxRecDepth 100000 in
set_option maxHeartbeats 4000000 in
theorem zw_Ox_longest {l : Launch} {E : zE} {d : Nat} (hd : 8 ≤ d) (N : Nat) (x1 x2 : Int) {h : zHp} {Q : Int → zHp → Prop} {r0 : Int} {h0 : zHp} (hF : sh_Ox_longest N x1 x2 h = some (r0, h0)) (K : Q r0 h0) : zW l E d zm_Ox_longest 0 [.inr (.inr 0), .inl x1, .inl x2] [] h Q := by
  rw [sh_Ox_longest] at hF
  refine z_aload rfl rfl rfl ?_
  refine z_iload rfl rfl ?_
  refine z_inv1 (d' := d - 1) (As := [.inl x1]) rfl rfl (zf_Ox_isField (by omega) _) rfl rfl rfl (by omega) rfl (fun r1 h2 hR3 hQ4 => ?_)
  obtain ⟨rfl, rfl⟩ := hQ4
  refine z_zeq rfl (fun c11 => ?_) (fun c11 => ?_)
  · rw [if_pos c11] at hF
    refine z_const rfl ?_
    obtain ⟨rfl, rfl⟩ := zinj2 hF
    exact z_iret rfl rfl K
  · rw [if_neg c11] at hF
    refine z_iload rfl rfl ?_
    refine z_const rfl ?_
    refine z_const rfl ?_
    refine z_ivs1 (d' := d - 1) (As := [.inl x2, .inl 1, .inl 24]) rfl rfl (zf_Ox_within (by omega) _ _ _) rfl (by omega) rfl (fun r12 h13 hR14 hQ15 => ?_)
    obtain ⟨rfl, rfl⟩ := hQ15
    refine z_zeq rfl (fun c17 => ?_) (fun c17 => ?_)
    · rw [if_pos c17] at hF
      refine z_const rfl ?_
      obtain ⟨rfl, rfl⟩ := zinj2 hF
      exact z_iret rfl rfl K
    · rw [if_neg c17] at hF
      refine z_aload rfl rfl rfl ?_
      refine z_getr (r := 38) rfl rfl rfl rfl ?_
      refine z_iload rfl rfl ?_
      refine z_iload rfl rfl ?_
      obtain ⟨r23, h24, hc22, hF⟩ := zbind2 hF
      refine z_inv1 (d' := d - 1) (As := [.inl x1, .inl x2]) rfl rfl (zf_Stays_longestPair (by omega) N _ _ hc22) rfl rfl rfl (by omega) rfl (fun r18 h19 hR20 hQ21 => ?_)
      obtain ⟨rfl, rfl⟩ := hQ21
      refine z_goto rfl ?_
      obtain ⟨rfl, rfl⟩ := zinj2 hF
      exact z_iret rfl rfl K
set_option maxRecDepth 100000 in
theorem zf_Ox_longest {l : Launch} {E : zE} {d : Nat} (hd : 8 ≤ d) (N : Nat) (x1 x2 : Int) {h : zHp} {r0 : Int} {h0 : zHp} (hF : sh_Ox_longest N x1 x2 h = some (r0, h0)) : zC l E d zm_Ox_longest [.inr (.inr 0), .inl x1, .inl x2] h (fun r1 h1 => r0 = r1 ∧ h0 = h1) :=
  zC_of zk_Ox_longest (by decide) rfl rfl (Nat.le_of_ble_eq_true rfl) (zw_Ox_longest hd N _ _ hF ⟨rfl, rfl⟩)
def sh_Mo_longest_L17 (N : Nat) : Nat → Int → Int → Int → Int → Int → zHp → Option (Int × zHp)
  | 0, _, _, _, _, _, _ => none
  | n + 1, x1, x2, x3, x4, x5, h => (if 80 ≤ x5 then some (x3, h) else (if sh_Mo_isPair x5 0 h = 0 then sh_Mo_longest_L17 N n x1 x2 x3 x4 (w32 (x5 + 1)) h else zb2 (sh_Mo_stayOf N (w32 ((x5).tdiv 10)) (w32 ((x5).tmod 10)) x1 x2 h) fun r23 h24 => sh_Mo_longest_L17 N n x1 x2 (if x4 < r23 then x5 else x3 : Int) (if x4 < r23 then r23 else x4 : Int) (w32 (x5 + 1)) h24))
def sh_Mo_longest (N : Nat) (x1 x2 : Int) (h : zHp) : Option (Int × zHp) := (if sh_Mo_isField x1 h = 0 then some ((-1), h) else (if sh_Mo_isIn x2 1 24 = 0 then some ((-1), h) else zb2 (sh_Mo_longest_L17 N N x1 x2 (-1) (-1) 0 h) fun y28 h29 => some (y28, h29)))
set_option maxRecDepth 100000 in
set_option maxHeartbeats 4000000 in
theorem zl_Mo_longest_L17 {l : Launch} {E : zE} {d : Nat} (hd : 7 ≤ d) (N : Nat) {Q : Int → zHp → Prop} {o3 : Int} {oh : zHp} (K1 : zW l E d zm_Mo_longest 47 [zJk, zJk, zJk, .inl o3, zJk, zJk, zJk] [] oh Q) : ∀ (n : Nat) (x1 x2 x3 x4 x5 : Int) (h : zHp), sh_Mo_longest_L17 N n x1 x2 x3 x4 x5 h = some (o3, oh) → zW l E d zm_Mo_longest 17 [.inr (.inr 85), .inl x1, .inl x2, .inl x3, .inl x4, .inl x5, zJk] [] h Q := by
  intro n
  induction n with
  | zero =>
    intro x1 x2 x3 x4 x5 h hF
    cases (show (none : Option (Int × zHp)) = some (o3, oh) from hF)
  | succ n ih =>
    intro x1 x2 x3 x4 x5 h hF
    rw [sh_Mo_longest_L17] at hF
    refine z_iload rfl rfl ?_
    refine z_const rfl ?_
    refine z_cge rfl (fun c11 => ?_) (fun c11 => ?_)
    · rw [if_pos c11] at hF
      refine zsubL (L' := [zJk, zJk, zJk, .inl x3, zJk, zJk, zJk]) ⟨Or.inr rfl, Or.inr rfl, Or.inr rfl, Or.inl rfl, Or.inr rfl, Or.inr rfl, Or.inl rfl, trivial⟩ ?_
      obtain ⟨rfl, rfl⟩ := zinj2 hF
      exact K1
    · rw [if_neg c11] at hF
      refine z_aload rfl rfl rfl ?_
      refine z_iload rfl rfl ?_
      refine z_const rfl ?_
      refine z_inv1 (d' := d - 1) (As := [.inl x5, .inl 0]) rfl rfl (zf_Mo_isPair (by omega) _ _) rfl rfl rfl (by omega) rfl (fun r12 h13 hR14 hQ15 => ?_)
      obtain ⟨rfl, rfl⟩ := hQ15
      refine z_zne rfl (fun c17 => ?_) (fun c17 => ?_)
      · rw [if_neg c17] at hF
        refine z_aload rfl rfl rfl ?_
        refine z_iload rfl rfl ?_
        refine z_const rfl ?_
        refine z_idiv rfl (by decide) ?_
        refine z_iload rfl rfl ?_
        refine z_const rfl ?_
        refine z_irem rfl (by decide) ?_
        refine z_iload rfl rfl ?_
        refine z_iload rfl rfl ?_
        obtain ⟨r23, h24, hc22, hF⟩ := zbind2 hF
        refine z_inv1 (d' := d - 1) (As := [.inl (w32 ((x5).tdiv 10)), .inl (w32 ((x5).tmod 10)), .inl x1, .inl x2]) rfl rfl (zf_Mo_stayOf (by omega) N _ _ _ _ hc22) rfl rfl rfl (by omega) rfl (fun r18 h19 hR20 hQ21 => ?_)
        obtain ⟨rfl, rfl⟩ := hQ21
        refine z_istore rfl rfl rfl ?_
        refine z_iload rfl rfl ?_
        refine z_iload rfl rfl ?_
        have hJ26 : zW l E d zm_Mo_longest 45 [.inr (.inr 85), .inl x1, .inl x2, .inl (if x4 < r23 then x5 else x3 : Int), .inl (if x4 < r23 then r23 else x4 : Int), .inl x5, zJk] [] h24 Q := by
          refine z_iinc rfl rfl rfl ?_
          refine z_goto rfl ?_
          exact ih _ _ _ _ _ _ hF
        refine z_cgt rfl (fun c25 => ?_) (fun c25 => ?_)
        · refine z_iload rfl rfl ?_
          refine z_istore rfl rfl rfl ?_
          refine z_iload rfl rfl ?_
          refine z_istore rfl rfl rfl ?_
          refine zsubL (L' := [.inr (.inr 85), .inl x1, .inl x2, .inl x5, .inl r23, .inl x5, zJk]) ⟨Or.inl rfl, Or.inl rfl, Or.inl rfl, Or.inl rfl, Or.inl rfl, Or.inl rfl, Or.inr rfl, trivial⟩ ?_
          exact zcast (by first | rfl | (simp only [if_pos c25] <;> rfl)) (by first | rfl | (simp only [if_pos c25] <;> rfl)) hJ26
        · refine z_goto rfl ?_
          refine zsubL (L' := [.inr (.inr 85), .inl x1, .inl x2, .inl x3, .inl x4, .inl x5, zJk]) ⟨Or.inl rfl, Or.inl rfl, Or.inl rfl, Or.inl rfl, Or.inl rfl, Or.inl rfl, Or.inr rfl, trivial⟩ ?_
          exact zcast (by first | rfl | (simp only [if_neg c25] <;> rfl)) (by first | rfl | (simp only [if_neg c25] <;> rfl)) hJ26
      · rw [if_pos c17] at hF
        refine z_goto rfl ?_
        refine z_iinc rfl rfl rfl ?_
        refine z_goto rfl ?_
        exact ih _ _ _ _ _ _ hF
set_option maxRecDepth 100000 in
set_option maxHeartbeats 4000000 in
theorem zw_Mo_longest {l : Launch} {E : zE} {d : Nat} (hd : 7 ≤ d) (N : Nat) (x1 x2 : Int) {h : zHp} {Q : Int → zHp → Prop} {r0 : Int} {h0 : zHp} (hF : sh_Mo_longest N x1 x2 h = some (r0, h0)) (K : Q r0 h0) : zW l E d zm_Mo_longest 0 [.inr (.inr 85), .inl x1, .inl x2, zJk, zJk, zJk, zJk] [] h Q := by
  rw [sh_Mo_longest] at hF
  refine z_aload rfl rfl rfl ?_
  refine z_iload rfl rfl ?_
  refine z_inv1 (d' := d - 1) (As := [.inl x1]) rfl rfl (zf_Mo_isField (by omega) _) rfl rfl rfl (by omega) rfl (fun r1 h2 hR3 hQ4 => ?_)
  obtain ⟨rfl, rfl⟩ := hQ4
  refine z_zeq rfl (fun c5 => ?_) (fun c5 => ?_)
  · rw [if_pos c5] at hF
    refine z_const rfl ?_
    obtain ⟨rfl, rfl⟩ := zinj2 hF
    exact z_iret rfl rfl K
  · rw [if_neg c5] at hF
    refine z_iload rfl rfl ?_
    refine z_const rfl ?_
    refine z_const rfl ?_
    refine z_ivs1 (d' := d - 1) (As := [.inl x2, .inl 1, .inl 24]) rfl rfl (zf_Mo_isIn (by omega) _ _ _) rfl (by omega) rfl (fun r6 h7 hR8 hQ9 => ?_)
    obtain ⟨rfl, rfl⟩ := hQ9
    refine z_zne rfl (fun c10 => ?_) (fun c10 => ?_)
    · rw [if_neg c10] at hF
      refine z_const rfl ?_
      refine z_istore rfl rfl rfl ?_
      refine z_const rfl ?_
      refine z_istore rfl rfl rfl ?_
      refine z_const rfl ?_
      refine z_istore rfl rfl rfl ?_
      obtain ⟨y28, h29, hL27, hF⟩ := zbind2 hF
      refine zl_Mo_longest_L17 (by omega) N ?_ N _ _ _ _ _ _ hL27
      refine z_iload rfl rfl ?_
      obtain ⟨rfl, rfl⟩ := zinj2 hF
      exact z_iret rfl rfl K
    · rw [if_pos c10] at hF
      refine z_const rfl ?_
      obtain ⟨rfl, rfl⟩ := zinj2 hF
      exact z_iret rfl rfl K
set_option maxRecDepth 100000 in
theorem zf_Mo_longest {l : Launch} {E : zE} {d : Nat} (hd : 7 ≤ d) (N : Nat) (x1 x2 : Int) {h : zHp} {r0 : Int} {h0 : zHp} (hF : sh_Mo_longest N x1 x2 h = some (r0, h0)) : zC l E d zm_Mo_longest [.inr (.inr 85), .inl x1, .inl x2] h (fun r1 h1 => r0 = r1 ∧ h0 = h1) :=
  zC_of zk_Mo_longest (by decide) rfl rfl (Nat.le_of_ble_eq_true rfl) (zw_Mo_longest hd N _ _ hF ⟨rfl, rfl⟩)
def sh_Laws_weight (N : Nat) (x1 x2 x3 : Int) (h : zHp) : Option (Int × zHp) := zb2 (sh_Laws_value N 3 1 (sh_Laws_askCall x1 x2 x3 h)) fun r10 h11 => some (sh_Laws_between r10 0 9, h11)
set_option maxRecDepth 100000 in
set_option maxHeartbeats 4000000 in
theorem zw_Laws_weight {l : Launch} {E : zE} {d : Nat} (hd : 3 ≤ d) (N : Nat) (x1 x2 x3 : Int) {h : zHp} {Q : Int → zHp → Prop} {r0 : Int} {h0 : zHp} (hF : sh_Laws_weight N x1 x2 x3 h = some (r0, h0)) (K : Q r0 h0) : zW l E d zm_Laws_weight 0 [.inr (.inr 33), .inl x1, .inl x2, .inl x3] [] h Q := by
  rw [sh_Laws_weight] at hF
  refine z_aload rfl rfl rfl ?_
  refine z_iload rfl rfl ?_
  refine z_iload rfl rfl ?_
  refine z_iload rfl rfl ?_
  refine z_inv0 (d' := d - 1) (As := [.inl x1, .inl x2, .inl x3]) rfl rfl (zf_Laws_askCall (by omega) _ _ _) rfl rfl rfl (by omega) rfl (fun r1 h2 hR3 hQ4 => ?_)
  obtain ⟨rfl, rfl⟩ := hQ4
  refine z_aload rfl rfl rfl ?_
  refine z_const rfl ?_
  refine z_const rfl ?_
  obtain ⟨r10, h11, hc9, hF⟩ := zbind2 hF
  refine z_inv1 (d' := d - 1) (As := [.inl 3, .inl 1]) rfl rfl (zf_Laws_value (by omega) N _ _ hc9) rfl rfl rfl (by omega) rfl (fun r5 h6 hR7 hQ8 => ?_)
  obtain ⟨rfl, rfl⟩ := hQ8
  refine z_i2l rfl ?_
  refine z_const rfl ?_
  refine z_const rfl ?_
  refine z_ivs1 (d' := d - 1) (As := [.inr (.inl r10), .inl 0, .inl 9]) rfl rfl (zf_Laws_between (by omega) _ _ _) rfl (by omega) rfl (fun r12 h13 hR14 hQ15 => ?_)
  obtain ⟨rfl, rfl⟩ := hQ15
  obtain ⟨rfl, rfl⟩ := zinj2 hF
  exact z_iret rfl rfl K
set_option maxRecDepth 100000 in
theorem zf_Laws_weight {l : Launch} {E : zE} {d : Nat} (hd : 3 ≤ d) (N : Nat) (x1 x2 x3 : Int) {h : zHp} {r0 : Int} {h0 : zHp} (hF : sh_Laws_weight N x1 x2 x3 h = some (r0, h0)) : zC l E d zm_Laws_weight [.inr (.inr 33), .inl x1, .inl x2, .inl x3] h (fun r1 h1 => r0 = r1 ∧ h0 = h1) :=
  zC_of zk_Laws_weight (by decide) rfl rfl (Nat.le_of_ble_eq_true rfl) (zw_Laws_weight hd N _ _ _ hF ⟨rfl, rfl⟩)
def sh_Laws_slip (N : Nat) (h : zHp) : Option (Int × zHp) := zb2 (sh_Laws_value N 2 0 h) fun r6 h7 => some (sh_Laws_between r6 0 9, h7)
set_option maxRecDepth 100000 in
set_option maxHeartbeats 4000000 in
theorem zw_Laws_slip {l : Launch} {E : zE} {d : Nat} (hd : 3 ≤ d) (N : Nat) {h : zHp} {Q : Int → zHp → Prop} {r0 : Int} {h0 : zHp} (hF : sh_Laws_slip N h = some (r0, h0)) (K : Q r0 h0) : zW l E d zm_Laws_slip 0 [.inr (.inr 33)] [] h Q := by
  rw [sh_Laws_slip] at hF
  refine z_aload rfl rfl rfl ?_
  refine z_const rfl ?_
  refine z_const rfl ?_
  obtain ⟨r6, h7, hc5, hF⟩ := zbind2 hF
  refine z_inv1 (d' := d - 1) (As := [.inl 2, .inl 0]) rfl rfl (zf_Laws_value (by omega) N _ _ hc5) rfl rfl rfl (by omega) rfl (fun r1 h2 hR3 hQ4 => ?_)
  obtain ⟨rfl, rfl⟩ := hQ4
  refine z_i2l rfl ?_
  refine z_const rfl ?_
  refine z_const rfl ?_
  refine z_ivs1 (d' := d - 1) (As := [.inr (.inl r6), .inl 0, .inl 9]) rfl rfl (zf_Laws_between (by omega) _ _ _) rfl (by omega) rfl (fun r8 h9 hR10 hQ11 => ?_)
  obtain ⟨rfl, rfl⟩ := hQ11
  obtain ⟨rfl, rfl⟩ := zinj2 hF
  exact z_iret rfl rfl K
set_option maxRecDepth 100000 in
theorem zf_Laws_slip {l : Launch} {E : zE} {d : Nat} (hd : 3 ≤ d) (N : Nat) {h : zHp} {r0 : Int} {h0 : zHp} (hF : sh_Laws_slip N h = some (r0, h0)) : zC l E d zm_Laws_slip [.inr (.inr 33)] h (fun r1 h1 => r0 = r1 ∧ h0 = h1) :=
  zC_of zk_Laws_slip (by decide) rfl rfl (Nat.le_of_ble_eq_true rfl) (zw_Laws_slip hd N hF ⟨rfl, rfl⟩)
def sh_Odds_times (N : Nat) (x1 : Int) (h : zHp) : Option (Int × zHp) := zb2 (sh_Laws_slip N h) fun r6 h7 => zb2 (sh_Laws_heeded N h7) fun r13 h14 => some ((if r13 = x1 then w32 (10 - r6) else r6 : Int), h14)
set_option maxRecDepth 100000 in
set_option maxHeartbeats 4000000 in
theorem zw_Odds_times {l : Launch} {E : zE} {d : Nat} (hd : 4 ≤ d) (N : Nat) (x1 : Int) {h : zHp} {Q : Int → zHp → Prop} {r0 : Int} {h0 : zHp} (hF : sh_Odds_times N x1 h = some (r0, h0)) (K : Q r0 h0) : zW l E d zm_Odds_times 0 [.inr (.inr 77), .inl x1, zJk] [] h Q := by
  rw [sh_Odds_times] at hF
  refine z_aload rfl rfl rfl ?_
  refine z_getr (r := 33) rfl rfl rfl rfl ?_
  obtain ⟨r6, h7, hc5, hF⟩ := zbind2 hF
  refine z_inv1 (d' := d - 1) (As := []) rfl rfl (zf_Laws_slip (by omega) N hc5) rfl rfl rfl (by omega) rfl (fun r1 h2 hR3 hQ4 => ?_)
  obtain ⟨rfl, rfl⟩ := hQ4
  refine z_istore rfl rfl rfl ?_
  refine z_aload rfl rfl rfl ?_
  refine z_getr (r := 33) rfl rfl rfl rfl ?_
  obtain ⟨r13, h14, hc12, hF⟩ := zbind2 hF
  refine z_inv1 (d' := d - 1) (As := []) rfl rfl (zf_Laws_heeded (by omega) N hc12) rfl rfl rfl (by omega) rfl (fun r8 h9 hR10 hQ11 => ?_)
  obtain ⟨rfl, rfl⟩ := hQ11
  refine z_iload rfl rfl ?_
  have hJ16 : zW l E d zm_Odds_times 14 [zJk, zJk, zJk] [.inl (if r13 = x1 then w32 (10 - r6) else r6 : Int)] h14 Q := by
    obtain ⟨rfl, rfl⟩ := zinj2 hF
    exact z_iret rfl rfl K
  refine z_cne rfl (fun c15 => ?_) (fun c15 => ?_)
  · refine z_iload rfl rfl ?_
    refine zsubL (L' := [zJk, zJk, zJk]) ⟨Or.inr rfl, Or.inr rfl, Or.inr rfl, trivial⟩ ?_
    exact zcast (by first | rfl | (simp only [if_neg c15] <;> rfl)) (by first | rfl | (simp only [if_neg c15] <;> rfl)) hJ16
  · refine z_const rfl ?_
    refine z_iload rfl rfl ?_
    refine z_isub rfl ?_
    refine z_goto rfl ?_
    refine zsubL (L' := [zJk, zJk, zJk]) ⟨Or.inr rfl, Or.inr rfl, Or.inr rfl, trivial⟩ ?_
    exact zcast (by first | rfl | (simp only [if_pos c15] <;> rfl)) (by first | rfl | (simp only [if_pos c15] <;> rfl)) hJ16
set_option maxRecDepth 100000 in
theorem zf_Odds_times {l : Launch} {E : zE} {d : Nat} (hd : 4 ≤ d) (N : Nat) (x1 : Int) {h : zHp} {r0 : Int} {h0 : zHp} (hF : sh_Odds_times N x1 h = some (r0, h0)) : zC l E d zm_Odds_times [.inr (.inr 77), .inl x1] h (fun r1 h1 => r0 = r1 ∧ h0 = h1) :=
  zC_of zk_Odds_times (by decide) rfl rfl (Nat.le_of_ble_eq_true rfl) (zw_Odds_times hd N _ hF ⟨rfl, rfl⟩)
def sh_Odds_weighAll_L28 (N : Nat) : Nat → Int → Int → Int → Int → Int → Int → Int → Int → Int → zHp → Option (Int × Int × Int × Int × Int × Int × Int × Int × zHp)
  | 0, _, _, _, _, _, _, _, _, _, _ => none
  | n + 1, x1, x2, x3, x4, x5, x6, x7, x8, x10, h => (if sh_Herd_oxen_14 h ≤ x10 then some (x1, x2, x3, x4, x5, x6, x7, x8, h) else (if zcmp x8 0 = 0 then some (x1, x2, x3, x4, x5, x6, x7, x8, h) else (if sh_Ox_isIn x3 x10 = 0 then sh_Odds_weighAll_L28 N n x1 x2 x3 x4 x5 x6 x7 x8 (w32 (x10 + 1)) h else zb2 (sh_Odds_times N (sh_Ox_isIn x4 x10) (sh_Laws_ask x10 x6 x7 x1 0 x2 h)) fun r35 h36 => sh_Odds_weighAll_L28 N n x1 x2 x3 x4 x5 x6 x7 (w64 (x8 * r35)) (w32 (x10 + 1)) h36)))
def sh_Odds_weighAll_L15 (N : Nat) : Nat → Int → Int → Int → Int → Int → Int → Int → zHp → Option (Int × Int × Int × Int × Int × Int × zHp)
  | 0, _, _, _, _, _, _, _, _ => none
  | n + 1, x1, x2, x3, x4, x5, x6, x7, h => (if 10 ≤ x7 then some (x1, x2, x3, x4, x5, x6, h) else zb2 (sh_Laws_weight N x6 x7 x2 h) fun r8 h9 => zb9 (sh_Odds_weighAll_L28 N N x1 x2 x3 x4 x5 x6 x7 r8 0 h9) fun y38 y39 y40 y41 y42 y43 y44 y45 h46 => sh_Odds_weighAll_L15 N n y38 y39 y40 y41 y42 y43 (w32 (y44 + 1)) (zst (zst h46 77 3 (w64 ((h46 77 3) + y45))) 77 2 (w64 ((zst h46 77 3 (w64 ((h46 77 3) + y45)) 77 2) + (if y43 = y42 then y45 else 0 : Int)))))
def sh_Odds_weighAll_L8 (N : Nat) : Nat → Int → Int → Int → Int → Int → Int → zHp → Option (zHp)
  | 0, _, _, _, _, _, _, _ => none
  | n + 1, x1, x2, x3, x4, x5, x6, h => (if h 1 0 ≤ x6 then some h else zb7 (sh_Odds_weighAll_L15 N N x1 x2 x3 x4 x5 x6 0 h) fun y50 y51 y52 y53 y54 y55 h56 => sh_Odds_weighAll_L8 N n y50 y51 y52 y53 y54 (w32 (y55 + 1)) h56)
def sh_Odds_weighAll (N : Nat) (x1 x2 x3 x4 x5 : Int) (h : zHp) : Option zHp := zb1 (sh_Odds_weighAll_L8 N N x1 x2 x3 x4 x5 0 (zst (zst h 77 2 0) 77 3 0)) fun h58 => some h58
set_option maxRecDepth 100000 in
set_option maxHeartbeats 4000000 in
theorem zl_Odds_weighAll_L28 {l : Launch} {E : zE} {d : Nat} (hd : 5 ≤ d) (N : Nat) {Q : Int → zHp → Prop} {o1 o2 o3 o4 o5 o6 o7 o8 : Int} {oh : zHp} (K1 : zW l E d zm_Odds_weighAll 62 [.inr (.inr 77), .inl o1, .inl o2, .inl o3, .inl o4, .inl o5, .inl o6, .inl o7, .inr (.inl o8), zJk, zJk] [] oh Q) : ∀ (n : Nat) (x1 x2 x3 x4 x5 x6 x7 x8 x10 : Int) (h : zHp), sh_Odds_weighAll_L28 N n x1 x2 x3 x4 x5 x6 x7 x8 x10 h = some (o1, o2, o3, o4, o5, o6, o7, o8, oh) → zW l E d zm_Odds_weighAll 28 [.inr (.inr 77), .inl x1, .inl x2, .inl x3, .inl x4, .inl x5, .inl x6, .inl x7, .inr (.inl x8), zJk, .inl x10] [] h Q := by
  intro n
  induction n with
  | zero =>
    intro x1 x2 x3 x4 x5 x6 x7 x8 x10 h hF
    cases (show (none : Option (Int × Int × Int × Int × Int × Int × Int × Int × zHp)) = some (o1, o2, o3, o4, o5, o6, o7, o8, oh) from hF)
  | succ n ih =>
    intro x1 x2 x3 x4 x5 x6 x7 x8 x10 h hF
    rw [sh_Odds_weighAll_L28] at hF
    refine z_iload rfl rfl ?_
    refine z_aload rfl rfl rfl ?_
    refine z_getr (r := 1) rfl rfl rfl rfl ?_
    refine z_getr (r := 14) rfl rfl rfl rfl ?_
    refine z_inv1 (d' := d - 1) (As := []) rfl rfl (zf_Herd_oxen_14 (by omega)) rfl rfl rfl (by omega) rfl (fun r10 h11 hR12 hQ13 => ?_)
    obtain ⟨rfl, rfl⟩ := hQ13
    refine z_cge rfl (fun c14 => ?_) (fun c14 => ?_)
    · rw [if_pos c14] at hF
      refine zsubL (L' := [.inr (.inr 77), .inl x1, .inl x2, .inl x3, .inl x4, .inl x5, .inl x6, .inl x7, .inr (.inl x8), zJk, zJk]) ⟨Or.inl rfl, Or.inl rfl, Or.inl rfl, Or.inl rfl, Or.inl rfl, Or.inl rfl, Or.inl rfl, Or.inl rfl, Or.inl rfl, Or.inl rfl, Or.inr rfl, trivial⟩ ?_
      obtain ⟨rfl, rfl, rfl, rfl, rfl, rfl, rfl, rfl, rfl⟩ := zinj9 hF
      exact K1
    · rw [if_neg c14] at hF
      refine z_lload rfl rfl ?_
      refine z_lconst rfl ?_
      refine z_lcmp rfl ?_
      refine z_zeq rfl (fun c15 => ?_) (fun c15 => ?_)
      · rw [if_pos c15] at hF
        refine zsubL (L' := [.inr (.inr 77), .inl x1, .inl x2, .inl x3, .inl x4, .inl x5, .inl x6, .inl x7, .inr (.inl x8), zJk, zJk]) ⟨Or.inl rfl, Or.inl rfl, Or.inl rfl, Or.inl rfl, Or.inl rfl, Or.inl rfl, Or.inl rfl, Or.inl rfl, Or.inl rfl, Or.inl rfl, Or.inr rfl, trivial⟩ ?_
        obtain ⟨rfl, rfl, rfl, rfl, rfl, rfl, rfl, rfl, rfl⟩ := zinj9 hF
        exact K1
      · rw [if_neg c15] at hF
        refine z_iload rfl rfl ?_
        refine z_iload rfl rfl ?_
        refine z_ivs1 (d' := d - 1) (As := [.inl x3, .inl x10]) rfl rfl (zf_Ox_isIn (by omega) _ _) rfl (by omega) rfl (fun r16 h17 hR18 hQ19 => ?_)
        obtain ⟨rfl, rfl⟩ := hQ19
        refine z_zeq rfl (fun c21 => ?_) (fun c21 => ?_)
        · rw [if_pos c21] at hF
          refine z_iinc rfl rfl rfl ?_
          refine z_goto rfl ?_
          exact ih _ _ _ _ _ _ _ _ _ _ hF
        · rw [if_neg c21] at hF
          refine z_aload rfl rfl rfl ?_
          refine z_getr (r := 33) rfl rfl rfl rfl ?_
          refine z_iload rfl rfl ?_
          refine z_iload rfl rfl ?_
          refine z_iload rfl rfl ?_
          refine z_iload rfl rfl ?_
          refine z_const rfl ?_
          refine z_iload rfl rfl ?_
          refine z_inv0 (d' := d - 1) (As := [.inl x10, .inl x6, .inl x7, .inl x1, .inl 0, .inl x2]) rfl rfl (zf_Laws_ask (by omega) _ _ _ _ _ _) rfl rfl rfl (by omega) rfl (fun r22 h23 hR24 hQ25 => ?_)
          obtain ⟨rfl, rfl⟩ := hQ25
          refine z_lload rfl rfl ?_
          refine z_aload rfl rfl rfl ?_
          refine z_iload rfl rfl ?_
          refine z_iload rfl rfl ?_
          refine z_ivs1 (d' := d - 1) (As := [.inl x4, .inl x10]) rfl rfl (zf_Ox_isIn (by omega) _ _) rfl (by omega) rfl (fun r26 h27 hR28 hQ29 => ?_)
          obtain ⟨rfl, rfl⟩ := hQ29
          obtain ⟨r35, h36, hc34, hF⟩ := zbind2 hF
          refine z_inv1 (d' := d - 1) (As := [.inl (sh_Ox_isIn x4 x10)]) rfl rfl (zf_Odds_times (by omega) N _ hc34) rfl rfl rfl (by omega) rfl (fun r30 h31 hR32 hQ33 => ?_)
          obtain ⟨rfl, rfl⟩ := hQ33
          refine z_i2l rfl ?_
          refine z_lmul rfl ?_
          refine z_lstore rfl rfl rfl ?_
          refine z_iinc rfl rfl rfl ?_
          refine z_goto rfl ?_
          exact ih _ _ _ _ _ _ _ _ _ _ hF
set_option maxRecDepth 100000 in
set_option maxHeartbeats 4000000 in
theorem zl_Odds_weighAll_L15 {l : Launch} {E : zE} {d : Nat} (hd : 5 ≤ d) (N : Nat) {Q : Int → zHp → Prop} {o1 o2 o3 o4 o5 o6 : Int} {oh : zHp} (K1 : zW l E d zm_Odds_weighAll 81 [.inr (.inr 77), .inl o1, .inl o2, .inl o3, .inl o4, .inl o5, .inl o6, zJk, zJk, zJk, zJk] [] oh Q) : ∀ (n : Nat) (x1 x2 x3 x4 x5 x6 x7 : Int) (h : zHp), sh_Odds_weighAll_L15 N n x1 x2 x3 x4 x5 x6 x7 h = some (o1, o2, o3, o4, o5, o6, oh) → zW l E d zm_Odds_weighAll 15 [.inr (.inr 77), .inl x1, .inl x2, .inl x3, .inl x4, .inl x5, .inl x6, .inl x7, zJk, zJk, zJk] [] h Q := by
  intro n
  induction n with
  | zero =>
    intro x1 x2 x3 x4 x5 x6 x7 h hF
    cases (show (none : Option (Int × Int × Int × Int × Int × Int × zHp)) = some (o1, o2, o3, o4, o5, o6, oh) from hF)
  | succ n ih =>
    intro x1 x2 x3 x4 x5 x6 x7 h hF
    rw [sh_Odds_weighAll_L15] at hF
    refine z_iload rfl rfl ?_
    refine z_const rfl ?_
    refine z_cge rfl (fun c2 => ?_) (fun c2 => ?_)
    · rw [if_pos c2] at hF
      refine zsubL (L' := [.inr (.inr 77), .inl x1, .inl x2, .inl x3, .inl x4, .inl x5, .inl x6, zJk, zJk, zJk, zJk]) ⟨Or.inl rfl, Or.inl rfl, Or.inl rfl, Or.inl rfl, Or.inl rfl, Or.inl rfl, Or.inl rfl, Or.inr rfl, Or.inl rfl, Or.inl rfl, Or.inl rfl, trivial⟩ ?_
      obtain ⟨rfl, rfl, rfl, rfl, rfl, rfl, rfl⟩ := zinj7 hF
      exact K1
    · rw [if_neg c2] at hF
      refine z_aload rfl rfl rfl ?_
      refine z_getr (r := 33) rfl rfl rfl rfl ?_
      refine z_iload rfl rfl ?_
      refine z_iload rfl rfl ?_
      refine z_iload rfl rfl ?_
      obtain ⟨r8, h9, hc7, hF⟩ := zbind2 hF
      refine z_inv1 (d' := d - 1) (As := [.inl x6, .inl x7, .inl x2]) rfl rfl (zf_Laws_weight (by omega) N _ _ _ hc7) rfl rfl rfl (by omega) rfl (fun r3 h4 hR5 hQ6 => ?_)
      obtain ⟨rfl, rfl⟩ := hQ6
      refine z_i2l rfl ?_
      refine z_lstore rfl rfl rfl ?_
      refine z_const rfl ?_
      refine z_istore rfl rfl rfl ?_
      obtain ⟨y38, y39, y40, y41, y42, y43, y44, y45, h46, hL37, hF⟩ := zbind9 hF
      refine zl_Odds_weighAll_L28 (by omega) N ?_ N _ _ _ _ _ _ _ _ _ _ hL37
      refine z_aload rfl rfl rfl ?_
      refine z_dup rfl rfl ?_
      refine z_getl rfl rfl rfl ?_
      refine z_lload rfl rfl ?_
      refine z_ladd rfl ?_
      refine z_putl rfl rfl rfl rfl ?_
      refine z_aload rfl rfl rfl ?_
      refine z_dup rfl rfl ?_
      refine z_getl rfl rfl rfl ?_
      refine z_iload rfl rfl ?_
      refine z_iload rfl rfl ?_
      have hJ48 : zW l E d zm_Odds_weighAll 77 [.inr (.inr 77), .inl y38, .inl y39, .inl y40, .inl y41, .inl y42, .inl y43, .inl y44, zJk, zJk, zJk] [.inr (.inl (if y43 = y42 then y45 else 0 : Int)), .inr (.inl (zst h46 77 3 (w64 ((h46 77 3) + y45)) 77 2)), .inr (.inr 77)] (zst h46 77 3 (w64 ((h46 77 3) + y45))) Q := by
        refine z_ladd rfl ?_
        refine z_putl rfl rfl rfl rfl ?_
        refine z_iinc rfl rfl rfl ?_
        refine z_goto rfl ?_
        exact ih _ _ _ _ _ _ _ _ hF
      refine z_cne rfl (fun c47 => ?_) (fun c47 => ?_)
      · refine z_lconst rfl ?_
        refine zsubL (L' := [.inr (.inr 77), .inl y38, .inl y39, .inl y40, .inl y41, .inl y42, .inl y43, .inl y44, zJk, zJk, zJk]) ⟨Or.inl rfl, Or.inl rfl, Or.inl rfl, Or.inl rfl, Or.inl rfl, Or.inl rfl, Or.inl rfl, Or.inl rfl, Or.inr rfl, Or.inl rfl, Or.inl rfl, trivial⟩ ?_
        exact zcast (by first | rfl | (simp only [if_neg c47] <;> rfl)) (by first | rfl | (simp only [if_neg c47] <;> rfl)) hJ48
      · refine z_lload rfl rfl ?_
        refine z_goto rfl ?_
        refine zsubL (L' := [.inr (.inr 77), .inl y38, .inl y39, .inl y40, .inl y41, .inl y42, .inl y43, .inl y44, zJk, zJk, zJk]) ⟨Or.inl rfl, Or.inl rfl, Or.inl rfl, Or.inl rfl, Or.inl rfl, Or.inl rfl, Or.inl rfl, Or.inl rfl, Or.inr rfl, Or.inl rfl, Or.inl rfl, trivial⟩ ?_
        exact zcast (by first | rfl | (simp only [if_pos c47] <;> rfl)) (by first | rfl | (simp only [if_pos c47] <;> rfl)) hJ48
set_option maxRecDepth 100000 in
set_option maxHeartbeats 4000000 in
theorem zl_Odds_weighAll_L8 {l : Launch} {E : zE} {d : Nat} (hd : 5 ≤ d) (N : Nat) {Q : Int → zHp → Prop} {oh : zHp} (K1 : zW l E d zm_Odds_weighAll 83 [zJk, zJk, zJk, zJk, zJk, zJk, zJk, zJk, zJk, zJk, zJk] [] oh Q) : ∀ (n : Nat) (x1 x2 x3 x4 x5 x6 : Int) (h : zHp), sh_Odds_weighAll_L8 N n x1 x2 x3 x4 x5 x6 h = some oh → zW l E d zm_Odds_weighAll 8 [.inr (.inr 77), .inl x1, .inl x2, .inl x3, .inl x4, .inl x5, .inl x6, zJk, zJk, zJk, zJk] [] h Q := by
  intro n
  induction n with
  | zero =>
    intro x1 x2 x3 x4 x5 x6 h hF
    cases (show (none : Option (zHp)) = some oh from hF)
  | succ n ih =>
    intro x1 x2 x3 x4 x5 x6 h hF
    rw [sh_Odds_weighAll_L8] at hF
    refine z_iload rfl rfl ?_
    refine z_aload rfl rfl rfl ?_
    refine z_getr (r := 1) rfl rfl rfl rfl ?_
    refine z_geti rfl rfl rfl rfl ?_
    refine z_cge rfl (fun c1 => ?_) (fun c1 => ?_)
    · rw [if_pos c1] at hF
      refine zsubL (L' := [zJk, zJk, zJk, zJk, zJk, zJk, zJk, zJk, zJk, zJk, zJk]) ⟨Or.inr rfl, Or.inr rfl, Or.inr rfl, Or.inr rfl, Or.inr rfl, Or.inr rfl, Or.inr rfl, Or.inl rfl, Or.inl rfl, Or.inl rfl, Or.inl rfl, trivial⟩ ?_
      obtain rfl := Option.some.inj hF
      exact K1
    · rw [if_neg c1] at hF
      refine z_const rfl ?_
      refine z_istore rfl rfl rfl ?_
      obtain ⟨y50, y51, y52, y53, y54, y55, h56, hL49, hF⟩ := zbind7 hF
      refine zl_Odds_weighAll_L15 (by omega) N ?_ N _ _ _ _ _ _ _ _ hL49
      refine z_iinc rfl rfl rfl ?_
      refine z_goto rfl ?_
      exact ih _ _ _ _ _ _ _ hF
set_option maxRecDepth 100000 in
set_option maxHeartbeats 4000000 in
theorem zw_Odds_weighAll {l : Launch} {E : zE} {d : Nat} (hd : 5 ≤ d) (N : Nat) (x1 x2 x3 x4 x5 : Int) {h : zHp} {Q : Int → zHp → Prop} {h0 : zHp} (hF : sh_Odds_weighAll N x1 x2 x3 x4 x5 h = some h0) (K : Q 0 h0) : zW l E d zm_Odds_weighAll 0 [.inr (.inr 77), .inl x1, .inl x2, .inl x3, .inl x4, .inl x5, zJk, zJk, zJk, zJk, zJk] [] h Q := by
  rw [sh_Odds_weighAll] at hF
  refine z_aload rfl rfl rfl ?_
  refine z_lconst rfl ?_
  refine z_putl rfl rfl rfl rfl ?_
  refine z_aload rfl rfl rfl ?_
  refine z_lconst rfl ?_
  refine z_putl rfl rfl rfl rfl ?_
  refine z_const rfl ?_
  refine z_istore rfl rfl rfl ?_
  obtain ⟨h58, hL57, hF⟩ := zbind1 hF
  refine zl_Odds_weighAll_L8 (by omega) N ?_ N _ _ _ _ _ _ _ hL57
  obtain rfl := Option.some.inj hF
  exact z_ret rfl rfl rfl K
set_option maxRecDepth 100000 in
theorem zf_Odds_weighAll {l : Launch} {E : zE} {d : Nat} (hd : 5 ≤ d) (N : Nat) (x1 x2 x3 x4 x5 : Int) {h : zHp} {h0 : zHp} (hF : sh_Odds_weighAll N x1 x2 x3 x4 x5 h = some h0) : zC l E d zm_Odds_weighAll [.inr (.inr 77), .inl x1, .inl x2, .inl x3, .inl x4, .inl x5] h (fun r1 h1 => 0 = r1 ∧ h0 = h1) :=
  zC_of zk_Odds_weighAll (by decide) rfl rfl (Nat.le_of_ble_eq_true rfl) (zw_Odds_weighAll hd N _ _ _ _ _ hF ⟨rfl, rfl⟩)
def sh_Odds_divisor_L8 (N : Nat) (h : zHp) : Nat → Int → Int → Int → Option (Int)
  | 0, _, _, _ => none
  | n + 1, x1, x3, x5 => (if 128 ≤ x5 then some x1 else (if zcmp x3 0 = 0 then some x1 else if ¬ x3 = 0 then sh_Odds_divisor_L8 N h n x3 (w64 ((x1).tmod x3)) (w32 (x5 + 1)) else none))
def sh_Odds_divisor (N : Nat) (h : zHp) : Option Int := zb1 (sh_Odds_divisor_L8 N h N (h 77 3) (h 77 2) 0) fun y5 => some y5
set_option maxRecDepth 100000 in
set_option maxHeartbeats 4000000 in
theorem zl_Odds_divisor_L8 {l : Launch} {E : zE} {d : Nat} (hd : 1 ≤ d) (N : Nat) {h : zHp} {Q : Int → zHp → Prop} {o1 : Int} (K1 : zW l E d zm_Odds_divisor 25 [zJk, .inr (.inl o1), zJk, zJk, zJk, zJk, zJk, zJk] [] h Q) : ∀ (n : Nat) (x1 x3 x5 : Int) , sh_Odds_divisor_L8 N h n x1 x3 x5 = some o1 → zW l E d zm_Odds_divisor 8 [zJk, .inr (.inl x1), zJk, .inr (.inl x3), zJk, .inl x5, zJk, zJk] [] h Q := by
  intro n
  induction n with
  | zero =>
    intro x1 x3 x5 hF
    cases (show (none : Option (Int)) = some o1 from hF)
  | succ n ih =>
    intro x1 x3 x5 hF
    rw [sh_Odds_divisor_L8] at hF
    refine z_iload rfl rfl ?_
    refine z_const rfl ?_
    refine z_cge rfl (fun c1 => ?_) (fun c1 => ?_)
    · rw [if_pos c1] at hF
      refine zsubL (L' := [zJk, .inr (.inl x1), zJk, zJk, zJk, zJk, zJk, zJk]) ⟨Or.inl rfl, Or.inl rfl, Or.inl rfl, Or.inr rfl, Or.inl rfl, Or.inr rfl, Or.inl rfl, Or.inl rfl, trivial⟩ ?_
      obtain rfl := Option.some.inj hF
      exact K1
    · rw [if_neg c1] at hF
      refine z_lload rfl rfl ?_
      refine z_lconst rfl ?_
      refine z_lcmp rfl ?_
      refine z_zeq rfl (fun c2 => ?_) (fun c2 => ?_)
      · rw [if_pos c2] at hF
        refine zsubL (L' := [zJk, .inr (.inl x1), zJk, zJk, zJk, zJk, zJk, zJk]) ⟨Or.inl rfl, Or.inl rfl, Or.inl rfl, Or.inr rfl, Or.inl rfl, Or.inr rfl, Or.inl rfl, Or.inl rfl, trivial⟩ ?_
        obtain rfl := Option.some.inj hF
        exact K1
      · rw [if_neg c2] at hF
        refine z_lload rfl rfl ?_
        refine z_lload rfl rfl ?_
        obtain ⟨g3, hF⟩ := zguard hF
        refine z_lrem rfl g3 ?_
        refine z_lstore rfl rfl rfl ?_
        refine z_lload rfl rfl ?_
        refine z_lstore rfl rfl rfl ?_
        refine z_lload rfl rfl ?_
        refine z_lstore rfl rfl rfl ?_
        refine z_iinc rfl rfl rfl ?_
        refine z_goto rfl ?_
        refine zsubL (L' := [zJk, .inr (.inl x3), zJk, .inr (.inl (w64 ((x1).tmod x3))), zJk, .inl (w32 (x5 + 1)), zJk, zJk]) ⟨Or.inl rfl, Or.inl rfl, Or.inl rfl, Or.inl rfl, Or.inl rfl, Or.inl rfl, Or.inr rfl, Or.inl rfl, trivial⟩ ?_
        exact ih _ _ _ hF
set_option maxRecDepth 100000 in
set_option maxHeartbeats 4000000 in
theorem zw_Odds_divisor {l : Launch} {E : zE} {d : Nat} (hd : 1 ≤ d) (N : Nat) {h : zHp} {Q : Int → zHp → Prop} {r0 : Int} (hF : sh_Odds_divisor N h = some r0) (K : Q r0 h) : zW l E d zm_Odds_divisor 0 [.inr (.inr 77), zJk, zJk, zJk, zJk, zJk, zJk, zJk] [] h Q := by
  rw [sh_Odds_divisor] at hF
  refine z_aload rfl rfl rfl ?_
  refine z_getl rfl rfl rfl ?_
  refine z_lstore rfl rfl rfl ?_
  refine z_aload rfl rfl rfl ?_
  refine z_getl rfl rfl rfl ?_
  refine z_lstore rfl rfl rfl ?_
  refine z_const rfl ?_
  refine z_istore rfl rfl rfl ?_
  refine zsubL (L' := [zJk, .inr (.inl (h 77 3)), zJk, .inr (.inl (h 77 2)), zJk, .inl 0, zJk, zJk]) ⟨Or.inr rfl, Or.inl rfl, Or.inl rfl, Or.inl rfl, Or.inl rfl, Or.inl rfl, Or.inl rfl, Or.inl rfl, trivial⟩ ?_
  obtain ⟨y5, hL4, hF⟩ := zbind1 hF
  refine zl_Odds_divisor_L8 (by omega) N ?_ N _ _ _ hL4
  refine z_lload rfl rfl ?_
  obtain rfl := Option.some.inj hF
  exact z_lret rfl rfl K
set_option maxRecDepth 100000 in
theorem zf_Odds_divisor {l : Launch} {E : zE} {d : Nat} (hd : 1 ≤ d) (N : Nat) {h : zHp} {r0 : Int} (hF : sh_Odds_divisor N h = some r0) : zC l E d zm_Odds_divisor [.inr (.inr 77)] h (fun r1 h1 => r0 = r1 ∧ h = h1) :=
  zC_of zk_Odds_divisor (by decide) rfl rfl (Nat.le_of_ble_eq_true rfl) (zw_Odds_divisor hd N hF ⟨rfl, rfl⟩)
def sh_Odds_lowestUpper (N : Nat) (h : zHp) : Option Int := zb1 (sh_Odds_divisor N h) fun r6 => if zcmp r6 0 = 0 then some (h 77 2) else if ¬ r6 = 0 then some (w64 ((h 77 2).tdiv r6)) else none
set_option maxRecDepth 100000 in
set_option maxHeartbeats 4000000 in
theorem zw_Odds_lowestUpper {l : Launch} {E : zE} {d : Nat} (hd : 2 ≤ d) (N : Nat) {h : zHp} {Q : Int → zHp → Prop} {r0 : Int} (hF : sh_Odds_lowestUpper N h = some r0) (K : Q r0 h) : zW l E d zm_Odds_lowestUpper 0 [.inr (.inr 77), zJk, zJk] [] h Q := by
  rw [sh_Odds_lowestUpper] at hF
  refine z_aload rfl rfl rfl ?_
  obtain ⟨r6, hc5, hF⟩ := zbind1 hF
  refine z_inv2 (d' := d - 1) (As := []) rfl rfl (zf_Odds_divisor (by omega) N hc5) rfl rfl rfl (by omega) rfl (fun r1 h2 hR3 hQ4 => ?_)
  obtain ⟨rfl, rfl⟩ := hQ4
  refine z_lstore rfl rfl rfl ?_
  refine z_lload rfl rfl ?_
  refine z_lconst rfl ?_
  refine z_lcmp rfl ?_
  refine z_zne rfl (fun c8 => ?_) (fun c8 => ?_)
  · rw [if_neg c8] at hF
    refine z_aload rfl rfl rfl ?_
    refine z_getl rfl rfl rfl ?_
    refine z_lload rfl rfl ?_
    obtain ⟨g9, hF⟩ := zguard hF
    refine z_ldiv rfl g9 ?_
    obtain rfl := Option.some.inj hF
    exact z_lret rfl rfl K
  · rw [if_pos c8] at hF
    refine z_aload rfl rfl rfl ?_
    refine z_getl rfl rfl rfl ?_
    refine z_goto rfl ?_
    obtain rfl := Option.some.inj hF
    exact z_lret rfl rfl K
set_option maxRecDepth 100000 in
theorem zf_Odds_lowestUpper {l : Launch} {E : zE} {d : Nat} (hd : 2 ≤ d) (N : Nat) {h : zHp} {r0 : Int} (hF : sh_Odds_lowestUpper N h = some r0) : zC l E d zm_Odds_lowestUpper [.inr (.inr 77)] h (fun r1 h1 => r0 = r1 ∧ h = h1) :=
  zC_of zk_Odds_lowestUpper (by decide) rfl rfl (Nat.le_of_ble_eq_true rfl) (zw_Odds_lowestUpper hd N hF ⟨rfl, rfl⟩)
def sh_Odds_lowestLower (N : Nat) (h : zHp) : Option Int := zb1 (sh_Odds_divisor N h) fun r6 => if zcmp r6 0 = 0 then some (h 77 3) else if ¬ r6 = 0 then some (w64 ((h 77 3).tdiv r6)) else none
set_option maxRecDepth 100000 in
set_option maxHeartbeats 4000000 in
theorem zw_Odds_lowestLower {l : Launch} {E : zE} {d : Nat} (hd : 2 ≤ d) (N : Nat) {h : zHp} {Q : Int → zHp → Prop} {r0 : Int} (hF : sh_Odds_lowestLower N h = some r0) (K : Q r0 h) : zW l E d zm_Odds_lowestLower 0 [.inr (.inr 77), zJk, zJk] [] h Q := by
  rw [sh_Odds_lowestLower] at hF
  refine z_aload rfl rfl rfl ?_
  obtain ⟨r6, hc5, hF⟩ := zbind1 hF
  refine z_inv2 (d' := d - 1) (As := []) rfl rfl (zf_Odds_divisor (by omega) N hc5) rfl rfl rfl (by omega) rfl (fun r1 h2 hR3 hQ4 => ?_)
  obtain ⟨rfl, rfl⟩ := hQ4
  refine z_lstore rfl rfl rfl ?_
  refine z_lload rfl rfl ?_
  refine z_lconst rfl ?_
  refine z_lcmp rfl ?_
  refine z_zne rfl (fun c8 => ?_) (fun c8 => ?_)
  · rw [if_neg c8] at hF
    refine z_aload rfl rfl rfl ?_
    refine z_getl rfl rfl rfl ?_
    refine z_lload rfl rfl ?_
    obtain ⟨g9, hF⟩ := zguard hF
    refine z_ldiv rfl g9 ?_
    obtain rfl := Option.some.inj hF
    exact z_lret rfl rfl K
  · rw [if_pos c8] at hF
    refine z_aload rfl rfl rfl ?_
    refine z_getl rfl rfl rfl ?_
    refine z_goto rfl ?_
    obtain rfl := Option.some.inj hF
    exact z_lret rfl rfl K
set_option maxRecDepth 100000 in
theorem zf_Odds_lowestLower {l : Launch} {E : zE} {d : Nat} (hd : 2 ≤ d) (N : Nat) {h : zHp} {r0 : Int} (hF : sh_Odds_lowestLower N h = some r0) : zC l E d zm_Odds_lowestLower [.inr (.inr 77)] h (fun r1 h1 => r0 = r1 ∧ h = h1) :=
  zC_of zk_Odds_lowestLower (by decide) rfl rfl (Nat.le_of_ble_eq_true rfl) (zw_Odds_lowestLower hd N hF ⟨rfl, rfl⟩)
def sh_Ox_dark (N : Nat) (x1 x2 x3 x4 x5 x6 : Int) (h : zHp) : Option (Int × zHp) := (if sh_Ox_isField x1 h = 0 then some ((-1), h) else (if sh_Ox_isHour x2 = 0 then some ((-1), h) else (if sh_Ox_isFarm x5 h = 0 then some ((-1), h) else (if sh_Ox_within x6 0 1 = 0 then some ((-1), h) else (if sh_Ox_within x3 0 (w32 ((zshl 1 (sh_Herd_oxen_14 h)) - 1)) = 0 then some ((-1), h) else (if zand x4 (zxor x3 (-1)) = 0 then zb1 (sh_Odds_weighAll N x1 x2 x3 x4 x5 h) fun h36 => if zcmp (h36 77 3) 0 = 0 then some ((-1), h36) else (if x6 = 0 then zb1 (sh_Odds_lowestUpper N h36) fun r51 => some (r51, h36) else zb1 (sh_Odds_lowestLower N h36) fun r45 => some (r45, h36)) else some ((-1), h)))))))
set_option maxRecDepth 100000 in
set_option maxHeartbeats 4000000 in
theorem zw_Ox_dark {l : Launch} {E : zE} {d : Nat} (hd : 6 ≤ d) (N : Nat) (x1 x2 x3 x4 x5 x6 : Int) {h : zHp} {Q : Int → zHp → Prop} {r0 : Int} {h0 : zHp} (hF : sh_Ox_dark N x1 x2 x3 x4 x5 x6 h = some (r0, h0)) (K : Q r0 h0) : zW l E d zm_Ox_dark 0 [.inr (.inr 0), .inl x1, .inl x2, .inl x3, .inl x4, .inl x5, .inl x6] [] h Q := by
  rw [sh_Ox_dark] at hF
  refine z_aload rfl rfl rfl ?_
  refine z_iload rfl rfl ?_
  refine z_inv1 (d' := d - 1) (As := [.inl x1]) rfl rfl (zf_Ox_isField (by omega) _) rfl rfl rfl (by omega) rfl (fun r1 h2 hR3 hQ4 => ?_)
  obtain ⟨rfl, rfl⟩ := hQ4
  refine z_zeq rfl (fun c5 => ?_) (fun c5 => ?_)
  · rw [if_pos c5] at hF
    refine z_lconst rfl ?_
    obtain ⟨rfl, rfl⟩ := zinj2 hF
    exact z_lret rfl rfl K
  · rw [if_neg c5] at hF
    refine z_iload rfl rfl ?_
    refine z_ivs1 (d' := d - 1) (As := [.inl x2]) rfl rfl (zf_Ox_isHour (by omega) _) rfl (by omega) rfl (fun r6 h7 hR8 hQ9 => ?_)
    obtain ⟨rfl, rfl⟩ := hQ9
    refine z_zeq rfl (fun c10 => ?_) (fun c10 => ?_)
    · rw [if_pos c10] at hF
      refine z_lconst rfl ?_
      obtain ⟨rfl, rfl⟩ := zinj2 hF
      exact z_lret rfl rfl K
    · rw [if_neg c10] at hF
      refine z_aload rfl rfl rfl ?_
      refine z_iload rfl rfl ?_
      refine z_inv1 (d' := d - 1) (As := [.inl x5]) rfl rfl (zf_Ox_isFarm (by omega) _) rfl rfl rfl (by omega) rfl (fun r11 h12 hR13 hQ14 => ?_)
      obtain ⟨rfl, rfl⟩ := hQ14
      refine z_zeq rfl (fun c15 => ?_) (fun c15 => ?_)
      · rw [if_pos c15] at hF
        refine z_lconst rfl ?_
        obtain ⟨rfl, rfl⟩ := zinj2 hF
        exact z_lret rfl rfl K
      · rw [if_neg c15] at hF
        refine z_iload rfl rfl ?_
        refine z_const rfl ?_
        refine z_const rfl ?_
        refine z_ivs1 (d' := d - 1) (As := [.inl x6, .inl 0, .inl 1]) rfl rfl (zf_Ox_within (by omega) _ _ _) rfl (by omega) rfl (fun r16 h17 hR18 hQ19 => ?_)
        obtain ⟨rfl, rfl⟩ := hQ19
        refine z_zne rfl (fun c20 => ?_) (fun c20 => ?_)
        · rw [if_neg c20] at hF
          refine z_iload rfl rfl ?_
          refine z_const rfl ?_
          refine z_const rfl ?_
          refine z_aload rfl rfl rfl ?_
          refine z_getr (r := 1) rfl rfl rfl rfl ?_
          refine z_getr (r := 14) rfl rfl rfl rfl ?_
          refine z_inv1 (d' := d - 1) (As := []) rfl rfl (zf_Herd_oxen_14 (by omega)) rfl rfl rfl (by omega) rfl (fun r21 h22 hR23 hQ24 => ?_)
          obtain ⟨rfl, rfl⟩ := hQ24
          refine z_ishl rfl ?_
          refine z_const rfl ?_
          refine z_isub rfl ?_
          refine z_ivs1 (d' := d - 1) (As := [.inl x3, .inl 0, .inl (w32 ((zshl 1 (sh_Herd_oxen_14 h)) - 1))]) rfl rfl (zf_Ox_within (by omega) _ _ _) rfl (by omega) rfl (fun r25 h26 hR27 hQ28 => ?_)
          obtain ⟨rfl, rfl⟩ := hQ28
          refine z_zeq rfl (fun c29 => ?_) (fun c29 => ?_)
          · rw [if_pos c29] at hF
            refine z_lconst rfl ?_
            obtain ⟨rfl, rfl⟩ := zinj2 hF
            exact z_lret rfl rfl K
          · rw [if_neg c29] at hF
            refine z_iload rfl rfl ?_
            refine z_iload rfl rfl ?_
            refine z_const rfl ?_
            refine z_ixor rfl ?_
            refine z_iand rfl ?_
            refine z_zeq rfl (fun c30 => ?_) (fun c30 => ?_)
            · rw [if_pos c30] at hF
              refine z_aload rfl rfl rfl ?_
              refine z_getr (r := 77) rfl rfl rfl rfl ?_
              refine z_iload rfl rfl ?_
              refine z_iload rfl rfl ?_
              refine z_iload rfl rfl ?_
              refine z_iload rfl rfl ?_
              refine z_iload rfl rfl ?_
              obtain ⟨h36, hc35, hF⟩ := zbind1 hF
              refine z_inv0 (d' := d - 1) (As := [.inl x1, .inl x2, .inl x3, .inl x4, .inl x5]) rfl rfl (zf_Odds_weighAll (by omega) N _ _ _ _ _ hc35) rfl rfl rfl (by omega) rfl (fun r31 h32 hR33 hQ34 => ?_)
              obtain ⟨rfl, rfl⟩ := hQ34
              refine z_aload rfl rfl rfl ?_
              refine z_getr (r := 77) rfl rfl rfl rfl ?_
              refine z_getl rfl rfl rfl ?_
              refine z_lconst rfl ?_
              refine z_lcmp rfl ?_
              refine z_zne rfl (fun c37 => ?_) (fun c37 => ?_)
              · rw [if_neg c37] at hF
                refine z_iload rfl rfl ?_
                refine z_zne rfl (fun c39 => ?_) (fun c39 => ?_)
                · rw [if_neg c39] at hF
                  refine z_aload rfl rfl rfl ?_
                  refine z_getr (r := 77) rfl rfl rfl rfl ?_
                  obtain ⟨r45, hc44, hF⟩ := zbind1 hF
                  refine z_inv2 (d' := d - 1) (As := []) rfl rfl (zf_Odds_lowestLower (by omega) N hc44) rfl rfl rfl (by omega) rfl (fun r40 h41 hR42 hQ43 => ?_)
                  obtain ⟨rfl, rfl⟩ := hQ43
                  obtain ⟨rfl, rfl⟩ := zinj2 hF
                  exact z_lret rfl rfl K
                · rw [if_pos c39] at hF
                  refine z_aload rfl rfl rfl ?_
                  refine z_getr (r := 77) rfl rfl rfl rfl ?_
                  obtain ⟨r51, hc50, hF⟩ := zbind1 hF
                  refine z_inv2 (d' := d - 1) (As := []) rfl rfl (zf_Odds_lowestUpper (by omega) N hc50) rfl rfl rfl (by omega) rfl (fun r46 h47 hR48 hQ49 => ?_)
                  obtain ⟨rfl, rfl⟩ := hQ49
                  refine z_goto rfl ?_
                  obtain ⟨rfl, rfl⟩ := zinj2 hF
                  exact z_lret rfl rfl K
              · rw [if_pos c37] at hF
                refine z_lconst rfl ?_
                obtain ⟨rfl, rfl⟩ := zinj2 hF
                exact z_lret rfl rfl K
            · rw [if_neg c30] at hF
              refine z_lconst rfl ?_
              obtain ⟨rfl, rfl⟩ := zinj2 hF
              exact z_lret rfl rfl K
        · rw [if_pos c20] at hF
          refine z_lconst rfl ?_
          obtain ⟨rfl, rfl⟩ := zinj2 hF
          exact z_lret rfl rfl K
set_option maxRecDepth 100000 in
theorem zf_Ox_dark {l : Launch} {E : zE} {d : Nat} (hd : 6 ≤ d) (N : Nat) (x1 x2 x3 x4 x5 x6 : Int) {h : zHp} {r0 : Int} {h0 : zHp} (hF : sh_Ox_dark N x1 x2 x3 x4 x5 x6 h = some (r0, h0)) : zC l E d zm_Ox_dark [.inr (.inr 0), .inl x1, .inl x2, .inl x3, .inl x4, .inl x5, .inl x6] h (fun r1 h1 => r0 = r1 ∧ h0 = h1) :=
  zC_of zk_Ox_dark (by decide) rfl rfl (Nat.le_of_ble_eq_true rfl) (zw_Ox_dark hd N _ _ _ _ _ _ hF ⟨rfl, rfl⟩)
def sh_Mo_callsOf (N : Nat) (x1 x2 x3 : Int) (h : zHp) : Option (Int × zHp) := zb1 (sh_Mo_clauseOf N 3 h) fun r6 => if 0 ≤ r6 then zb1 (sh_Mo_work N r6 (zst (zst (zst h 91 0 x3) 91 1 x2) 91 2 x1)) fun h13 => some (sh_Mo_held (h13 92 0) 0 9, h13) else some (1, h)
set_option maxRecDepth 100000 in
set_option maxHeartbeats 4000000 in
theorem zw_Mo_callsOf {l : Launch} {E : zE} {d : Nat} (hd : 4 ≤ d) (N : Nat) (x1 x2 x3 : Int) {h : zHp} {Q : Int → zHp → Prop} {r0 : Int} {h0 : zHp} (hF : sh_Mo_callsOf N x1 x2 x3 h = some (r0, h0)) (K : Q r0 h0) : zW l E d zm_Mo_callsOf 0 [.inr (.inr 85), .inl x1, .inl x2, .inl x3, zJk] [] h Q := by
  rw [sh_Mo_callsOf] at hF
  refine z_aload rfl rfl rfl ?_
  refine z_const rfl ?_
  obtain ⟨r6, hc5, hF⟩ := zbind1 hF
  refine z_inv1 (d' := d - 1) (As := [.inl 3]) rfl rfl (zf_Mo_clauseOf (by omega) N _ hc5) rfl rfl rfl (by omega) rfl (fun r1 h2 hR3 hQ4 => ?_)
  obtain ⟨rfl, rfl⟩ := hQ4
  refine z_istore rfl rfl rfl ?_
  refine z_iload rfl rfl ?_
  refine z_zge rfl (fun c7 => ?_) (fun c7 => ?_)
  · rw [if_pos c7] at hF
    refine z_aload rfl rfl rfl ?_
    refine z_getr (r := 91) rfl rfl rfl rfl ?_
    refine z_const rfl ?_
    refine z_iload rfl rfl ?_
    refine z_iastc 0 rfl rfl rfl (by decide) ?_
    refine z_aload rfl rfl rfl ?_
    refine z_getr (r := 91) rfl rfl rfl rfl ?_
    refine z_const rfl ?_
    refine z_iload rfl rfl ?_
    refine z_iastc 1 rfl rfl rfl (by decide) ?_
    refine z_aload rfl rfl rfl ?_
    refine z_getr (r := 91) rfl rfl rfl rfl ?_
    refine z_const rfl ?_
    refine z_iload rfl rfl ?_
    refine z_iastc 2 rfl rfl rfl (by decide) ?_
    refine z_aload rfl rfl rfl ?_
    refine z_iload rfl rfl ?_
    obtain ⟨h13, hc12, hF⟩ := zbind1 hF
    refine z_inv0 (d' := d - 1) (As := [.inl r6]) rfl rfl (zf_Mo_work (by omega) N _ hc12) rfl rfl rfl (by omega) rfl (fun r8 h9 hR10 hQ11 => ?_)
    obtain ⟨rfl, rfl⟩ := hQ11
    refine z_aload rfl rfl rfl ?_
    refine z_getr (r := 92) rfl rfl rfl rfl ?_
    refine z_const rfl ?_
    refine z_laldc 0 rfl rfl rfl (by decide) ?_
    refine z_const rfl ?_
    refine z_const rfl ?_
    refine z_ivs1 (d' := d - 1) (As := [.inr (.inl (h13 92 0)), .inl 0, .inl 9]) rfl rfl (zf_Mo_held (by omega) _ _ _) rfl (by omega) rfl (fun r14 h15 hR16 hQ17 => ?_)
    obtain ⟨rfl, rfl⟩ := hQ17
    obtain ⟨rfl, rfl⟩ := zinj2 hF
    exact z_iret rfl rfl K
  · rw [if_neg c7] at hF
    refine z_const rfl ?_
    obtain ⟨rfl, rfl⟩ := zinj2 hF
    exact z_iret rfl rfl K
set_option maxRecDepth 100000 in
theorem zf_Mo_callsOf {l : Launch} {E : zE} {d : Nat} (hd : 4 ≤ d) (N : Nat) (x1 x2 x3 : Int) {h : zHp} {r0 : Int} {h0 : zHp} (hF : sh_Mo_callsOf N x1 x2 x3 h = some (r0, h0)) : zC l E d zm_Mo_callsOf [.inr (.inr 85), .inl x1, .inl x2, .inl x3] h (fun r1 h1 => r0 = r1 ∧ h0 = h1) :=
  zC_of zk_Mo_callsOf (by decide) rfl rfl (Nat.le_of_ble_eq_true rfl) (zw_Mo_callsOf hd N _ _ _ hF ⟨rfl, rfl⟩)
def sh_Mo_slip (N : Nat) (h : zHp) : Option (Int × zHp) := zb1 (sh_Mo_clauseOf N 2 h) fun r6 => if 0 ≤ r6 then zb1 (sh_Mo_work N r6 h) fun h13 => some (sh_Mo_held (h13 92 0) 0 9, h13) else some (0, h)
set_option maxRecDepth 100000 in
set_option maxHeartbeats 4000000 in
theorem zw_Mo_slip {l : Launch} {E : zE} {d : Nat} (hd : 4 ≤ d) (N : Nat) {h : zHp} {Q : Int → zHp → Prop} {r0 : Int} {h0 : zHp} (hF : sh_Mo_slip N h = some (r0, h0)) (K : Q r0 h0) : zW l E d zm_Mo_slip 0 [.inr (.inr 85), zJk] [] h Q := by
  rw [sh_Mo_slip] at hF
  refine z_aload rfl rfl rfl ?_
  refine z_const rfl ?_
  obtain ⟨r6, hc5, hF⟩ := zbind1 hF
  refine z_inv1 (d' := d - 1) (As := [.inl 2]) rfl rfl (zf_Mo_clauseOf (by omega) N _ hc5) rfl rfl rfl (by omega) rfl (fun r1 h2 hR3 hQ4 => ?_)
  obtain ⟨rfl, rfl⟩ := hQ4
  refine z_istore rfl rfl rfl ?_
  refine z_iload rfl rfl ?_
  refine z_zge rfl (fun c7 => ?_) (fun c7 => ?_)
  · rw [if_pos c7] at hF
    refine z_aload rfl rfl rfl ?_
    refine z_iload rfl rfl ?_
    obtain ⟨h13, hc12, hF⟩ := zbind1 hF
    refine z_inv0 (d' := d - 1) (As := [.inl r6]) rfl rfl (zf_Mo_work (by omega) N _ hc12) rfl rfl rfl (by omega) rfl (fun r8 h9 hR10 hQ11 => ?_)
    obtain ⟨rfl, rfl⟩ := hQ11
    refine z_aload rfl rfl rfl ?_
    refine z_getr (r := 92) rfl rfl rfl rfl ?_
    refine z_const rfl ?_
    refine z_laldc 0 rfl rfl rfl (by decide) ?_
    refine z_const rfl ?_
    refine z_const rfl ?_
    refine z_ivs1 (d' := d - 1) (As := [.inr (.inl (h13 92 0)), .inl 0, .inl 9]) rfl rfl (zf_Mo_held (by omega) _ _ _) rfl (by omega) rfl (fun r14 h15 hR16 hQ17 => ?_)
    obtain ⟨rfl, rfl⟩ := hQ17
    obtain ⟨rfl, rfl⟩ := zinj2 hF
    exact z_iret rfl rfl K
  · rw [if_neg c7] at hF
    refine z_const rfl ?_
    obtain ⟨rfl, rfl⟩ := zinj2 hF
    exact z_iret rfl rfl K
set_option maxRecDepth 100000 in
theorem zf_Mo_slip {l : Launch} {E : zE} {d : Nat} (hd : 4 ≤ d) (N : Nat) {h : zHp} {r0 : Int} {h0 : zHp} (hF : sh_Mo_slip N h = some (r0, h0)) : zC l E d zm_Mo_slip [.inr (.inr 85)] h (fun r1 h1 => r0 = r1 ∧ h0 = h1) :=
  zC_of zk_Mo_slip (by decide) rfl rfl (Nat.le_of_ble_eq_true rfl) (zw_Mo_slip hd N hF ⟨rfl, rfl⟩)
def sh_Mo_weightOf_L9 (N : Nat) : Nat → Int → Int → Int → Int → Int → Int → Int → Int → zHp → Option (Int × zHp)
  | 0, _, _, _, _, _, _, _, _, _ => none
  | n + 1, x1, x2, x3, x4, x5, x6, x7, x9, h => (if h 86 2 ≤ x9 then some (x7, h) else (if sh_Mo_has x5 x9 = 0 then sh_Mo_weightOf_L9 N n x1 x2 x3 x4 x5 x6 x7 (w32 (x9 + 1)) h else zb1 (sh_Mo_name N x9 x1 x2 x3 0 x4 h) fun h20 => zb2 (sh_Mo_isHeeded N h20) fun r26 h27 => zb2 (sh_Mo_slip N h27) fun r39 h40 => sh_Mo_weightOf_L9 N n x1 x2 x3 x4 x5 x6 (w64 (x7 * (if (if r26 = sh_Mo_has x6 x9 then 1 else 0 : Int) = 0 then r39 else w32 (10 - r39) : Int))) (w32 (x9 + 1)) h40))
def sh_Mo_weightOf (N : Nat) (x1 x2 x3 x4 x5 x6 : Int) (h : zHp) : Option (Int × zHp) := zb2 (sh_Mo_callsOf N x1 x2 x4 h) fun r6 h7 => zb2 (sh_Mo_weightOf_L9 N N x1 x2 x3 x4 x5 x6 r6 0 h7) fun y44 h45 => some (y44, h45)
set_option maxRecDepth 100000 in
set_option maxHeartbeats 4000000 in
theorem zl_Mo_weightOf_L9 {l : Launch} {E : zE} {d : Nat} (hd : 5 ≤ d) (N : Nat) {Q : Int → zHp → Prop} {o7 : Int} {oh : zHp} (K1 : zW l E d zm_Mo_weightOf 55 [zJk, zJk, zJk, zJk, zJk, zJk, zJk, .inr (.inl o7), zJk, zJk, zJk, zJk] [] oh Q) : ∀ (n : Nat) (x1 x2 x3 x4 x5 x6 x7 x9 : Int) (h : zHp), sh_Mo_weightOf_L9 N n x1 x2 x3 x4 x5 x6 x7 x9 h = some (o7, oh) → zW l E d zm_Mo_weightOf 9 [.inr (.inr 85), .inl x1, .inl x2, .inl x3, .inl x4, .inl x5, .inl x6, .inr (.inl x7), zJk, .inl x9, zJk, zJk] [] h Q := by
  intro n
  induction n with
  | zero =>
    intro x1 x2 x3 x4 x5 x6 x7 x9 h hF
    cases (show (none : Option (Int × zHp)) = some (o7, oh) from hF)
  | succ n ih =>
    intro x1 x2 x3 x4 x5 x6 x7 x9 h hF
    rw [sh_Mo_weightOf_L9] at hF
    refine z_iload rfl rfl ?_
    refine z_aload rfl rfl rfl ?_
    refine z_getr (r := 86) rfl rfl rfl rfl ?_
    refine z_const rfl ?_
    refine z_ialdc 2 rfl rfl rfl (by decide) ?_
    refine z_cge rfl (fun c8 => ?_) (fun c8 => ?_)
    · rw [if_pos c8] at hF
      refine zsubL (L' := [zJk, zJk, zJk, zJk, zJk, zJk, zJk, .inr (.inl x7), zJk, zJk, zJk, zJk]) ⟨Or.inr rfl, Or.inr rfl, Or.inr rfl, Or.inr rfl, Or.inr rfl, Or.inr rfl, Or.inr rfl, Or.inl rfl, Or.inl rfl, Or.inr rfl, Or.inl rfl, Or.inl rfl, trivial⟩ ?_
      obtain ⟨rfl, rfl⟩ := zinj2 hF
      exact K1
    · rw [if_neg c8] at hF
      refine z_iload rfl rfl ?_
      refine z_iload rfl rfl ?_
      refine z_ivs1 (d' := d - 1) (As := [.inl x5, .inl x9]) rfl rfl (zf_Mo_has (by omega) _ _) rfl (by omega) rfl (fun r9 h10 hR11 hQ12 => ?_)
      obtain ⟨rfl, rfl⟩ := hQ12
      refine z_zne rfl (fun c14 => ?_) (fun c14 => ?_)
      · rw [if_neg c14] at hF
        refine z_aload rfl rfl rfl ?_
        refine z_iload rfl rfl ?_
        refine z_iload rfl rfl ?_
        refine z_iload rfl rfl ?_
        refine z_iload rfl rfl ?_
        refine z_const rfl ?_
        refine z_iload rfl rfl ?_
        obtain ⟨h20, hc19, hF⟩ := zbind1 hF
        refine z_inv0 (d' := d - 1) (As := [.inl x9, .inl x1, .inl x2, .inl x3, .inl 0, .inl x4]) rfl rfl (zf_Mo_name (by omega) N _ _ _ _ _ _ hc19) rfl rfl rfl (by omega) rfl (fun r15 h16 hR17 hQ18 => ?_)
        obtain ⟨rfl, rfl⟩ := hQ18
        refine z_aload rfl rfl rfl ?_
        obtain ⟨r26, h27, hc25, hF⟩ := zbind2 hF
        refine z_inv1 (d' := d - 1) (As := []) rfl rfl (zf_Mo_isHeeded (by omega) N hc25) rfl rfl rfl (by omega) rfl (fun r21 h22 hR23 hQ24 => ?_)
        obtain ⟨rfl, rfl⟩ := hQ24
        refine z_iload rfl rfl ?_
        refine z_iload rfl rfl ?_
        refine z_ivs1 (d' := d - 1) (As := [.inl x6, .inl x9]) rfl rfl (zf_Mo_has (by omega) _ _) rfl (by omega) rfl (fun r28 h29 hR30 hQ31 => ?_)
        obtain ⟨rfl, rfl⟩ := hQ31
        have hJ33 : zW l E d zm_Mo_weightOf 37 [.inr (.inr 85), .inl x1, .inl x2, .inl x3, .inl x4, .inl x5, .inl x6, .inr (.inl x7), zJk, .inl x9, zJk, zJk] [.inl (if r26 = sh_Mo_has x6 x9 then 1 else 0 : Int)] h27 Q := by
          refine z_istore rfl rfl rfl ?_
          refine z_aload rfl rfl rfl ?_
          obtain ⟨r39, h40, hc38, hF⟩ := zbind2 hF
          refine z_inv1 (d' := d - 1) (As := []) rfl rfl (zf_Mo_slip (by omega) N hc38) rfl rfl rfl (by omega) rfl (fun r34 h35 hR36 hQ37 => ?_)
          obtain ⟨rfl, rfl⟩ := hQ37
          refine z_istore rfl rfl rfl ?_
          refine z_lload rfl rfl ?_
          refine z_iload rfl rfl ?_
          have hJ42 : zW l E d zm_Mo_weightOf 51 [.inr (.inr 85), .inl x1, .inl x2, .inl x3, .inl x4, .inl x5, .inl x6, zJk, zJk, .inl x9, zJk, zJk] [.inr (.inl (if (if r26 = sh_Mo_has x6 x9 then 1 else 0 : Int) = 0 then r39 else w32 (10 - r39) : Int)), .inr (.inl x7)] h40 Q := by
            refine z_lmul rfl ?_
            refine z_lstore rfl rfl rfl ?_
            refine z_iinc rfl rfl rfl ?_
            refine z_goto rfl ?_
            exact ih _ _ _ _ _ _ _ _ _ hF
          refine z_zeq rfl (fun c41 => ?_) (fun c41 => ?_)
          · refine z_iload rfl rfl ?_
            refine z_i2l rfl ?_
            refine zsubL (L' := [.inr (.inr 85), .inl x1, .inl x2, .inl x3, .inl x4, .inl x5, .inl x6, zJk, zJk, .inl x9, zJk, zJk]) ⟨Or.inl rfl, Or.inl rfl, Or.inl rfl, Or.inl rfl, Or.inl rfl, Or.inl rfl, Or.inl rfl, Or.inr rfl, Or.inl rfl, Or.inl rfl, Or.inr rfl, Or.inr rfl, trivial⟩ ?_
            exact zcast (by first | rfl | (simp only [if_pos c41] <;> rfl)) (by first | rfl | (simp only [if_pos c41] <;> rfl)) hJ42
          · refine z_const rfl ?_
            refine z_iload rfl rfl ?_
            refine z_isub rfl ?_
            refine z_i2l rfl ?_
            refine z_goto rfl ?_
            refine zsubL (L' := [.inr (.inr 85), .inl x1, .inl x2, .inl x3, .inl x4, .inl x5, .inl x6, zJk, zJk, .inl x9, zJk, zJk]) ⟨Or.inl rfl, Or.inl rfl, Or.inl rfl, Or.inl rfl, Or.inl rfl, Or.inl rfl, Or.inl rfl, Or.inr rfl, Or.inl rfl, Or.inl rfl, Or.inr rfl, Or.inr rfl, trivial⟩ ?_
            exact zcast (by first | rfl | (simp only [if_neg c41] <;> rfl)) (by first | rfl | (simp only [if_neg c41] <;> rfl)) hJ42
        refine z_cne rfl (fun c32 => ?_) (fun c32 => ?_)
        · refine z_const rfl ?_
          exact zcast (by first | rfl | (simp only [if_neg c32] <;> rfl)) (by first | rfl | (simp only [if_neg c32] <;> rfl)) hJ33
        · refine z_const rfl ?_
          refine z_goto rfl ?_
          exact zcast (by first | rfl | (simp only [if_pos c32] <;> rfl)) (by first | rfl | (simp only [if_pos c32] <;> rfl)) hJ33
      · rw [if_pos c14] at hF
        refine z_goto rfl ?_
        refine z_iinc rfl rfl rfl ?_
        refine z_goto rfl ?_
        exact ih _ _ _ _ _ _ _ _ _ hF
set_option maxRecDepth 100000 in
set_option maxHeartbeats 4000000 in
theorem zw_Mo_weightOf {l : Launch} {E : zE} {d : Nat} (hd : 5 ≤ d) (N : Nat) (x1 x2 x3 x4 x5 x6 : Int) {h : zHp} {Q : Int → zHp → Prop} {r0 : Int} {h0 : zHp} (hF : sh_Mo_weightOf N x1 x2 x3 x4 x5 x6 h = some (r0, h0)) (K : Q r0 h0) : zW l E d zm_Mo_weightOf 0 [.inr (.inr 85), .inl x1, .inl x2, .inl x3, .inl x4, .inl x5, .inl x6, zJk, zJk, zJk, zJk, zJk] [] h Q := by
  rw [sh_Mo_weightOf] at hF
  refine z_aload rfl rfl rfl ?_
  refine z_iload rfl rfl ?_
  refine z_iload rfl rfl ?_
  refine z_iload rfl rfl ?_
  obtain ⟨r6, h7, hc5, hF⟩ := zbind2 hF
  refine z_inv1 (d' := d - 1) (As := [.inl x1, .inl x2, .inl x4]) rfl rfl (zf_Mo_callsOf (by omega) N _ _ _ hc5) rfl rfl rfl (by omega) rfl (fun r1 h2 hR3 hQ4 => ?_)
  obtain ⟨rfl, rfl⟩ := hQ4
  refine z_i2l rfl ?_
  refine z_lstore rfl rfl rfl ?_
  refine z_const rfl ?_
  refine z_istore rfl rfl rfl ?_
  obtain ⟨y44, h45, hL43, hF⟩ := zbind2 hF
  refine zl_Mo_weightOf_L9 (by omega) N ?_ N _ _ _ _ _ _ _ _ _ hL43
  refine z_lload rfl rfl ?_
  obtain ⟨rfl, rfl⟩ := zinj2 hF
  exact z_lret rfl rfl K
set_option maxRecDepth 100000 in
theorem zf_Mo_weightOf {l : Launch} {E : zE} {d : Nat} (hd : 5 ≤ d) (N : Nat) (x1 x2 x3 x4 x5 x6 : Int) {h : zHp} {r0 : Int} {h0 : zHp} (hF : sh_Mo_weightOf N x1 x2 x3 x4 x5 x6 h = some (r0, h0)) : zC l E d zm_Mo_weightOf [.inr (.inr 85), .inl x1, .inl x2, .inl x3, .inl x4, .inl x5, .inl x6] h (fun r1 h1 => r0 = r1 ∧ h0 = h1) :=
  zC_of zk_Mo_weightOf (by decide) rfl rfl (Nat.le_of_ble_eq_true rfl) (zw_Mo_weightOf hd N _ _ _ _ _ _ hF ⟨rfl, rfl⟩)
def sh_Mo_common_L4 (N : Nat) (h : zHp) : Nat → Int → Int → Option (Int)
  | 0, _, _ => none
  | n + 1, x4, x6 => (if zcmp x6 0 = 0 then some x4 else if ¬ x6 = 0 then sh_Mo_common_L4 N h n x6 (w64 ((x4).tmod x6)) else none)
def sh_Mo_common (N : Nat) (x0 x2 : Int) (h : zHp) : Option Int := zb1 (sh_Mo_common_L4 N h N x0 x2) fun y4 => some y4
set_option maxRecDepth 100000 in
set_option maxHeartbeats 4000000 in
theorem zl_Mo_common_L4 {l : Launch} {E : zE} {d : Nat} (hd : 1 ≤ d) (N : Nat) {h : zHp} {Q : Int → zHp → Prop} {o4 : Int} (K1 : zW l E d zm_Mo_common 17 [zJk, zJk, zJk, zJk, .inr (.inl o4), zJk, zJk, zJk, zJk, zJk] [] h Q) : ∀ (n : Nat) (x4 x6 : Int) , sh_Mo_common_L4 N h n x4 x6 = some o4 → zW l E d zm_Mo_common 4 [zJk, zJk, zJk, zJk, .inr (.inl x4), zJk, .inr (.inl x6), zJk, zJk, zJk] [] h Q := by
  intro n
  induction n with
  | zero =>
    intro x4 x6 hF
    cases (show (none : Option (Int)) = some o4 from hF)
  | succ n ih =>
    intro x4 x6 hF
    rw [sh_Mo_common_L4] at hF
    refine z_lload rfl rfl ?_
    refine z_lconst rfl ?_
    refine z_lcmp rfl ?_
    refine z_zeq rfl (fun c1 => ?_) (fun c1 => ?_)
    · rw [if_pos c1] at hF
      refine zsubL (L' := [zJk, zJk, zJk, zJk, .inr (.inl x4), zJk, zJk, zJk, zJk, zJk]) ⟨Or.inl rfl, Or.inl rfl, Or.inl rfl, Or.inl rfl, Or.inl rfl, Or.inl rfl, Or.inr rfl, Or.inl rfl, Or.inl rfl, Or.inl rfl, trivial⟩ ?_
      obtain rfl := Option.some.inj hF
      exact K1
    · rw [if_neg c1] at hF
      refine z_lload rfl rfl ?_
      refine z_lload rfl rfl ?_
      obtain ⟨g2, hF⟩ := zguard hF
      refine z_lrem rfl g2 ?_
      refine z_lstore rfl rfl rfl ?_
      refine z_lload rfl rfl ?_
      refine z_lstore rfl rfl rfl ?_
      refine z_lload rfl rfl ?_
      refine z_lstore rfl rfl rfl ?_
      refine z_goto rfl ?_
      refine zsubL (L' := [zJk, zJk, zJk, zJk, .inr (.inl x6), zJk, .inr (.inl (w64 ((x4).tmod x6))), zJk, zJk, zJk]) ⟨Or.inl rfl, Or.inl rfl, Or.inl rfl, Or.inl rfl, Or.inl rfl, Or.inl rfl, Or.inl rfl, Or.inl rfl, Or.inr rfl, Or.inl rfl, trivial⟩ ?_
      exact ih _ _ hF
set_option maxRecDepth 100000 in
set_option maxHeartbeats 4000000 in
theorem zw_Mo_common {l : Launch} {E : zE} {d : Nat} (hd : 1 ≤ d) (N : Nat) (x0 x2 : Int) {h : zHp} {Q : Int → zHp → Prop} {r0 : Int} (hF : sh_Mo_common N x0 x2 h = some r0) (K : Q r0 h) : zW l E d zm_Mo_common 0 [.inr (.inl x0), zJk, .inr (.inl x2), zJk, zJk, zJk, zJk, zJk, zJk, zJk] [] h Q := by
  rw [sh_Mo_common] at hF
  refine z_lload rfl rfl ?_
  refine z_lstore rfl rfl rfl ?_
  refine z_lload rfl rfl ?_
  refine z_lstore rfl rfl rfl ?_
  refine zsubL (L' := [zJk, zJk, zJk, zJk, .inr (.inl x0), zJk, .inr (.inl x2), zJk, zJk, zJk]) ⟨Or.inr rfl, Or.inl rfl, Or.inr rfl, Or.inl rfl, Or.inl rfl, Or.inl rfl, Or.inl rfl, Or.inl rfl, Or.inl rfl, Or.inl rfl, trivial⟩ ?_
  obtain ⟨y4, hL3, hF⟩ := zbind1 hF
  refine zl_Mo_common_L4 (by omega) N ?_ N _ _ hL3
  refine z_lload rfl rfl ?_
  obtain rfl := Option.some.inj hF
  exact z_lret rfl rfl K
set_option maxRecDepth 100000 in
theorem zf_Mo_common {l : Launch} {E : zE} {d : Nat} (hd : 1 ≤ d) (N : Nat) (x0 x2 : Int) {h : zHp} {r0 : Int} (hF : sh_Mo_common N x0 x2 h = some r0) : zC l E d zm_Mo_common [.inr (.inl x0), .inr (.inl x2)] h (fun r1 h1 => r0 = r1 ∧ h = h1) :=
  zC_of zk_Mo_common (by decide) rfl rfl (Nat.le_of_ble_eq_true rfl) (zw_Mo_common hd N _ _ hF ⟨rfl, rfl⟩)
def sh_Mo_dark_L57 (N : Nat) : Nat → Int → Int → Int → Int → Int → Int → Int → Int → Int → Int → zHp → Option (Int × Int × Int × Int × Int × Int × Int × Int × Int × zHp)
  | 0, _, _, _, _, _, _, _, _, _, _, _ => none
  | n + 1, x1, x2, x3, x4, x5, x6, x7, x9, x11, x12, h => (if 10 ≤ x12 then some (x1, x2, x3, x4, x5, x6, x7, x9, x11, h) else zb2 (sh_Mo_weightOf N x11 x12 x1 x2 x3 x4 h) fun r39 h40 => sh_Mo_dark_L57 N n x1 x2 x3 x4 x5 x6 (w64 (x7 + r39)) (w64 (x9 + (if x11 = x5 then r39 else 0 : Int))) x11 (w32 (x12 + 1)) h40)
def sh_Mo_dark_L49 (N : Nat) : Nat → Int → Int → Int → Int → Int → Int → Int → Int → Int → zHp → Option (Int × Int × Int × zHp)
  | 0, _, _, _, _, _, _, _, _, _, _ => none
  | n + 1, x1, x2, x3, x4, x5, x6, x7, x9, x11, h => (if h 86 0 ≤ x11 then some (x6, x7, x9, h) else zb10 (sh_Mo_dark_L57 N N x1 x2 x3 x4 x5 x6 x7 x9 x11 0 h) fun y44 y45 y46 y47 y48 y49 y50 y51 y52 h53 => sh_Mo_dark_L49 N n y44 y45 y46 y47 y48 y49 y50 y51 (w32 (y52 + 1)) h53)
def sh_Mo_dark (N : Nat) (x1 x2 x3 x4 x5 x6 : Int) (h : zHp) : Option (Int × zHp) := (if sh_Mo_isField x1 h = 0 then some ((-1), h) else (if sh_Mo_isIn x2 0 23 = 0 then some ((-1), h) else (if sh_Mo_isIn x3 0 (w32 ((zshl 1 (h 86 2)) - 1)) = 0 then some ((-1), h) else (if sh_Mo_isIn x4 0 255 = 0 then some ((-1), h) else (if zand x4 (zxor x3 (-1)) = 0 then (if sh_Mo_isFarm x5 h = 0 then some ((-1), h) else (if sh_Mo_isIn x6 0 1 = 0 then some ((-1), h) else zb4 (sh_Mo_dark_L49 N N x1 x2 x3 x4 x5 x6 0 0 0 h) fun y55 y56 y57 h58 => if zcmp y56 0 = 0 then some ((-1), h58) else zb1 (sh_Mo_common N y57 y56 h58) fun r69 => if ¬ r69 = 0 then some (w64 (((if y55 = 0 then y57 else y56 : Int)).tdiv r69), h58) else none)) else some ((-1), h))))))
set_option maxRecDepth 100000 in
set_option maxHeartbeats 4000000 in
theorem zl_Mo_dark_L57 {l : Launch} {E : zE} {d : Nat} (hd : 6 ≤ d) (N : Nat) {Q : Int → zHp → Prop} {o1 o2 o3 o4 o5 o6 o7 o9 o11 : Int} {oh : zHp} (K1 : zW l E d zm_Mo_dark 84 [.inr (.inr 85), .inl o1, .inl o2, .inl o3, .inl o4, .inl o5, .inl o6, .inr (.inl o7), zJk, .inr (.inl o9), zJk, .inl o11, zJk, zJk, zJk] [] oh Q) : ∀ (n : Nat) (x1 x2 x3 x4 x5 x6 x7 x9 x11 x12 : Int) (h : zHp), sh_Mo_dark_L57 N n x1 x2 x3 x4 x5 x6 x7 x9 x11 x12 h = some (o1, o2, o3, o4, o5, o6, o7, o9, o11, oh) → zW l E d zm_Mo_dark 57 [.inr (.inr 85), .inl x1, .inl x2, .inl x3, .inl x4, .inl x5, .inl x6, .inr (.inl x7), zJk, .inr (.inl x9), zJk, .inl x11, .inl x12, zJk, zJk] [] h Q := by
  intro n
  induction n with
  | zero =>
    intro x1 x2 x3 x4 x5 x6 x7 x9 x11 x12 h hF
    cases (show (none : Option (Int × Int × Int × Int × Int × Int × Int × Int × Int × zHp)) = some (o1, o2, o3, o4, o5, o6, o7, o9, o11, oh) from hF)
  | succ n ih =>
    intro x1 x2 x3 x4 x5 x6 x7 x9 x11 x12 h hF
    rw [sh_Mo_dark_L57] at hF
    refine z_iload rfl rfl ?_
    refine z_const rfl ?_
    refine z_cge rfl (fun c33 => ?_) (fun c33 => ?_)
    · rw [if_pos c33] at hF
      refine zsubL (L' := [.inr (.inr 85), .inl x1, .inl x2, .inl x3, .inl x4, .inl x5, .inl x6, .inr (.inl x7), zJk, .inr (.inl x9), zJk, .inl x11, zJk, zJk, zJk]) ⟨Or.inl rfl, Or.inl rfl, Or.inl rfl, Or.inl rfl, Or.inl rfl, Or.inl rfl, Or.inl rfl, Or.inl rfl, Or.inl rfl, Or.inl rfl, Or.inl rfl, Or.inl rfl, Or.inr rfl, Or.inl rfl, Or.inl rfl, trivial⟩ ?_
      obtain ⟨rfl, rfl, rfl, rfl, rfl, rfl, rfl, rfl, rfl, rfl⟩ := zinj10 hF
      exact K1
    · rw [if_neg c33] at hF
      refine z_aload rfl rfl rfl ?_
      refine z_iload rfl rfl ?_
      refine z_iload rfl rfl ?_
      refine z_iload rfl rfl ?_
      refine z_iload rfl rfl ?_
      refine z_iload rfl rfl ?_
      refine z_iload rfl rfl ?_
      obtain ⟨r39, h40, hc38, hF⟩ := zbind2 hF
      refine z_inv2 (d' := d - 1) (As := [.inl x11, .inl x12, .inl x1, .inl x2, .inl x3, .inl x4]) rfl rfl (zf_Mo_weightOf (by omega) N _ _ _ _ _ _ hc38) rfl rfl rfl (by omega) rfl (fun r34 h35 hR36 hQ37 => ?_)
      obtain ⟨rfl, rfl⟩ := hQ37
      refine z_lstore rfl rfl rfl ?_
      refine z_lload rfl rfl ?_
      refine z_lload rfl rfl ?_
      refine z_ladd rfl ?_
      refine z_lstore rfl rfl rfl ?_
      refine z_lload rfl rfl ?_
      refine z_iload rfl rfl ?_
      refine z_iload rfl rfl ?_
      have hJ42 : zW l E d zm_Mo_dark 80 [.inr (.inr 85), .inl x1, .inl x2, .inl x3, .inl x4, .inl x5, .inl x6, .inr (.inl (w64 (x7 + r39))), zJk, zJk, zJk, .inl x11, .inl x12, zJk, zJk] [.inr (.inl (if x11 = x5 then r39 else 0 : Int)), .inr (.inl x9)] h40 Q := by
        refine z_ladd rfl ?_
        refine z_lstore rfl rfl rfl ?_
        refine z_iinc rfl rfl rfl ?_
        refine z_goto rfl ?_
        exact ih _ _ _ _ _ _ _ _ _ _ _ hF
      refine z_cne rfl (fun c41 => ?_) (fun c41 => ?_)
      · refine z_lconst rfl ?_
        refine zsubL (L' := [.inr (.inr 85), .inl x1, .inl x2, .inl x3, .inl x4, .inl x5, .inl x6, .inr (.inl (w64 (x7 + r39))), zJk, zJk, zJk, .inl x11, .inl x12, zJk, zJk]) ⟨Or.inl rfl, Or.inl rfl, Or.inl rfl, Or.inl rfl, Or.inl rfl, Or.inl rfl, Or.inl rfl, Or.inl rfl, Or.inl rfl, Or.inr rfl, Or.inl rfl, Or.inl rfl, Or.inl rfl, Or.inr rfl, Or.inl rfl, trivial⟩ ?_
        exact zcast (by first | rfl | (simp only [if_neg c41] <;> rfl)) (by first | rfl | (simp only [if_neg c41] <;> rfl)) hJ42
      · refine z_lload rfl rfl ?_
        refine z_goto rfl ?_
        refine zsubL (L' := [.inr (.inr 85), .inl x1, .inl x2, .inl x3, .inl x4, .inl x5, .inl x6, .inr (.inl (w64 (x7 + r39))), zJk, zJk, zJk, .inl x11, .inl x12, zJk, zJk]) ⟨Or.inl rfl, Or.inl rfl, Or.inl rfl, Or.inl rfl, Or.inl rfl, Or.inl rfl, Or.inl rfl, Or.inl rfl, Or.inl rfl, Or.inr rfl, Or.inl rfl, Or.inl rfl, Or.inl rfl, Or.inr rfl, Or.inl rfl, trivial⟩ ?_
        exact zcast (by first | rfl | (simp only [if_pos c41] <;> rfl)) (by first | rfl | (simp only [if_pos c41] <;> rfl)) hJ42
set_option maxRecDepth 100000 in
set_option maxHeartbeats 4000000 in
theorem zl_Mo_dark_L49 {l : Launch} {E : zE} {d : Nat} (hd : 6 ≤ d) (N : Nat) {Q : Int → zHp → Prop} {o6 o7 o9 : Int} {oh : zHp} (K1 : zW l E d zm_Mo_dark 86 [zJk, zJk, zJk, zJk, zJk, zJk, .inl o6, .inr (.inl o7), zJk, .inr (.inl o9), zJk, zJk, zJk, zJk, zJk] [] oh Q) : ∀ (n : Nat) (x1 x2 x3 x4 x5 x6 x7 x9 x11 : Int) (h : zHp), sh_Mo_dark_L49 N n x1 x2 x3 x4 x5 x6 x7 x9 x11 h = some (o6, o7, o9, oh) → zW l E d zm_Mo_dark 49 [.inr (.inr 85), .inl x1, .inl x2, .inl x3, .inl x4, .inl x5, .inl x6, .inr (.inl x7), zJk, .inr (.inl x9), zJk, .inl x11, zJk, zJk, zJk] [] h Q := by
  intro n
  induction n with
  | zero =>
    intro x1 x2 x3 x4 x5 x6 x7 x9 x11 h hF
    cases (show (none : Option (Int × Int × Int × zHp)) = some (o6, o7, o9, oh) from hF)
  | succ n ih =>
    intro x1 x2 x3 x4 x5 x6 x7 x9 x11 h hF
    rw [sh_Mo_dark_L49] at hF
    refine z_iload rfl rfl ?_
    refine z_aload rfl rfl rfl ?_
    refine z_getr (r := 86) rfl rfl rfl rfl ?_
    refine z_const rfl ?_
    refine z_ialdc 0 rfl rfl rfl (by decide) ?_
    refine z_cge rfl (fun c32 => ?_) (fun c32 => ?_)
    · rw [if_pos c32] at hF
      refine zsubL (L' := [zJk, zJk, zJk, zJk, zJk, zJk, .inl x6, .inr (.inl x7), zJk, .inr (.inl x9), zJk, zJk, zJk, zJk, zJk]) ⟨Or.inr rfl, Or.inr rfl, Or.inr rfl, Or.inr rfl, Or.inr rfl, Or.inr rfl, Or.inl rfl, Or.inl rfl, Or.inl rfl, Or.inl rfl, Or.inl rfl, Or.inr rfl, Or.inl rfl, Or.inl rfl, Or.inl rfl, trivial⟩ ?_
      obtain ⟨rfl, rfl, rfl, rfl⟩ := zinj4 hF
      exact K1
    · rw [if_neg c32] at hF
      refine z_const rfl ?_
      refine z_istore rfl rfl rfl ?_
      obtain ⟨y44, y45, y46, y47, y48, y49, y50, y51, y52, h53, hL43, hF⟩ := zbind10 hF
      refine zl_Mo_dark_L57 (by omega) N ?_ N _ _ _ _ _ _ _ _ _ _ _ hL43
      refine z_iinc rfl rfl rfl ?_
      refine z_goto rfl ?_
      exact ih _ _ _ _ _ _ _ _ _ _ hF
set_option maxRecDepth 100000 in
set_option maxHeartbeats 4000000 in
theorem zw_Mo_dark {l : Launch} {E : zE} {d : Nat} (hd : 6 ≤ d) (N : Nat) (x1 x2 x3 x4 x5 x6 : Int) {h : zHp} {Q : Int → zHp → Prop} {r0 : Int} {h0 : zHp} (hF : sh_Mo_dark N x1 x2 x3 x4 x5 x6 h = some (r0, h0)) (K : Q r0 h0) : zW l E d zm_Mo_dark 0 [.inr (.inr 85), .inl x1, .inl x2, .inl x3, .inl x4, .inl x5, .inl x6, zJk, zJk, zJk, zJk, zJk, zJk, zJk, zJk] [] h Q := by
  rw [sh_Mo_dark] at hF
  refine z_aload rfl rfl rfl ?_
  refine z_iload rfl rfl ?_
  refine z_inv1 (d' := d - 1) (As := [.inl x1]) rfl rfl (zf_Mo_isField (by omega) _) rfl rfl rfl (by omega) rfl (fun r1 h2 hR3 hQ4 => ?_)
  obtain ⟨rfl, rfl⟩ := hQ4
  refine z_zeq rfl (fun c5 => ?_) (fun c5 => ?_)
  · rw [if_pos c5] at hF
    refine z_lconst rfl ?_
    obtain ⟨rfl, rfl⟩ := zinj2 hF
    exact z_lret rfl rfl K
  · rw [if_neg c5] at hF
    refine z_iload rfl rfl ?_
    refine z_const rfl ?_
    refine z_const rfl ?_
    refine z_ivs1 (d' := d - 1) (As := [.inl x2, .inl 0, .inl 23]) rfl rfl (zf_Mo_isIn (by omega) _ _ _) rfl (by omega) rfl (fun r6 h7 hR8 hQ9 => ?_)
    obtain ⟨rfl, rfl⟩ := hQ9
    refine z_zeq rfl (fun c10 => ?_) (fun c10 => ?_)
    · rw [if_pos c10] at hF
      refine z_lconst rfl ?_
      obtain ⟨rfl, rfl⟩ := zinj2 hF
      exact z_lret rfl rfl K
    · rw [if_neg c10] at hF
      refine z_iload rfl rfl ?_
      refine z_const rfl ?_
      refine z_const rfl ?_
      refine z_aload rfl rfl rfl ?_
      refine z_getr (r := 86) rfl rfl rfl rfl ?_
      refine z_const rfl ?_
      refine z_ialdc 2 rfl rfl rfl (by decide) ?_
      refine z_ishl rfl ?_
      refine z_const rfl ?_
      refine z_isub rfl ?_
      refine z_ivs1 (d' := d - 1) (As := [.inl x3, .inl 0, .inl (w32 ((zshl 1 (h 86 2)) - 1))]) rfl rfl (zf_Mo_isIn (by omega) _ _ _) rfl (by omega) rfl (fun r11 h12 hR13 hQ14 => ?_)
      obtain ⟨rfl, rfl⟩ := hQ14
      refine z_zeq rfl (fun c15 => ?_) (fun c15 => ?_)
      · rw [if_pos c15] at hF
        refine z_lconst rfl ?_
        obtain ⟨rfl, rfl⟩ := zinj2 hF
        exact z_lret rfl rfl K
      · rw [if_neg c15] at hF
        refine z_iload rfl rfl ?_
        refine z_const rfl ?_
        refine z_const rfl ?_
        refine z_ivs1 (d' := d - 1) (As := [.inl x4, .inl 0, .inl 255]) rfl rfl (zf_Mo_isIn (by omega) _ _ _) rfl (by omega) rfl (fun r16 h17 hR18 hQ19 => ?_)
        obtain ⟨rfl, rfl⟩ := hQ19
        refine z_zeq rfl (fun c20 => ?_) (fun c20 => ?_)
        · rw [if_pos c20] at hF
          refine z_lconst rfl ?_
          obtain ⟨rfl, rfl⟩ := zinj2 hF
          exact z_lret rfl rfl K
        · rw [if_neg c20] at hF
          refine z_iload rfl rfl ?_
          refine z_iload rfl rfl ?_
          refine z_const rfl ?_
          refine z_ixor rfl ?_
          refine z_iand rfl ?_
          refine z_zne rfl (fun c21 => ?_) (fun c21 => ?_)
          · rw [if_neg c21] at hF
            refine z_lconst rfl ?_
            obtain ⟨rfl, rfl⟩ := zinj2 hF
            exact z_lret rfl rfl K
          · rw [if_pos c21] at hF
            refine z_aload rfl rfl rfl ?_
            refine z_iload rfl rfl ?_
            refine z_inv1 (d' := d - 1) (As := [.inl x5]) rfl rfl (zf_Mo_isFarm (by omega) _) rfl rfl rfl (by omega) rfl (fun r22 h23 hR24 hQ25 => ?_)
            obtain ⟨rfl, rfl⟩ := hQ25
            refine z_zeq rfl (fun c26 => ?_) (fun c26 => ?_)
            · rw [if_pos c26] at hF
              refine z_lconst rfl ?_
              obtain ⟨rfl, rfl⟩ := zinj2 hF
              exact z_lret rfl rfl K
            · rw [if_neg c26] at hF
              refine z_iload rfl rfl ?_
              refine z_const rfl ?_
              refine z_const rfl ?_
              refine z_ivs1 (d' := d - 1) (As := [.inl x6, .inl 0, .inl 1]) rfl rfl (zf_Mo_isIn (by omega) _ _ _) rfl (by omega) rfl (fun r27 h28 hR29 hQ30 => ?_)
              obtain ⟨rfl, rfl⟩ := hQ30
              refine z_zne rfl (fun c31 => ?_) (fun c31 => ?_)
              · rw [if_neg c31] at hF
                refine z_lconst rfl ?_
                refine z_lstore rfl rfl rfl ?_
                refine z_lconst rfl ?_
                refine z_lstore rfl rfl rfl ?_
                refine z_const rfl ?_
                refine z_istore rfl rfl rfl ?_
                obtain ⟨y55, y56, y57, h58, hL54, hF⟩ := zbind4 hF
                refine zl_Mo_dark_L49 (by omega) N ?_ N _ _ _ _ _ _ _ _ _ _ hL54
                refine z_lload rfl rfl ?_
                refine z_lconst rfl ?_
                refine z_lcmp rfl ?_
                refine z_zne rfl (fun c61 => ?_) (fun c61 => ?_)
                · rw [if_neg c61] at hF
                  refine z_iload rfl rfl ?_
                  have hJ63 : zW l E d zm_Mo_dark 97 [zJk, zJk, zJk, zJk, zJk, zJk, zJk, .inr (.inl y56), zJk, .inr (.inl y57), zJk, zJk, zJk, zJk, zJk] [.inr (.inl (if y55 = 0 then y57 else y56 : Int))] h58 Q := by
                    refine z_lload rfl rfl ?_
                    refine z_lload rfl rfl ?_
                    obtain ⟨r69, hc68, hF⟩ := zbind1 hF
                    refine z_ivs2 (d' := d - 1) (As := [.inr (.inl y57), .inr (.inl y56)]) rfl rfl (zf_Mo_common (by omega) N _ _ hc68) rfl (by omega) rfl (fun r64 h65 hR66 hQ67 => ?_)
                    obtain ⟨rfl, rfl⟩ := hQ67
                    obtain ⟨g70, hF⟩ := zguard hF
                    refine z_ldiv rfl g70 ?_
                    obtain ⟨rfl, rfl⟩ := zinj2 hF
                    exact z_lret rfl rfl K
                  refine z_zne rfl (fun c62 => ?_) (fun c62 => ?_)
                  · refine z_lload rfl rfl ?_
                    refine zsubL (L' := [zJk, zJk, zJk, zJk, zJk, zJk, zJk, .inr (.inl y56), zJk, .inr (.inl y57), zJk, zJk, zJk, zJk, zJk]) ⟨Or.inl rfl, Or.inl rfl, Or.inl rfl, Or.inl rfl, Or.inl rfl, Or.inl rfl, Or.inr rfl, Or.inl rfl, Or.inl rfl, Or.inl rfl, Or.inl rfl, Or.inl rfl, Or.inl rfl, Or.inl rfl, Or.inl rfl, trivial⟩ ?_
                    exact zcast (by first | rfl | (simp only [if_neg c62] <;> rfl)) (by first | rfl | (simp only [if_neg c62] <;> rfl)) hJ63
                  · refine z_lload rfl rfl ?_
                    refine z_goto rfl ?_
                    refine zsubL (L' := [zJk, zJk, zJk, zJk, zJk, zJk, zJk, .inr (.inl y56), zJk, .inr (.inl y57), zJk, zJk, zJk, zJk, zJk]) ⟨Or.inl rfl, Or.inl rfl, Or.inl rfl, Or.inl rfl, Or.inl rfl, Or.inl rfl, Or.inr rfl, Or.inl rfl, Or.inl rfl, Or.inl rfl, Or.inl rfl, Or.inl rfl, Or.inl rfl, Or.inl rfl, Or.inl rfl, trivial⟩ ?_
                    exact zcast (by first | rfl | (simp only [if_pos c62] <;> rfl)) (by first | rfl | (simp only [if_pos c62] <;> rfl)) hJ63
                · rw [if_pos c61] at hF
                  refine z_lconst rfl ?_
                  refine z_goto rfl ?_
                  obtain ⟨rfl, rfl⟩ := zinj2 hF
                  exact z_lret rfl rfl K
              · rw [if_pos c31] at hF
                refine z_lconst rfl ?_
                obtain ⟨rfl, rfl⟩ := zinj2 hF
                exact z_lret rfl rfl K
set_option maxRecDepth 100000 in
theorem zf_Mo_dark {l : Launch} {E : zE} {d : Nat} (hd : 6 ≤ d) (N : Nat) (x1 x2 x3 x4 x5 x6 : Int) {h : zHp} {r0 : Int} {h0 : zHp} (hF : sh_Mo_dark N x1 x2 x3 x4 x5 x6 h = some (r0, h0)) : zC l E d zm_Mo_dark [.inr (.inr 85), .inl x1, .inl x2, .inl x3, .inl x4, .inl x5, .inl x6] h (fun r1 h1 => r0 = r1 ∧ h0 = h1) :=
  zC_of zk_Mo_dark (by decide) rfl rfl (Nat.le_of_ble_eq_true rfl) (zw_Mo_dark hd N _ _ _ _ _ _ hF ⟨rfl, rfl⟩)
