/-! by program (wip/whole/emit.py) out of the claim's listing -/
def sh_Mo_asks_L2 (N : Nat) : Nat → Int → zHp → Option ((zHp) ⊕ (Int × zHp))
  | 0, _, _ => none
  | n + 1, x1, h => (if sh_Mo_isWord (sh_Mo_w3 110 111 116) h = 0 then some (.inr (x1, h)) else (if h 85 18 = 8 then some (.inl h) else zb1 (sh_Mo_nextToken N (zst h 85 18 (w32 ((h 85 18) + 1)))) fun h16 => sh_Mo_asks_L2 N n (w32 (x1 + 1)) h16))
def sh_Mo_asks_L60 (N : Nat) : Nat → Int → Int → zHp → Option (zHp)
  | 0, _, _, _ => none
  | n + 1, x1, x4, h => (if x1 ≤ x4 then some h else zb1 (sh_Mo_emit N 20 0 h) fun h61 => sh_Mo_asks_L60 N n x1 (w32 (x4 + 1)) h61)
def sh_Mo_asks (N : Nat) (h : zHp) : Option (Int × zHp) := zb1 (sh_Mo_asks_L2 N N 0 h) fun w18 => zsum2 w18 (zcu1 fun h19 => some (3, h19)) (zcu2 fun y20 h21 => zb2 (sh_Mo_summed N h21) fun r27 h28 => if r27 = 0 then (if 0 ≤ sh_Mo_compareOf h28 then zb1 (sh_Mo_nextToken N h28) fun h40 => zb2 (sh_Mo_summed N h40) fun r46 h47 => if r46 = 0 then zb1 (sh_Mo_emit N (sh_Mo_compareOf h28) 0 h47) fun h54 => zb1 (sh_Mo_asks_L60 N N y20 0 (zst h54 85 18 (w32 ((h54 85 18) - y20)))) fun h63 => some (0, h63) else some (r46, h47) else some (1, h28)) else some (r27, h28))
set_option maxRecDepth 100000 in
set_option maxHeartbeats 4000000 in
theorem zl_Mo_asks_L2 {l : Launch} {E : zE} {d : Nat} (hd : 7 ≤ d) (N : Nat) {Q : Int → zHp → Prop} {res : (zHp) ⊕ (Int × zHp)} (K1 : ∀ (oh : zHp), res = .inl oh → zW l E d zm_Mo_asks 13 [zJk, zJk, zJk, zJk, zJk] [] oh Q) (K2 : ∀ (o1 : Int) (oh : zHp), res = .inr (o1, oh) → zW l E d zm_Mo_asks 25 [.inr (.inr 85), .inl o1, zJk, zJk, zJk] [] oh Q) : ∀ (n : Nat) (x1 : Int) (h : zHp), sh_Mo_asks_L2 N n x1 h = some res → zW l E d zm_Mo_asks 2 [.inr (.inr 85), .inl x1, zJk, zJk, zJk] [] h Q := by
  intro n
  induction n with
  | zero =>
    intro x1 h hF
    cases (show (none : Option ((zHp) ⊕ (Int × zHp))) = some res from hF)
  | succ n ih =>
    intro x1 h hF
    rw [sh_Mo_asks_L2] at hF
    refine z_aload rfl rfl rfl ?_
    refine z_const rfl ?_
    refine z_const rfl ?_
    refine z_const rfl ?_
    refine z_ivs2 (d' := d - 1) (As := [.inl 110, .inl 111, .inl 116]) rfl rfl (zf_Mo_w3 (by omega) _ _ _) rfl (by omega) rfl (fun r1 h2 hR3 hQ4 => ?_)
    obtain ⟨rfl, rfl⟩ := hQ4
    refine z_inv1 (d' := d - 1) (As := [.inr (.inl (sh_Mo_w3 110 111 116))]) rfl rfl (zf_Mo_isWord (by omega) _) rfl rfl rfl (by omega) rfl (fun r5 h6 hR7 hQ8 => ?_)
    obtain ⟨rfl, rfl⟩ := hQ8
    refine z_zeq rfl (fun c9 => ?_) (fun c9 => ?_)
    · rw [if_pos c9] at hF
      exact K2 _ _ (Option.some.inj hF).symm
    · rw [if_neg c9] at hF
      refine z_aload rfl rfl rfl ?_
      refine z_geti rfl rfl rfl rfl ?_
      refine z_const rfl ?_
      refine z_cne rfl (fun c10 => ?_) (fun c10 => ?_)
      · rw [if_neg c10] at hF
        refine z_aload rfl rfl rfl ?_
        refine z_dup rfl rfl ?_
        refine z_geti rfl rfl rfl rfl ?_
        refine z_const rfl ?_
        refine z_iadd rfl ?_
        refine z_puti rfl rfl rfl rfl ?_
        refine z_iinc rfl rfl rfl ?_
        refine z_aload rfl rfl rfl ?_
        obtain ⟨h16, hc15, hF⟩ := zbind1 hF
        refine z_inv0 (d' := d - 1) (As := []) rfl rfl (zf_Mo_nextToken (by omega) N hc15) rfl rfl rfl (by omega) rfl (fun r11 h12 hR13 hQ14 => ?_)
        obtain ⟨rfl, rfl⟩ := hQ14
        refine z_goto rfl ?_
        exact ih _ _ hF
      · rw [if_pos c10] at hF
        refine zsubL (L' := [zJk, zJk, zJk, zJk, zJk]) ⟨Or.inr rfl, Or.inr rfl, Or.inl rfl, Or.inl rfl, Or.inl rfl, trivial⟩ ?_
        exact K1 _ (Option.some.inj hF).symm
set_option maxRecDepth 100000 in
set_option maxHeartbeats 4000000 in
theorem zl_Mo_asks_L60 {l : Launch} {E : zE} {d : Nat} (hd : 7 ≤ d) (N : Nat) {Q : Int → zHp → Prop} {oh : zHp} (K1 : zW l E d zm_Mo_asks 69 [zJk, zJk, zJk, zJk, zJk] [] oh Q) : ∀ (n : Nat) (x1 x4 : Int) (h : zHp), sh_Mo_asks_L60 N n x1 x4 h = some oh → zW l E d zm_Mo_asks 60 [.inr (.inr 85), .inl x1, zJk, zJk, .inl x4] [] h Q := by
  intro n
  induction n with
  | zero =>
    intro x1 x4 h hF
    cases (show (none : Option (zHp)) = some oh from hF)
  | succ n ih =>
    intro x1 x4 h hF
    rw [sh_Mo_asks_L60] at hF
    refine z_iload rfl rfl ?_
    refine z_iload rfl rfl ?_
    refine z_cge rfl (fun c55 => ?_) (fun c55 => ?_)
    · rw [if_pos c55] at hF
      refine zsubL (L' := [zJk, zJk, zJk, zJk, zJk]) ⟨Or.inr rfl, Or.inr rfl, Or.inl rfl, Or.inl rfl, Or.inr rfl, trivial⟩ ?_
      obtain rfl := Option.some.inj hF
      exact K1
    · rw [if_neg c55] at hF
      refine z_aload rfl rfl rfl ?_
      refine z_const rfl ?_
      refine z_const rfl ?_
      obtain ⟨h61, hc60, hF⟩ := zbind1 hF
      refine z_inv0 (d' := d - 1) (As := [.inl 20, .inl 0]) rfl rfl (zf_Mo_emit (by omega) N _ _ hc60) rfl rfl rfl (by omega) rfl (fun r56 h57 hR58 hQ59 => ?_)
      obtain ⟨rfl, rfl⟩ := hQ59
      refine z_iinc rfl rfl rfl ?_
      refine z_goto rfl ?_
      exact ih _ _ _ hF
set_option maxRecDepth 100000 in
set_option maxHeartbeats 4000000 in
theorem zw_Mo_asks {l : Launch} {E : zE} {d : Nat} (hd : 7 ≤ d) (N : Nat) {h : zHp} {Q : Int → zHp → Prop} {r0 : Int} {h0 : zHp} (hF : sh_Mo_asks N h = some (r0, h0)) (K : Q r0 h0) : zW l E d zm_Mo_asks 0 [.inr (.inr 85), zJk, zJk, zJk, zJk] [] h Q := by
  rw [sh_Mo_asks] at hF
  refine z_const rfl ?_
  refine z_istore rfl rfl rfl ?_
  obtain ⟨w18, hL17, hF⟩ := zbind1 hF
  rcases w18 with h19 | ⟨y20, h21⟩
  · refine zl_Mo_asks_L2 (by omega) N (fun q64 e65 => ?_) (fun _ _ z => by cases z) N _ _ hL17
    obtain rfl := zinl2_0_1 e65
    replace hF := zs2_0_1 hF
    refine z_const rfl ?_
    obtain ⟨rfl, rfl⟩ := zinj2 hF
    exact z_iret rfl rfl K
  · refine zl_Mo_asks_L2 (by omega) N (fun _ z => by cases z) (fun q66 q67 e68 => ?_) N _ _ hL17
    obtain ⟨rfl, rfl⟩ := zinl2_1_2 e68
    replace hF := zs2_1_2 hF
    refine z_aload rfl rfl rfl ?_
    obtain ⟨r27, h28, hc26, hF⟩ := zbind2 hF
    refine z_inv1 (d' := d - 1) (As := []) rfl rfl (zf_Mo_summed (by omega) N hc26) rfl rfl rfl (by omega) rfl (fun r22 h23 hR24 hQ25 => ?_)
    obtain ⟨rfl, rfl⟩ := hQ25
    refine z_istore rfl rfl rfl ?_
    refine z_iload rfl rfl ?_
    refine z_zeq rfl (fun c29 => ?_) (fun c29 => ?_)
    · rw [if_pos c29] at hF
      refine z_aload rfl rfl rfl ?_
      refine z_inv1 (d' := d - 1) (As := []) rfl rfl (zf_Mo_compareOf (by omega)) rfl rfl rfl (by omega) rfl (fun r30 h31 hR32 hQ33 => ?_)
      obtain ⟨rfl, rfl⟩ := hQ33
      refine z_istore rfl rfl rfl ?_
      refine z_iload rfl rfl ?_
      refine z_zge rfl (fun c34 => ?_) (fun c34 => ?_)
      · rw [if_pos c34] at hF
        refine z_aload rfl rfl rfl ?_
        obtain ⟨h40, hc39, hF⟩ := zbind1 hF
        refine z_inv0 (d' := d - 1) (As := []) rfl rfl (zf_Mo_nextToken (by omega) N hc39) rfl rfl rfl (by omega) rfl (fun r35 h36 hR37 hQ38 => ?_)
        obtain ⟨rfl, rfl⟩ := hQ38
        refine z_aload rfl rfl rfl ?_
        obtain ⟨r46, h47, hc45, hF⟩ := zbind2 hF
        refine z_inv1 (d' := d - 1) (As := []) rfl rfl (zf_Mo_summed (by omega) N hc45) rfl rfl rfl (by omega) rfl (fun r41 h42 hR43 hQ44 => ?_)
        obtain ⟨rfl, rfl⟩ := hQ44
        refine z_istore rfl rfl rfl ?_
        refine z_iload rfl rfl ?_
        refine z_zeq rfl (fun c48 => ?_) (fun c48 => ?_)
        · rw [if_pos c48] at hF
          refine z_aload rfl rfl rfl ?_
          refine z_iload rfl rfl ?_
          refine z_const rfl ?_
          obtain ⟨h54, hc53, hF⟩ := zbind1 hF
          refine z_inv0 (d' := d - 1) (As := [.inl (sh_Mo_compareOf h28), .inl 0]) rfl rfl (zf_Mo_emit (by omega) N _ _ hc53) rfl rfl rfl (by omega) rfl (fun r49 h50 hR51 hQ52 => ?_)
          obtain ⟨rfl, rfl⟩ := hQ52
          refine z_aload rfl rfl rfl ?_
          refine z_dup rfl rfl ?_
          refine z_geti rfl rfl rfl rfl ?_
          refine z_iload rfl rfl ?_
          refine z_isub rfl ?_
          refine z_puti rfl rfl rfl rfl ?_
          refine z_const rfl ?_
          refine z_istore rfl rfl rfl ?_
          refine zsubL (L' := [.inr (.inr 85), .inl y20, zJk, zJk, .inl 0]) ⟨Or.inl rfl, Or.inl rfl, Or.inr rfl, Or.inr rfl, Or.inl rfl, trivial⟩ ?_
          obtain ⟨h63, hL62, hF⟩ := zbind1 hF
          refine zl_Mo_asks_L60 (by omega) N ?_ N _ _ _ hL62
          refine z_const rfl ?_
          obtain ⟨rfl, rfl⟩ := zinj2 hF
          exact z_iret rfl rfl K
        · rw [if_neg c48] at hF
          refine z_iload rfl rfl ?_
          obtain ⟨rfl, rfl⟩ := zinj2 hF
          exact z_iret rfl rfl K
      · rw [if_neg c34] at hF
        refine z_const rfl ?_
        obtain ⟨rfl, rfl⟩ := zinj2 hF
        exact z_iret rfl rfl K
    · rw [if_neg c29] at hF
      refine z_iload rfl rfl ?_
      obtain ⟨rfl, rfl⟩ := zinj2 hF
      exact z_iret rfl rfl K
set_option maxRecDepth 100000 in
theorem zf_Mo_asks {l : Launch} {E : zE} {d : Nat} (hd : 7 ≤ d) (N : Nat) {h : zHp} {r0 : Int} {h0 : zHp} (hF : sh_Mo_asks N h = some (r0, h0)) : zC l E d zm_Mo_asks [.inr (.inr 85)] h (fun r1 h1 => r0 = r1 ∧ h0 = h1) :=
  zC_of zk_Mo_asks (by decide) rfl rfl (Nat.le_of_ble_eq_true rfl) (zw_Mo_asks hd N hF ⟨rfl, rfl⟩)
def sh_Mo_either_L6_J51 (N : Nat) (rec : Int → Int → Int → zHp → Option ((Int × zHp) ⊕ (zHp))) (a1 a2 a5 : Int) (hj : zHp) : Option ((Int × zHp) ⊕ (zHp)) := (if (if a1 = 0 then (if a5 = 0 then 0 else 1 : Int) else 1 : Int) = 0 then rec a1 a2 (if a1 = 0 then (if a5 = 0 then 0 else 1 : Int) else 1 : Int) hj else zb1 (sh_Mo_nextToken N hj) fun h38 => rec a1 a2 (if a1 = 0 then (if a5 = 0 then 0 else 1 : Int) else 1 : Int) h38)
def sh_Mo_either_L6_J49 (N : Nat) (rec : Int → Int → Int → zHp → Option ((Int × zHp) ⊕ (zHp))) (a1 a5 : Int) (hj : zHp) : Option ((Int × zHp) ⊕ (zHp)) := sh_Mo_either_L6_J51 N rec a1 a5 a5 hj
def sh_Mo_either_L6_J21 (N : Nat) (rec : Int → Int → Int → zHp → Option ((Int × zHp) ⊕ (zHp))) (a2 : Int) (hj : zHp) : Option ((Int × zHp) ⊕ (zHp)) := (if sh_Mo_isWord (sh_Mo_w3 97 110 100) hj = 0 then (if a2 = 0 then sh_Mo_either_L6_J49 N rec (sh_Mo_isWord (sh_Mo_w3 97 110 100) hj) (if hj 85 9 = 2 then (if zcmp (hj 85 11) 28530 = 0 then 1 else 0 : Int) else 0 : Int) hj else zb1 (sh_Mo_emit N 22 0 hj) fun h47 => sh_Mo_either_L6_J49 N rec (sh_Mo_isWord (sh_Mo_w3 97 110 100) hj) (if hj 85 9 = 2 then (if zcmp (hj 85 11) 28530 = 0 then 1 else 0 : Int) else 0 : Int) h47) else sh_Mo_either_L6_J51 N rec (sh_Mo_isWord (sh_Mo_w3 97 110 100) hj) a2 (if hj 85 9 = 2 then (if zcmp (hj 85 11) 28530 = 0 then 1 else 0 : Int) else 0 : Int) hj)
def sh_Mo_either_L6 (N : Nat) : Nat → Int → Int → Int → zHp → Option ((Int × zHp) ⊕ (zHp))
  | 0, _, _, _, _ => none
  | n + 1, x1, x2, x3, h => (if x3 = 0 then some (.inr h) else zb2 (sh_Mo_asks N h) fun r7 h8 => if r7 = 0 then (if x1 = 0 then sh_Mo_either_L6_J21 N (sh_Mo_either_L6 N n) x2 h8 else zb1 (sh_Mo_emit N 21 0 h8) fun h53 => sh_Mo_either_L6_J21 N (sh_Mo_either_L6 N n) x2 h53) else some (.inl (r7, h8)))
def sh_Mo_either (N : Nat) (h : zHp) : Option (Int × zHp) := zb1 (sh_Mo_either_L6 N N 0 0 1 h) fun w55 => zsum2 w55 (zcu2 fun y56 h57 => some (y56, h57)) (zcu1 fun h58 => some (0, h58))
set_option maxRecDepth 100000 in
set_option maxHeartbeats 4000000 in
theorem zl_Mo_either_L6 {l : Launch} {E : zE} {d : Nat} (hd : 8 ≤ d) (N : Nat) {Q : Int → zHp → Prop} {res : (Int × zHp) ⊕ (zHp)} (K1 : ∀ (o4 : Int) (oh : zHp), res = .inl (o4, oh) → zW l E d zm_Mo_either 13 [zJk, zJk, zJk, zJk, .inl o4, zJk] [] oh Q) (K2 : ∀ (oh : zHp), res = .inr oh → zW l E d zm_Mo_either 64 [zJk, zJk, zJk, zJk, zJk, zJk] [] oh Q) : ∀ (n : Nat) (x1 x2 x3 : Int) (h : zHp), sh_Mo_either_L6 N n x1 x2 x3 h = some res → zW l E d zm_Mo_either 6 [.inr (.inr 85), .inl x1, .inl x2, .inl x3, zJk, zJk] [] h Q := by
  intro n
  induction n with
  | zero =>
    intro x1 x2 x3 h hF
    cases (show (none : Option ((Int × zHp) ⊕ (zHp))) = some res from hF)
  | succ n ih =>
    intro x1 x2 x3 h hF
    rw [sh_Mo_either_L6] at hF
    refine z_iload rfl rfl ?_
    refine z_zeq rfl (fun c1 => ?_) (fun c1 => ?_)
    · rw [if_pos c1] at hF
      refine zsubL (L' := [zJk, zJk, zJk, zJk, zJk, zJk]) ⟨Or.inr rfl, Or.inr rfl, Or.inr rfl, Or.inr rfl, Or.inl rfl, Or.inl rfl, trivial⟩ ?_
      exact K2 _ (Option.some.inj hF).symm
    · rw [if_neg c1] at hF
      refine z_aload rfl rfl rfl ?_
      obtain ⟨r7, h8, hc6, hF⟩ := zbind2 hF
      refine z_inv1 (d' := d - 1) (As := []) rfl rfl (zf_Mo_asks (by omega) N hc6) rfl rfl rfl (by omega) rfl (fun r2 h3 hR4 hQ5 => ?_)
      obtain ⟨rfl, rfl⟩ := hQ5
      refine z_istore rfl rfl rfl ?_
      refine z_iload rfl rfl ?_
      refine z_zeq rfl (fun c9 => ?_) (fun c9 => ?_)
      · rw [if_pos c9] at hF
        refine z_iload rfl rfl ?_
        have hJ12 : ∀ (a2 : Int) (hj : zHp), sh_Mo_either_L6_J21 N (sh_Mo_either_L6 N n) a2 hj = some res → zW l E d zm_Mo_either 21 [.inr (.inr 85), zJk, .inl a2, zJk, zJk, zJk] [] hj Q := by
          intro a2 hj hF
          rw [sh_Mo_either_L6_J21] at hF
          refine z_aload rfl rfl rfl ?_
          refine z_const rfl ?_
          refine z_const rfl ?_
          refine z_const rfl ?_
          refine z_ivs2 (d' := d - 1) (As := [.inl 97, .inl 110, .inl 100]) rfl rfl (zf_Mo_w3 (by omega) _ _ _) rfl (by omega) rfl (fun r13 h14 hR15 hQ16 => ?_)
          obtain ⟨rfl, rfl⟩ := hQ16
          refine z_inv1 (d' := d - 1) (As := [.inr (.inl (sh_Mo_w3 97 110 100))]) rfl rfl (zf_Mo_isWord (by omega) _) rfl rfl rfl (by omega) rfl (fun r17 h18 hR19 hQ20 => ?_)
          obtain ⟨rfl, rfl⟩ := hQ20
          refine z_istore rfl rfl rfl ?_
          refine z_aload rfl rfl rfl ?_
          refine z_geti rfl rfl rfl rfl ?_
          refine z_const rfl ?_
          have hJ23 : zW l E d zm_Mo_either 40 [.inr (.inr 85), .inl (sh_Mo_isWord (sh_Mo_w3 97 110 100) hj), .inl a2, zJk, zJk, zJk] [.inl (if hj 85 9 = 2 then (if zcmp (hj 85 11) 28530 = 0 then 1 else 0 : Int) else 0 : Int)] hj Q := by
            refine z_istore rfl rfl rfl ?_
            refine z_iload rfl rfl ?_
            have hJ27 : ∀ (a1 a2 a5 : Int) (hj : zHp), sh_Mo_either_L6_J51 N (sh_Mo_either_L6 N n) a1 a2 a5 hj = some res → zW l E d zm_Mo_either 51 [.inr (.inr 85), .inl a1, .inl a2, zJk, zJk, .inl a5] [] hj Q := by
              intro a1 a2 a5 hj hF
              rw [sh_Mo_either_L6_J51] at hF
              refine z_iload rfl rfl ?_
              have hJ30 : zW l E d zm_Mo_either 58 [.inr (.inr 85), .inl a1, .inl a2, zJk, zJk, zJk] [.inl (if a1 = 0 then (if a5 = 0 then 0 else 1 : Int) else 1 : Int)] hj Q := by
                refine z_istore rfl rfl rfl ?_
                refine z_iload rfl rfl ?_
                refine z_zeq rfl (fun c32 => ?_) (fun c32 => ?_)
                · rw [if_pos c32] at hF
                  refine z_goto rfl ?_
                  exact ih _ _ _ _ hF
                · rw [if_neg c32] at hF
                  refine z_aload rfl rfl rfl ?_
                  obtain ⟨h38, hc37, hF⟩ := zbind1 hF
                  refine z_inv0 (d' := d - 1) (As := []) rfl rfl (zf_Mo_nextToken (by omega) N hc37) rfl rfl rfl (by omega) rfl (fun r33 h34 hR35 hQ36 => ?_)
                  obtain ⟨rfl, rfl⟩ := hQ36
                  refine z_goto rfl ?_
                  exact ih _ _ _ _ hF
              refine z_zne rfl (fun c28 => ?_) (fun c28 => ?_)
              · refine z_const rfl ?_
                refine z_goto rfl ?_
                refine zsubL (L' := [.inr (.inr 85), .inl a1, .inl a2, zJk, zJk, zJk]) ⟨Or.inl rfl, Or.inl rfl, Or.inl rfl, Or.inl rfl, Or.inl rfl, Or.inr rfl, trivial⟩ ?_
                exact zcast (by first | rfl | (simp only [if_neg c28] <;> rfl)) (by first | rfl | (simp only [if_neg c28] <;> rfl)) hJ30
              · refine z_iload rfl rfl ?_
                refine z_zeq rfl (fun c29 => ?_) (fun c29 => ?_)
                · refine z_const rfl ?_
                  refine zsubL (L' := [.inr (.inr 85), .inl a1, .inl a2, zJk, zJk, zJk]) ⟨Or.inl rfl, Or.inl rfl, Or.inl rfl, Or.inl rfl, Or.inl rfl, Or.inr rfl, trivial⟩ ?_
                  exact zcast (by first | rfl | (simp only [if_pos c28, if_pos c29] <;> rfl)) (by first | rfl | (simp only [if_pos c28, if_pos c29] <;> rfl)) hJ30
                · refine z_const rfl ?_
                  refine z_goto rfl ?_
                  refine zsubL (L' := [.inr (.inr 85), .inl a1, .inl a2, zJk, zJk, zJk]) ⟨Or.inl rfl, Or.inl rfl, Or.inl rfl, Or.inl rfl, Or.inl rfl, Or.inr rfl, trivial⟩ ?_
                  exact zcast (by first | rfl | (simp only [if_pos c28, if_neg c29] <;> rfl)) (by first | rfl | (simp only [if_pos c28, if_neg c29] <;> rfl)) hJ30
            refine z_zne rfl (fun c26 => ?_) (fun c26 => ?_)
            · rw [if_neg c26] at hF
              exact hJ27 _ _ _ _ hF
            · rw [if_pos c26] at hF
              refine z_iload rfl rfl ?_
              have hJ41 : ∀ (a1 a5 : Int) (hj : zHp), sh_Mo_either_L6_J49 N (sh_Mo_either_L6 N n) a1 a5 hj = some res → zW l E d zm_Mo_either 49 [.inr (.inr 85), .inl a1, zJk, zJk, zJk, .inl a5] [] hj Q := by
                intro a1 a5 hj hF
                rw [sh_Mo_either_L6_J49] at hF
                refine z_iload rfl rfl ?_
                refine z_istore rfl rfl rfl ?_
                exact hJ27 _ _ _ _ hF
              refine z_zeq rfl (fun c40 => ?_) (fun c40 => ?_)
              · rw [if_pos c40] at hF
                refine zsubL (L' := [.inr (.inr 85), .inl (sh_Mo_isWord (sh_Mo_w3 97 110 100) hj), zJk, zJk, zJk, .inl (if hj 85 9 = 2 then (if zcmp (hj 85 11) 28530 = 0 then 1 else 0 : Int) else 0 : Int)]) ⟨Or.inl rfl, Or.inl rfl, Or.inr rfl, Or.inl rfl, Or.inl rfl, Or.inl rfl, trivial⟩ ?_
                exact hJ41 _ _ _ hF
              · rw [if_neg c40] at hF
                refine z_aload rfl rfl rfl ?_
                refine z_const rfl ?_
                refine z_const rfl ?_
                obtain ⟨h47, hc46, hF⟩ := zbind1 hF
                refine z_inv0 (d' := d - 1) (As := [.inl 22, .inl 0]) rfl rfl (zf_Mo_emit (by omega) N _ _ hc46) rfl rfl rfl (by omega) rfl (fun r42 h43 hR44 hQ45 => ?_)
                obtain ⟨rfl, rfl⟩ := hQ45
                refine zsubL (L' := [.inr (.inr 85), .inl (sh_Mo_isWord (sh_Mo_w3 97 110 100) hj), zJk, zJk, zJk, .inl (if hj 85 9 = 2 then (if zcmp (hj 85 11) 28530 = 0 then 1 else 0 : Int) else 0 : Int)]) ⟨Or.inl rfl, Or.inl rfl, Or.inr rfl, Or.inl rfl, Or.inl rfl, Or.inl rfl, trivial⟩ ?_
                exact hJ41 _ _ _ hF
          refine z_cne rfl (fun c21 => ?_) (fun c21 => ?_)
          · refine z_const rfl ?_
            exact zcast (by first | rfl | (simp only [if_neg c21] <;> rfl)) (by first | rfl | (simp only [if_neg c21] <;> rfl)) hJ23
          · refine z_aload rfl rfl rfl ?_
            refine z_getl rfl rfl rfl ?_
            refine z_lconst rfl ?_
            refine z_lcmp rfl ?_
            refine z_zne rfl (fun c22 => ?_) (fun c22 => ?_)
            · refine z_const rfl ?_
              exact zcast (by first | rfl | (simp only [if_pos c21, if_neg c22] <;> rfl)) (by first | rfl | (simp only [if_pos c21, if_neg c22] <;> rfl)) hJ23
            · refine z_const rfl ?_
              refine z_goto rfl ?_
              exact zcast (by first | rfl | (simp only [if_pos c21, if_pos c22] <;> rfl)) (by first | rfl | (simp only [if_pos c21, if_pos c22] <;> rfl)) hJ23
        refine z_zeq rfl (fun c11 => ?_) (fun c11 => ?_)
        · rw [if_pos c11] at hF
          refine zsubL (L' := [.inr (.inr 85), zJk, .inl x2, zJk, zJk, zJk]) ⟨Or.inl rfl, Or.inr rfl, Or.inl rfl, Or.inr rfl, Or.inr rfl, Or.inl rfl, trivial⟩ ?_
          exact hJ12 _ _ hF
        · rw [if_neg c11] at hF
          refine z_aload rfl rfl rfl ?_
          refine z_const rfl ?_
          refine z_const rfl ?_
          obtain ⟨h53, hc52, hF⟩ := zbind1 hF
          refine z_inv0 (d' := d - 1) (As := [.inl 21, .inl 0]) rfl rfl (zf_Mo_emit (by omega) N _ _ hc52) rfl rfl rfl (by omega) rfl (fun r48 h49 hR50 hQ51 => ?_)
          obtain ⟨rfl, rfl⟩ := hQ51
          refine zsubL (L' := [.inr (.inr 85), zJk, .inl x2, zJk, zJk, zJk]) ⟨Or.inl rfl, Or.inr rfl, Or.inl rfl, Or.inr rfl, Or.inr rfl, Or.inl rfl, trivial⟩ ?_
          exact hJ12 _ _ hF
      · rw [if_neg c9] at hF
        refine zsubL (L' := [zJk, zJk, zJk, zJk, .inl r7, zJk]) ⟨Or.inr rfl, Or.inr rfl, Or.inr rfl, Or.inr rfl, Or.inl rfl, Or.inl rfl, trivial⟩ ?_
        exact K1 _ _ (Option.some.inj hF).symm
set_option maxRecDepth 100000 in
set_option maxHeartbeats 4000000 in
theorem zw_Mo_either {l : Launch} {E : zE} {d : Nat} (hd : 8 ≤ d) (N : Nat) {h : zHp} {Q : Int → zHp → Prop} {r0 : Int} {h0 : zHp} (hF : sh_Mo_either N h = some (r0, h0)) (K : Q r0 h0) : zW l E d zm_Mo_either 0 [.inr (.inr 85), zJk, zJk, zJk, zJk, zJk] [] h Q := by
  rw [sh_Mo_either] at hF
  refine z_const rfl ?_
  refine z_istore rfl rfl rfl ?_
  refine z_const rfl ?_
  refine z_istore rfl rfl rfl ?_
  refine z_const rfl ?_
  refine z_istore rfl rfl rfl ?_
  obtain ⟨w55, hL54, hF⟩ := zbind1 hF
  rcases w55 with ⟨y56, h57⟩ | h58
  · refine zl_Mo_either_L6 (by omega) N (fun q59 q60 e61 => ?_) (fun _ z => by cases z) N _ _ _ _ hL54
    obtain ⟨rfl, rfl⟩ := zinl2_0_2 e61
    replace hF := zs2_0_2 hF
    refine z_iload rfl rfl ?_
    obtain ⟨rfl, rfl⟩ := zinj2 hF
    exact z_iret rfl rfl K
  · refine zl_Mo_either_L6 (by omega) N (fun _ _ z => by cases z) (fun q62 e63 => ?_) N _ _ _ _ hL54
    obtain rfl := zinl2_1_1 e63
    replace hF := zs2_1_1 hF
    refine z_const rfl ?_
    obtain ⟨rfl, rfl⟩ := zinj2 hF
    exact z_iret rfl rfl K
set_option maxRecDepth 100000 in
theorem zf_Mo_either {l : Launch} {E : zE} {d : Nat} (hd : 8 ≤ d) (N : Nat) {h : zHp} {r0 : Int} {h0 : zHp} (hF : sh_Mo_either N h = some (r0, h0)) : zC l E d zm_Mo_either [.inr (.inr 85)] h (fun r1 h1 => r0 = r1 ∧ h0 = h1) :=
  zC_of zk_Mo_either (by decide) rfl rfl (Nat.le_of_ble_eq_true rfl) (zw_Mo_either hd N hF ⟨rfl, rfl⟩)
def sh_Mo_clause_J64 (N : Nat) (a2 s0 : Int) (hj : zHp) : Option (Int × zHp) := (if s0 = 0 then if 0 ≤ w32 (a2 + 2) ∧ w32 (a2 + 2) < 2500 then if 0 ≤ zst hj 88 (w32 (a2 + 2)).toNat (hj 85 14) 85 12 ∧ zst hj 88 (w32 (a2 + 2)).toNat (hj 85 14) 85 12 < 2500 then if 0 ≤ zst hj 88 (w32 (a2 + 2)).toNat (hj 85 14) 85 12 ∧ zst hj 88 (w32 (a2 + 2)).toNat (hj 85 14) 85 12 < 2500 then if zst (zst hj 88 (w32 (a2 + 2)).toNat (hj 85 14)) 88 (zst hj 88 (w32 (a2 + 2)).toNat (hj 85 14) 85 12).toNat (w32 (((zst hj 88 (w32 (a2 + 2)).toNat (hj 85 14)) 88 (zst hj 88 (w32 (a2 + 2)).toNat (hj 85 14) 85 12).toNat) + 1)) 85 9 = 59 then zb1 (sh_Mo_nextToken N (zst (zst hj 88 (w32 (a2 + 2)).toNat (hj 85 14)) 88 (zst hj 88 (w32 (a2 + 2)).toNat (hj 85 14) 85 12).toNat (w32 (((zst hj 88 (w32 (a2 + 2)).toNat (hj 85 14)) 88 (zst hj 88 (w32 (a2 + 2)).toNat (hj 85 14) 85 12).toNat) + 1)))) fun h29 => some (0, h29) else some (1, zst (zst hj 88 (w32 (a2 + 2)).toNat (hj 85 14)) 88 (zst hj 88 (w32 (a2 + 2)).toNat (hj 85 14) 85 12).toNat (w32 (((zst hj 88 (w32 (a2 + 2)).toNat (hj 85 14)) 88 (zst hj 88 (w32 (a2 + 2)).toNat (hj 85 14) 85 12).toNat) + 1))) else none else none else none else some (s0, hj))
def sh_Mo_clause (N : Nat) (h : zHp) : Option (Int × zHp) := (if 0 ≤ sh_Mo_sortOf h then (if zand (zshr (h 85 21) (sh_Mo_sortOf h)) 1 = 1 then some (4, h) else zb1 (sh_Mo_nextToken N (zst (zst h 85 21 (zor (h 85 21) (zshl 1 (sh_Mo_sortOf h)))) 85 20 (sh_Mo_sortOf h))) fun h12 => if 0 ≤ h12 85 12 ∧ h12 85 12 < 2500 then if 0 ≤ w32 ((w32 ((h12 85 12) + 1)) + (w32 (3 * (h12 88 (h12 85 12).toNat)))) ∧ w32 ((w32 ((h12 85 12) + 1)) + (w32 (3 * (h12 88 (h12 85 12).toNat)))) < 2500 then if 0 ≤ w32 ((w32 ((w32 ((h12 85 12) + 1)) + (w32 (3 * (h12 88 (h12 85 12).toNat))))) + 1) ∧ w32 ((w32 ((w32 ((h12 85 12) + 1)) + (w32 (3 * (h12 88 (h12 85 12).toNat))))) + 1) < 2500 then if 2 ≤ sh_Mo_sortOf h then zb2 (sh_Mo_summed N (zst (zst h12 88 (w32 ((w32 ((h12 85 12) + 1)) + (w32 (3 * (h12 88 (h12 85 12).toNat))))).toNat (sh_Mo_sortOf h)) 88 (w32 ((w32 ((w32 ((h12 85 12) + 1)) + (w32 (3 * (h12 88 (h12 85 12).toNat))))) + 1)).toNat (zst h12 88 (w32 ((w32 ((h12 85 12) + 1)) + (w32 (3 * (h12 88 (h12 85 12).toNat))))).toNat (sh_Mo_sortOf h) 85 14))) fun r35 h36 => sh_Mo_clause_J64 N (w32 ((w32 ((h12 85 12) + 1)) + (w32 (3 * (h12 88 (h12 85 12).toNat))))) r35 h36 else zb2 (sh_Mo_either N (zst (zst h12 88 (w32 ((w32 ((h12 85 12) + 1)) + (w32 (3 * (h12 88 (h12 85 12).toNat))))).toNat (sh_Mo_sortOf h)) 88 (w32 ((w32 ((w32 ((h12 85 12) + 1)) + (w32 (3 * (h12 88 (h12 85 12).toNat))))) + 1)).toNat (zst h12 88 (w32 ((w32 ((h12 85 12) + 1)) + (w32 (3 * (h12 88 (h12 85 12).toNat))))).toNat (sh_Mo_sortOf h) 85 14))) fun r42 h43 => sh_Mo_clause_J64 N (w32 ((w32 ((h12 85 12) + 1)) + (w32 (3 * (h12 88 (h12 85 12).toNat))))) r42 h43 else none else none else none) else some (1, h))
set_option maxRecDepth 100000 in
set_option maxHeartbeats 4000000 in
theorem zw_Mo_clause {l : Launch} {E : zE} {d : Nat} (hd : 9 ≤ d) (N : Nat) {h : zHp} {Q : Int → zHp → Prop} {r0 : Int} {h0 : zHp} (hF : sh_Mo_clause N h = some (r0, h0)) (K : Q r0 h0) : zW l E d zm_Mo_clause 0 [.inr (.inr 85), zJk, zJk, zJk] [] h Q := by
  rw [sh_Mo_clause] at hF
  refine z_aload rfl rfl rfl ?_
  refine z_inv1 (d' := d - 1) (As := []) rfl rfl (zf_Mo_sortOf (by omega)) rfl rfl rfl (by omega) rfl (fun r1 h2 hR3 hQ4 => ?_)
  obtain ⟨rfl, rfl⟩ := hQ4
  refine z_istore rfl rfl rfl ?_
  refine z_iload rfl rfl ?_
  refine z_zge rfl (fun c5 => ?_) (fun c5 => ?_)
  · rw [if_pos c5] at hF
    refine z_aload rfl rfl rfl ?_
    refine z_geti rfl rfl rfl rfl ?_
    refine z_iload rfl rfl ?_
    refine z_ishr rfl ?_
    refine z_const rfl ?_
    refine z_iand rfl ?_
    refine z_const rfl ?_
    refine z_cne rfl (fun c6 => ?_) (fun c6 => ?_)
    · rw [if_neg c6] at hF
      refine z_aload rfl rfl rfl ?_
      refine z_dup rfl rfl ?_
      refine z_geti rfl rfl rfl rfl ?_
      refine z_const rfl ?_
      refine z_iload rfl rfl ?_
      refine z_ishl rfl ?_
      refine z_ior rfl ?_
      refine z_puti rfl rfl rfl rfl ?_
      refine z_aload rfl rfl rfl ?_
      refine z_iload rfl rfl ?_
      refine z_puti rfl rfl rfl rfl ?_
      refine z_aload rfl rfl rfl ?_
      obtain ⟨h12, hc11, hF⟩ := zbind1 hF
      refine z_inv0 (d' := d - 1) (As := []) rfl rfl (zf_Mo_nextToken (by omega) N hc11) rfl rfl rfl (by omega) rfl (fun r7 h8 hR9 hQ10 => ?_)
      obtain ⟨rfl, rfl⟩ := hQ10
      refine z_aload rfl rfl rfl ?_
      refine z_geti rfl rfl rfl rfl ?_
      refine z_const rfl ?_
      refine z_iadd rfl ?_
      refine z_const rfl ?_
      refine z_aload rfl rfl rfl ?_
      refine z_getr (r := 88) rfl rfl rfl rfl ?_
      refine z_aload rfl rfl rfl ?_
      refine z_geti rfl rfl rfl rfl ?_
      obtain ⟨g13, hF⟩ := zguard hF
      refine z_iald rfl rfl g13.1 g13.2 ?_
      refine z_imul rfl ?_
      refine z_iadd rfl ?_
      refine z_istore rfl rfl rfl ?_
      refine z_aload rfl rfl rfl ?_
      refine z_getr (r := 88) rfl rfl rfl rfl ?_
      refine z_iload rfl rfl ?_
      refine z_iload rfl rfl ?_
      obtain ⟨g14, hF⟩ := zguard hF
      refine z_iast rfl rfl g14.1 g14.2 ?_
      refine z_aload rfl rfl rfl ?_
      refine z_getr (r := 88) rfl rfl rfl rfl ?_
      refine z_iload rfl rfl ?_
      refine z_const rfl ?_
      refine z_iadd rfl ?_
      refine z_aload rfl rfl rfl ?_
      refine z_geti rfl rfl rfl rfl ?_
      obtain ⟨g15, hF⟩ := zguard hF
      refine z_iast rfl rfl g15.1 g15.2 ?_
      refine z_iload rfl rfl ?_
      refine z_const rfl ?_
      have hJ18 : ∀ (a2 s0 : Int) (hj : zHp), sh_Mo_clause_J64 N a2 s0 hj = some (r0, h0) → zW l E d zm_Mo_clause 64 [.inr (.inr 85), zJk, .inl a2, zJk] [.inl s0] hj Q := by
        intro a2 s0 hj hF
        rw [sh_Mo_clause_J64] at hF
        refine z_istore rfl rfl rfl ?_
        refine z_iload rfl rfl ?_
        refine z_zeq rfl (fun c19 => ?_) (fun c19 => ?_)
        · rw [if_pos c19] at hF
          refine z_aload rfl rfl rfl ?_
          refine z_getr (r := 88) rfl rfl rfl rfl ?_
          refine z_iload rfl rfl ?_
          refine z_const rfl ?_
          refine z_iadd rfl ?_
          refine z_aload rfl rfl rfl ?_
          refine z_geti rfl rfl rfl rfl ?_
          obtain ⟨g20, hF⟩ := zguard hF
          refine z_iast rfl rfl g20.1 g20.2 ?_
          refine z_aload rfl rfl rfl ?_
          refine z_getr (r := 88) rfl rfl rfl rfl ?_
          refine z_aload rfl rfl rfl ?_
          refine z_geti rfl rfl rfl rfl ?_
          refine z_dup2 rfl rfl rfl ?_
          obtain ⟨g21, hF⟩ := zguard hF
          refine z_iald rfl rfl g21.1 g21.2 ?_
          refine z_const rfl ?_
          refine z_iadd rfl ?_
          obtain ⟨g22, hF⟩ := zguard hF
          refine z_iast rfl rfl g22.1 g22.2 ?_
          refine z_aload rfl rfl rfl ?_
          refine z_geti rfl rfl rfl rfl ?_
          refine z_const rfl ?_
          refine z_ceq rfl (fun c23 => ?_) (fun c23 => ?_)
          · rw [if_pos c23] at hF
            refine z_aload rfl rfl rfl ?_
            obtain ⟨h29, hc28, hF⟩ := zbind1 hF
            refine z_inv0 (d' := d - 1) (As := []) rfl rfl (zf_Mo_nextToken (by omega) N hc28) rfl rfl rfl (by omega) rfl (fun r24 h25 hR26 hQ27 => ?_)
            obtain ⟨rfl, rfl⟩ := hQ27
            refine z_const rfl ?_
            obtain ⟨rfl, rfl⟩ := zinj2 hF
            exact z_iret rfl rfl K
          · rw [if_neg c23] at hF
            refine z_const rfl ?_
            obtain ⟨rfl, rfl⟩ := zinj2 hF
            exact z_iret rfl rfl K
        · rw [if_neg c19] at hF
          refine z_iload rfl rfl ?_
          obtain ⟨rfl, rfl⟩ := zinj2 hF
          exact z_iret rfl rfl K
      refine z_cge rfl (fun c17 => ?_) (fun c17 => ?_)
      · rw [if_pos c17] at hF
        refine z_aload rfl rfl rfl ?_
        obtain ⟨r35, h36, hc34, hF⟩ := zbind2 hF
        refine z_inv1 (d' := d - 1) (As := []) rfl rfl (zf_Mo_summed (by omega) N hc34) rfl rfl rfl (by omega) rfl (fun r30 h31 hR32 hQ33 => ?_)
        obtain ⟨rfl, rfl⟩ := hQ33
        refine zsubL (L' := [.inr (.inr 85), zJk, .inl (w32 ((w32 ((h12 85 12) + 1)) + (w32 (3 * (h12 88 (h12 85 12).toNat))))), zJk]) ⟨Or.inl rfl, Or.inr rfl, Or.inl rfl, Or.inl rfl, trivial⟩ ?_
        exact hJ18 _ _ _ hF
      · rw [if_neg c17] at hF
        refine z_aload rfl rfl rfl ?_
        obtain ⟨r42, h43, hc41, hF⟩ := zbind2 hF
        refine z_inv1 (d' := d - 1) (As := []) rfl rfl (zf_Mo_either (by omega) N hc41) rfl rfl rfl (by omega) rfl (fun r37 h38 hR39 hQ40 => ?_)
        obtain ⟨rfl, rfl⟩ := hQ40
        refine z_goto rfl ?_
        refine zsubL (L' := [.inr (.inr 85), zJk, .inl (w32 ((w32 ((h12 85 12) + 1)) + (w32 (3 * (h12 88 (h12 85 12).toNat))))), zJk]) ⟨Or.inl rfl, Or.inr rfl, Or.inl rfl, Or.inl rfl, trivial⟩ ?_
        exact hJ18 _ _ _ hF
    · rw [if_pos c6] at hF
      refine z_const rfl ?_
      obtain ⟨rfl, rfl⟩ := zinj2 hF
      exact z_iret rfl rfl K
  · rw [if_neg c5] at hF
    refine z_const rfl ?_
    obtain ⟨rfl, rfl⟩ := zinj2 hF
    exact z_iret rfl rfl K
set_option maxRecDepth 100000 in
theorem zf_Mo_clause {l : Launch} {E : zE} {d : Nat} (hd : 9 ≤ d) (N : Nat) {h : zHp} {r0 : Int} {h0 : zHp} (hF : sh_Mo_clause N h = some (r0, h0)) : zC l E d zm_Mo_clause [.inr (.inr 85)] h (fun r1 h1 => r0 = r1 ∧ h0 = h1) :=
  zC_of zk_Mo_clause (by decide) rfl rfl (Nat.le_of_ble_eq_true rfl) (zw_Mo_clause hd N hF ⟨rfl, rfl⟩)
def sh_Mo_readText_L28 (N : Nat) : Nat → zHp → Option ((Int × zHp) ⊕ (zHp))
  | 0, _ => none
  | n + 1, h => (if h 85 9 = 0 then some (.inr h) else zb2 (sh_Mo_clause N h) fun r14 h15 => if r14 = 0 then sh_Mo_readText_L28 N n h15 else some (.inl (r14, h15)))
def sh_Mo_readText (N : Nat) (h : zHp) : Option (Int × zHp) := if 0 ≤ zst h 85 12 (w32 (625 * (h 86 4))) 85 12 ∧ zst h 85 12 (w32 (625 * (h 86 4))) 85 12 < 2500 then zb1 (sh_Mo_nextToken N (zst (zst (zst (zst (zst (zst h 85 12 (w32 (625 * (h 86 4)))) 88 (zst h 85 12 (w32 (625 * (h 86 4))) 85 12).toNat 0) 85 14 0) 85 18 0) 85 21 0) 85 7 0)) fun h7 => zb1 (sh_Mo_readText_L28 N N h7) fun w18 => zsum2 w18 (zcu2 fun y19 h20 => some (y19, h20)) (zcu1 fun h21 => some (0, h21)) else none
set_option maxRecDepth 100000 in
set_option maxHeartbeats 4000000 in
theorem zl_Mo_readText_L28 {l : Launch} {E : zE} {d : Nat} (hd : 10 ≤ d) (N : Nat) {Q : Int → zHp → Prop} {res : (Int × zHp) ⊕ (zHp)} (K1 : ∀ (o1 : Int) (oh : zHp), res = .inl (o1, oh) → zW l E d zm_Mo_readText 36 [zJk, .inl o1] [] oh Q) (K2 : ∀ (oh : zHp), res = .inr oh → zW l E d zm_Mo_readText 39 [zJk, zJk] [] oh Q) : ∀ (n : Nat) (h : zHp), sh_Mo_readText_L28 N n h = some res → zW l E d zm_Mo_readText 28 [.inr (.inr 85), zJk] [] h Q := by
  intro n
  induction n with
  | zero =>
    intro h hF
    cases (show (none : Option ((Int × zHp) ⊕ (zHp))) = some res from hF)
  | succ n ih =>
    intro h hF
    rw [sh_Mo_readText_L28] at hF
    refine z_aload rfl rfl rfl ?_
    refine z_geti rfl rfl rfl rfl ?_
    refine z_zeq rfl (fun c8 => ?_) (fun c8 => ?_)
    · rw [if_pos c8] at hF
      refine zsubL (L' := [zJk, zJk]) ⟨Or.inr rfl, Or.inl rfl, trivial⟩ ?_
      exact K2 _ (Option.some.inj hF).symm
    · rw [if_neg c8] at hF
      refine z_aload rfl rfl rfl ?_
      obtain ⟨r14, h15, hc13, hF⟩ := zbind2 hF
      refine z_inv1 (d' := d - 1) (As := []) rfl rfl (zf_Mo_clause (by omega) N hc13) rfl rfl rfl (by omega) rfl (fun r9 h10 hR11 hQ12 => ?_)
      obtain ⟨rfl, rfl⟩ := hQ12
      refine z_istore rfl rfl rfl ?_
      refine z_iload rfl rfl ?_
      refine z_zeq rfl (fun c16 => ?_) (fun c16 => ?_)
      · rw [if_pos c16] at hF
        refine z_goto rfl ?_
        refine zsubL (L' := [.inr (.inr 85), zJk]) ⟨Or.inl rfl, Or.inr rfl, trivial⟩ ?_
        exact ih _ hF
      · rw [if_neg c16] at hF
        refine zsubL (L' := [zJk, .inl r14]) ⟨Or.inr rfl, Or.inl rfl, trivial⟩ ?_
        exact K1 _ _ (Option.some.inj hF).symm
set_option maxRecDepth 100000 in
set_option maxHeartbeats 4000000 in
theorem zw_Mo_readText {l : Launch} {E : zE} {d : Nat} (hd : 10 ≤ d) (N : Nat) {h : zHp} {Q : Int → zHp → Prop} {r0 : Int} {h0 : zHp} (hF : sh_Mo_readText N h = some (r0, h0)) (K : Q r0 h0) : zW l E d zm_Mo_readText 0 [.inr (.inr 85), zJk] [] h Q := by
  rw [sh_Mo_readText] at hF
  refine z_aload rfl rfl rfl ?_
  refine z_const rfl ?_
  refine z_aload rfl rfl rfl ?_
  refine z_getr (r := 86) rfl rfl rfl rfl ?_
  refine z_const rfl ?_
  refine z_ialdc 4 rfl rfl rfl (by decide) ?_
  refine z_imul rfl ?_
  refine z_puti rfl rfl rfl rfl ?_
  refine z_aload rfl rfl rfl ?_
  refine z_getr (r := 88) rfl rfl rfl rfl ?_
  refine z_aload rfl rfl rfl ?_
  refine z_geti rfl rfl rfl rfl ?_
  refine z_const rfl ?_
  obtain ⟨g1, hF⟩ := zguard hF
  refine z_iast rfl rfl g1.1 g1.2 ?_
  refine z_aload rfl rfl rfl ?_
  refine z_const rfl ?_
  refine z_puti rfl rfl rfl rfl ?_
  refine z_aload rfl rfl rfl ?_
  refine z_const rfl ?_
  refine z_puti rfl rfl rfl rfl ?_
  refine z_aload rfl rfl rfl ?_
  refine z_const rfl ?_
  refine z_puti rfl rfl rfl rfl ?_
  refine z_aload rfl rfl rfl ?_
  refine z_const rfl ?_
  refine z_puti rfl rfl rfl rfl ?_
  refine z_aload rfl rfl rfl ?_
  obtain ⟨h7, hc6, hF⟩ := zbind1 hF
  refine z_inv0 (d' := d - 1) (As := []) rfl rfl (zf_Mo_nextToken (by omega) N hc6) rfl rfl rfl (by omega) rfl (fun r2 h3 hR4 hQ5 => ?_)
  obtain ⟨rfl, rfl⟩ := hQ5
  obtain ⟨w18, hL17, hF⟩ := zbind1 hF
  rcases w18 with ⟨y19, h20⟩ | h21
  · refine zl_Mo_readText_L28 (by omega) N (fun q22 q23 e24 => ?_) (fun _ z => by cases z) N _ hL17
    obtain ⟨rfl, rfl⟩ := zinl2_0_2 e24
    replace hF := zs2_0_2 hF
    refine z_iload rfl rfl ?_
    obtain ⟨rfl, rfl⟩ := zinj2 hF
    exact z_iret rfl rfl K
  · refine zl_Mo_readText_L28 (by omega) N (fun _ _ z => by cases z) (fun q25 e26 => ?_) N _ hL17
    obtain rfl := zinl2_1_1 e26
    replace hF := zs2_1_1 hF
    refine z_const rfl ?_
    obtain ⟨rfl, rfl⟩ := zinj2 hF
    exact z_iret rfl rfl K
set_option maxRecDepth 100000 in
theorem zf_Mo_readText {l : Launch} {E : zE} {d : Nat} (hd : 10 ≤ d) (N : Nat) {h : zHp} {r0 : Int} {h0 : zHp} (hF : sh_Mo_readText N h = some (r0, h0)) : zC l E d zm_Mo_readText [.inr (.inr 85)] h (fun r1 h1 => r0 = r1 ∧ h0 = h1) :=
  zC_of zk_Mo_readText (by decide) rfl rfl (Nat.le_of_ble_eq_true rfl) (zw_Mo_readText hd N hF ⟨rfl, rfl⟩)
def sh_Mo_text (N : Nat) (h : zHp) : Option (Int × zHp) := (if h 86 4 = 4 then some ((-1), h) else zb2 (sh_Mo_readText N h) fun r7 h8 => (if zst (zst (zst h8 85 5 r7) 85 6 (if zst h8 85 5 r7 85 5 = 0 then (-1) else zst h8 85 5 r7 85 8 : Int)) 85 4 0 85 5 = 0 then some (w32 (((zst (zst (zst (zst h8 85 5 r7) 85 6 (if zst h8 85 5 r7 85 5 = 0 then (-1) else zst h8 85 5 r7 85 8 : Int)) 85 4 0) 86 4 (w32 (((zst (zst (zst h8 85 5 r7) 85 6 (if zst h8 85 5 r7 85 5 = 0 then (-1) else zst h8 85 5 r7 85 8 : Int)) 85 4 0) 86 4) + 1))) 86 4) - 1), zst (zst (zst (zst h8 85 5 r7) 85 6 (if zst h8 85 5 r7 85 5 = 0 then (-1) else zst h8 85 5 r7 85 8 : Int)) 85 4 0) 86 4 (w32 (((zst (zst (zst h8 85 5 r7) 85 6 (if zst h8 85 5 r7 85 5 = 0 then (-1) else zst h8 85 5 r7 85 8 : Int)) 85 4 0) 86 4) + 1))) else some ((-1), zst (zst (zst h8 85 5 r7) 85 6 (if zst h8 85 5 r7 85 5 = 0 then (-1) else zst h8 85 5 r7 85 8 : Int)) 85 4 0)))
set_option maxRecDepth 100000 in
set_option maxHeartbeats 4000000 in
theorem zw_Mo_text {l : Launch} {E : zE} {d : Nat} (hd : 11 ≤ d) (N : Nat) {h : zHp} {Q : Int → zHp → Prop} {r0 : Int} {h0 : zHp} (hF : sh_Mo_text N h = some (r0, h0)) (K : Q r0 h0) : zW l E d zm_Mo_text 0 [.inr (.inr 85)] [] h Q := by
  rw [sh_Mo_text] at hF
  refine z_aload rfl rfl rfl ?_
  refine z_getr (r := 86) rfl rfl rfl rfl ?_
  refine z_const rfl ?_
  refine z_ialdc 4 rfl rfl rfl (by decide) ?_
  refine z_const rfl ?_
  refine z_cne rfl (fun c1 => ?_) (fun c1 => ?_)
  · rw [if_neg c1] at hF
    refine z_aload rfl rfl rfl ?_
    refine z_aload rfl rfl rfl ?_
    obtain ⟨r7, h8, hc6, hF⟩ := zbind2 hF
    refine z_inv1 (d' := d - 1) (As := []) rfl rfl (zf_Mo_readText (by omega) N hc6) rfl rfl rfl (by omega) rfl (fun r2 h3 hR4 hQ5 => ?_)
    obtain ⟨rfl, rfl⟩ := hQ5
    refine z_puti rfl rfl rfl rfl ?_
    refine z_aload rfl rfl rfl ?_
    refine z_aload rfl rfl rfl ?_
    refine z_geti rfl rfl rfl rfl ?_
    have hJ10 : zW l E d zm_Mo_text 20 [.inr (.inr 85)] [.inl (if zst h8 85 5 r7 85 5 = 0 then (-1) else zst h8 85 5 r7 85 8 : Int), .inr (.inr 85)] (zst h8 85 5 r7) Q := by
      refine z_puti rfl rfl rfl rfl ?_
      refine z_aload rfl rfl rfl ?_
      refine z_const rfl ?_
      refine z_puti rfl rfl rfl rfl ?_
      refine z_aload rfl rfl rfl ?_
      refine z_geti rfl rfl rfl rfl ?_
      refine z_zeq rfl (fun c11 => ?_) (fun c11 => ?_)
      · rw [if_pos c11] at hF
        refine z_aload rfl rfl rfl ?_
        refine z_getr (r := 86) rfl rfl rfl rfl ?_
        refine z_const rfl ?_
        refine z_dup2 rfl rfl rfl ?_
        refine z_ialdc 4 rfl rfl rfl (by decide) ?_
        refine z_const rfl ?_
        refine z_iadd rfl ?_
        refine z_iastc 4 rfl rfl rfl (by decide) ?_
        refine z_aload rfl rfl rfl ?_
        refine z_getr (r := 86) rfl rfl rfl rfl ?_
        refine z_const rfl ?_
        refine z_ialdc 4 rfl rfl rfl (by decide) ?_
        refine z_const rfl ?_
        refine z_isub rfl ?_
        obtain ⟨rfl, rfl⟩ := zinj2 hF
        exact z_iret rfl rfl K
      · rw [if_neg c11] at hF
        refine z_const rfl ?_
        obtain ⟨rfl, rfl⟩ := zinj2 hF
        exact z_iret rfl rfl K
    refine z_zne rfl (fun c9 => ?_) (fun c9 => ?_)
    · refine z_aload rfl rfl rfl ?_
      refine z_geti rfl rfl rfl rfl ?_
      exact zcast (by first | rfl | (simp only [if_neg c9] <;> rfl)) (by first | rfl | (simp only [if_neg c9] <;> rfl)) hJ10
    · refine z_const rfl ?_
      refine z_goto rfl ?_
      exact zcast (by first | rfl | (simp only [if_pos c9] <;> rfl)) (by first | rfl | (simp only [if_pos c9] <;> rfl)) hJ10
  · rw [if_pos c1] at hF
    refine z_const rfl ?_
    obtain ⟨rfl, rfl⟩ := zinj2 hF
    exact z_iret rfl rfl K
set_option maxRecDepth 100000 in
theorem zf_Mo_text {l : Launch} {E : zE} {d : Nat} (hd : 11 ≤ d) (N : Nat) {h : zHp} {r0 : Int} {h0 : zHp} (hF : sh_Mo_text N h = some (r0, h0)) : zC l E d zm_Mo_text [.inr (.inr 85)] h (fun r1 h1 => r0 = r1 ∧ h0 = h1) :=
  zC_of zk_Mo_text (by decide) rfl rfl (Nat.le_of_ble_eq_true rfl) (zw_Mo_text hd N hF ⟨rfl, rfl⟩)
def sh_Ox_fault (x1 : Int) (h : zHp) : Int := (if x1 = 0 then h 67 2 else (if x1 = 1 then h 67 3 else (-1) : Int))
set_option maxRecDepth 100000 in
set_option maxHeartbeats 4000000 in
theorem zw_Ox_fault {l : Launch} {E : zE} {d : Nat} (hd : 1 ≤ d) (x1 : Int) {h : zHp} {Q : Int → zHp → Prop} {r0 : Int} (hF : sh_Ox_fault x1 h = r0) (K : Q r0 h) : zW l E d zm_Ox_fault 0 [.inr (.inr 0), .inl x1] [] h Q := by
  rw [sh_Ox_fault] at hF
  refine z_iload rfl rfl ?_
  refine z_zne rfl (fun c1 => ?_) (fun c1 => ?_)
  · rw [if_neg c1] at hF
    refine z_iload rfl rfl ?_
    refine z_const rfl ?_
    have hJ3 : zW l E d zm_Ox_fault 14 [zJk, zJk] [.inl (if x1 = 1 then h 67 3 else (-1) : Int)] h Q := by
      subst hF
      exact z_iret rfl rfl K
    refine z_cne rfl (fun c2 => ?_) (fun c2 => ?_)
    · refine z_const rfl ?_
      refine zsubL (L' := [zJk, zJk]) ⟨Or.inr rfl, Or.inr rfl, trivial⟩ ?_
      exact zcast (by first | rfl | (simp only [if_neg c2] <;> rfl)) (by first | rfl | (simp only [if_neg c2] <;> rfl)) hJ3
    · refine z_aload rfl rfl rfl ?_
      refine z_getr (r := 67) rfl rfl rfl rfl ?_
      refine z_geti rfl rfl rfl rfl ?_
      refine z_goto rfl ?_
      refine zsubL (L' := [zJk, zJk]) ⟨Or.inr rfl, Or.inr rfl, trivial⟩ ?_
      exact zcast (by first | rfl | (simp only [if_pos c2] <;> rfl)) (by first | rfl | (simp only [if_pos c2] <;> rfl)) hJ3
  · rw [if_pos c1] at hF
    refine z_aload rfl rfl rfl ?_
    refine z_getr (r := 67) rfl rfl rfl rfl ?_
    refine z_geti rfl rfl rfl rfl ?_
    subst hF
    exact z_iret rfl rfl K
set_option maxRecDepth 100000 in
theorem zf_Ox_fault {l : Launch} {E : zE} {d : Nat} (hd : 1 ≤ d) (x1 : Int) {h : zHp} : zC l E d zm_Ox_fault [.inr (.inr 0), .inl x1] h (fun r1 h1 => sh_Ox_fault x1 h = r1 ∧ h = h1) :=
  zC_of zk_Ox_fault (by decide) rfl rfl (Nat.le_of_ble_eq_true rfl) (zw_Ox_fault hd _ rfl ⟨rfl, rfl⟩)
def sh_Mo_fault (x1 : Int) (h : zHp) : Int := (if x1 = 0 then h 85 5 else (if x1 = 1 then h 85 6 else (-1) : Int) : Int)
set_option maxRecDepth 100000 in
set_option maxHeartbeats 4000000 in
theorem zw_Mo_fault {l : Launch} {E : zE} {d : Nat} (hd : 1 ≤ d) (x1 : Int) {h : zHp} {Q : Int → zHp → Prop} {r0 : Int} (hF : sh_Mo_fault x1 h = r0) (K : Q r0 h) : zW l E d zm_Mo_fault 0 [.inr (.inr 85), .inl x1] [] h Q := by
  rw [sh_Mo_fault] at hF
  refine z_iload rfl rfl ?_
  have hJ3 : zW l E d zm_Mo_fault 12 [zJk, zJk] [.inl (if x1 = 0 then h 85 5 else (if x1 = 1 then h 85 6 else (-1) : Int) : Int)] h Q := by
    subst hF
    exact z_iret rfl rfl K
  refine z_zne rfl (fun c1 => ?_) (fun c1 => ?_)
  · refine z_iload rfl rfl ?_
    refine z_const rfl ?_
    refine z_cne rfl (fun c2 => ?_) (fun c2 => ?_)
    · refine z_const rfl ?_
      refine zsubL (L' := [zJk, zJk]) ⟨Or.inr rfl, Or.inr rfl, trivial⟩ ?_
      exact zcast (by first | rfl | (simp only [if_neg c1, if_neg c2] <;> rfl)) (by first | rfl | (simp only [if_neg c1, if_neg c2] <;> rfl)) hJ3
    · refine z_aload rfl rfl rfl ?_
      refine z_geti rfl rfl rfl rfl ?_
      refine z_goto rfl ?_
      refine zsubL (L' := [zJk, zJk]) ⟨Or.inr rfl, Or.inr rfl, trivial⟩ ?_
      exact zcast (by first | rfl | (simp only [if_neg c1, if_pos c2] <;> rfl)) (by first | rfl | (simp only [if_neg c1, if_pos c2] <;> rfl)) hJ3
  · refine z_aload rfl rfl rfl ?_
    refine z_geti rfl rfl rfl rfl ?_
    refine z_goto rfl ?_
    refine zsubL (L' := [zJk, zJk]) ⟨Or.inr rfl, Or.inr rfl, trivial⟩ ?_
    exact zcast (by first | rfl | (simp only [if_pos c1] <;> rfl)) (by first | rfl | (simp only [if_pos c1] <;> rfl)) hJ3
set_option maxRecDepth 100000 in
theorem zf_Mo_fault {l : Launch} {E : zE} {d : Nat} (hd : 1 ≤ d) (x1 : Int) {h : zHp} : zC l E d zm_Mo_fault [.inr (.inr 85), .inl x1] h (fun r1 h1 => sh_Mo_fault x1 h = r1 ∧ h = h1) :=
  zC_of zk_Mo_fault (by decide) rfl rfl (Nat.le_of_ble_eq_true rfl) (zw_Mo_fault hd _ rfl ⟨rfl, rfl⟩)
def sh_Ox_by (x1 : Int) (h : zHp) : Option (Int × zHp) := (if sh_Ox_within x1 (-1) (w32 ((h 1 12) - 1)) = 0 then some (0, h) else some (1, zst h 1 13 x1))
set_option maxRecDepth 100000 in
set_option maxHeartbeats 4000000 in
theorem zw_Ox_by {l : Launch} {E : zE} {d : Nat} (hd : 2 ≤ d) (x1 : Int) {h : zHp} {Q : Int → zHp → Prop} {r0 : Int} {h0 : zHp} (hF : sh_Ox_by x1 h = some (r0, h0)) (K : Q r0 h0) : zW l E d zm_Ox_by 0 [.inr (.inr 0), .inl x1] [] h Q := by
  rw [sh_Ox_by] at hF
  refine z_iload rfl rfl ?_
  refine z_const rfl ?_
  refine z_aload rfl rfl rfl ?_
  refine z_getr (r := 1) rfl rfl rfl rfl ?_
  refine z_geti rfl rfl rfl rfl ?_
  refine z_const rfl ?_
  refine z_isub rfl ?_
  refine z_ivs1 (d' := d - 1) (As := [.inl x1, .inl (-1), .inl (w32 ((h 1 12) - 1))]) rfl rfl (zf_Ox_within (by omega) _ _ _) rfl (by omega) rfl (fun r1 h2 hR3 hQ4 => ?_)
  obtain ⟨rfl, rfl⟩ := hQ4
  refine z_zne rfl (fun c5 => ?_) (fun c5 => ?_)
  · rw [if_neg c5] at hF
    refine z_aload rfl rfl rfl ?_
    refine z_getr (r := 1) rfl rfl rfl rfl ?_
    refine z_iload rfl rfl ?_
    refine z_puti rfl rfl rfl rfl ?_
    refine z_const rfl ?_
    obtain ⟨rfl, rfl⟩ := zinj2 hF
    exact z_zret rfl rfl (Or.inr rfl) K
  · rw [if_pos c5] at hF
    refine z_const rfl ?_
    obtain ⟨rfl, rfl⟩ := zinj2 hF
    exact z_zret rfl rfl (Or.inl rfl) K
set_option maxRecDepth 100000 in
theorem zf_Ox_by {l : Launch} {E : zE} {d : Nat} (hd : 2 ≤ d) (x1 : Int) {h : zHp} {r0 : Int} {h0 : zHp} (hF : sh_Ox_by x1 h = some (r0, h0)) : zC l E d zm_Ox_by [.inr (.inr 0), .inl x1] h (fun r1 h1 => r0 = r1 ∧ h0 = h1) :=
  zC_of zk_Ox_by (by decide) rfl rfl (Nat.le_of_ble_eq_true rfl) (zw_Ox_by hd _ hF ⟨rfl, rfl⟩)
def sh_Mo_by (x1 : Int) (h : zHp) : Option (Int × zHp) := (if sh_Mo_isIn x1 (-1) (w32 ((h 86 4) - 1)) = 0 then some (0, h) else some (1, zst h 86 5 x1))
set_option maxRecDepth 100000 in
set_option maxHeartbeats 4000000 in
theorem zw_Mo_by {l : Launch} {E : zE} {d : Nat} (hd : 2 ≤ d) (x1 : Int) {h : zHp} {Q : Int → zHp → Prop} {r0 : Int} {h0 : zHp} (hF : sh_Mo_by x1 h = some (r0, h0)) (K : Q r0 h0) : zW l E d zm_Mo_by 0 [.inr (.inr 85), .inl x1] [] h Q := by
  rw [sh_Mo_by] at hF
  refine z_iload rfl rfl ?_
  refine z_const rfl ?_
  refine z_aload rfl rfl rfl ?_
  refine z_getr (r := 86) rfl rfl rfl rfl ?_
  refine z_const rfl ?_
  refine z_ialdc 4 rfl rfl rfl (by decide) ?_
  refine z_const rfl ?_
  refine z_isub rfl ?_
  refine z_ivs1 (d' := d - 1) (As := [.inl x1, .inl (-1), .inl (w32 ((h 86 4) - 1))]) rfl rfl (zf_Mo_isIn (by omega) _ _ _) rfl (by omega) rfl (fun r1 h2 hR3 hQ4 => ?_)
  obtain ⟨rfl, rfl⟩ := hQ4
  refine z_zne rfl (fun c5 => ?_) (fun c5 => ?_)
  · rw [if_neg c5] at hF
    refine z_aload rfl rfl rfl ?_
    refine z_getr (r := 86) rfl rfl rfl rfl ?_
    refine z_const rfl ?_
    refine z_iload rfl rfl ?_
    refine z_iastc 5 rfl rfl rfl (by decide) ?_
    refine z_const rfl ?_
    obtain ⟨rfl, rfl⟩ := zinj2 hF
    exact z_zret rfl rfl (Or.inr rfl) K
  · rw [if_pos c5] at hF
    refine z_const rfl ?_
    obtain ⟨rfl, rfl⟩ := zinj2 hF
    exact z_zret rfl rfl (Or.inl rfl) K
set_option maxRecDepth 100000 in
theorem zf_Mo_by {l : Launch} {E : zE} {d : Nat} (hd : 2 ≤ d) (x1 : Int) {h : zHp} {r0 : Int} {h0 : zHp} (hF : sh_Mo_by x1 h = some (r0, h0)) : zC l E d zm_Mo_by [.inr (.inr 85), .inl x1] h (fun r1 h1 => r0 = r1 ∧ h0 = h1) :=
  zC_of zk_Mo_by (by decide) rfl rfl (Nat.le_of_ble_eq_true rfl) (zw_Mo_by hd _ hF ⟨rfl, rfl⟩)
def sh_Ox_isOx (x1 : Int) (h : zHp) : Int := sh_Ox_within x1 0 (w32 ((sh_Herd_oxen_14 h) - 1))
set_option maxRecDepth 100000 in
set_option maxHeartbeats 4000000 in
theorem zw_Ox_isOx {l : Launch} {E : zE} {d : Nat} (hd : 3 ≤ d) (x1 : Int) {h : zHp} {Q : Int → zHp → Prop} {r0 : Int} (hF : sh_Ox_isOx x1 h = r0) (K : Q r0 h) : zW l E d zm_Ox_isOx 0 [.inr (.inr 0), .inl x1] [] h Q := by
  rw [sh_Ox_isOx] at hF
  refine z_iload rfl rfl ?_
  refine z_const rfl ?_
  refine z_aload rfl rfl rfl ?_
  refine z_getr (r := 1) rfl rfl rfl rfl ?_
  refine z_getr (r := 14) rfl rfl rfl rfl ?_
  refine z_inv1 (d' := d - 1) (As := []) rfl rfl (zf_Herd_oxen_14 (by omega)) rfl rfl rfl (by omega) rfl (fun r1 h2 hR3 hQ4 => ?_)
  obtain ⟨rfl, rfl⟩ := hQ4
  refine z_const rfl ?_
  refine z_isub rfl ?_
  refine z_ivs1 (d' := d - 1) (As := [.inl x1, .inl 0, .inl (w32 ((sh_Herd_oxen_14 h) - 1))]) rfl rfl (zf_Ox_within (by omega) _ _ _) rfl (by omega) rfl (fun r5 h6 hR7 hQ8 => ?_)
  obtain ⟨rfl, rfl⟩ := hQ8
  subst hF
  exact z_zret rfl rfl (zRr_z rfl hR7) K
set_option maxRecDepth 100000 in
theorem zf_Ox_isOx {l : Launch} {E : zE} {d : Nat} (hd : 3 ≤ d) (x1 : Int) {h : zHp} : zC l E d zm_Ox_isOx [.inr (.inr 0), .inl x1] h (fun r1 h1 => sh_Ox_isOx x1 h = r1 ∧ h = h1) :=
  zC_of zk_Ox_isOx (by decide) rfl rfl (Nat.le_of_ble_eq_true rfl) (zw_Ox_isOx hd _ rfl ⟨rfl, rfl⟩)
theorem zb_Ox_isOx (x1 : Int) (h : zHp) : sh_Ox_isOx x1 h = 0 ∨ sh_Ox_isOx x1 h = 1 := by
  unfold sh_Ox_isOx
  exact zb_Ox_within _ _ _
def sh_Ox_isPair (x1 x2 : Int) (h : zHp) : Int := (if x1 = x2 then 0 else (if sh_Ox_isOx x1 h = 0 then 0 else (if sh_Ox_isOx x2 h = 0 then 0 else 1 : Int) : Int) : Int)
set_option maxRecDepth 100000 in
set_option maxHeartbeats 4000000 in
theorem zw_Ox_isPair {l : Launch} {E : zE} {d : Nat} (hd : 4 ≤ d) (x1 x2 : Int) {h : zHp} {Q : Int → zHp → Prop} {r0 : Int} (hF : sh_Ox_isPair x1 x2 h = r0) (K : Q r0 h) : zW l E d zm_Ox_isPair 0 [.inr (.inr 0), .inl x1, .inl x2] [] h Q := by
  rw [sh_Ox_isPair] at hF
  refine z_iload rfl rfl ?_
  refine z_iload rfl rfl ?_
  have hJ12 : zW l E d zm_Ox_isPair 14 [zJk, zJk, zJk] [.inl (if x1 = x2 then 0 else (if sh_Ox_isOx x1 h = 0 then 0 else (if sh_Ox_isOx x2 h = 0 then 0 else 1 : Int) : Int) : Int)] h Q := by
    subst hF
    exact z_zret rfl rfl (zor_ite (Or.inl rfl) (zor_ite (Or.inl rfl) (zor_ite (Or.inl rfl) (Or.inr rfl)))) K
  refine z_ceq rfl (fun c1 => ?_) (fun c1 => ?_)
  · refine z_const rfl ?_
    refine zsubL (L' := [zJk, zJk, zJk]) ⟨Or.inr rfl, Or.inr rfl, Or.inr rfl, trivial⟩ ?_
    exact zcast (by first | rfl | (simp only [if_pos c1] <;> rfl)) (by first | rfl | (simp only [if_pos c1] <;> rfl)) hJ12
  · refine z_aload rfl rfl rfl ?_
    refine z_iload rfl rfl ?_
    refine z_inv1 (d' := d - 1) (As := [.inl x1]) rfl rfl (zf_Ox_isOx (by omega) _) rfl rfl rfl (by omega) rfl (fun r2 h3 hR4 hQ5 => ?_)
    obtain ⟨rfl, rfl⟩ := hQ5
    refine z_zeq rfl (fun c6 => ?_) (fun c6 => ?_)
    · refine z_const rfl ?_
      refine zsubL (L' := [zJk, zJk, zJk]) ⟨Or.inr rfl, Or.inr rfl, Or.inr rfl, trivial⟩ ?_
      exact zcast (by first | rfl | (simp only [if_neg c1, if_pos c6] <;> rfl)) (by first | rfl | (simp only [if_neg c1, if_pos c6] <;> rfl)) hJ12
    · refine z_aload rfl rfl rfl ?_
      refine z_iload rfl rfl ?_
      refine z_inv1 (d' := d - 1) (As := [.inl x2]) rfl rfl (zf_Ox_isOx (by omega) _) rfl rfl rfl (by omega) rfl (fun r7 h8 hR9 hQ10 => ?_)
      obtain ⟨rfl, rfl⟩ := hQ10
      refine z_zeq rfl (fun c11 => ?_) (fun c11 => ?_)
      · refine z_const rfl ?_
        refine zsubL (L' := [zJk, zJk, zJk]) ⟨Or.inr rfl, Or.inr rfl, Or.inr rfl, trivial⟩ ?_
        exact zcast (by first | rfl | (simp only [if_neg c1, if_neg c6, if_pos c11] <;> rfl)) (by first | rfl | (simp only [if_neg c1, if_neg c6, if_pos c11] <;> rfl)) hJ12
      · refine z_const rfl ?_
        refine z_goto rfl ?_
        refine zsubL (L' := [zJk, zJk, zJk]) ⟨Or.inr rfl, Or.inr rfl, Or.inr rfl, trivial⟩ ?_
        exact zcast (by first | rfl | (simp only [if_neg c1, if_neg c6, if_neg c11] <;> rfl)) (by first | rfl | (simp only [if_neg c1, if_neg c6, if_neg c11] <;> rfl)) hJ12
set_option maxRecDepth 100000 in
theorem zf_Ox_isPair {l : Launch} {E : zE} {d : Nat} (hd : 4 ≤ d) (x1 x2 : Int) {h : zHp} : zC l E d zm_Ox_isPair [.inr (.inr 0), .inl x1, .inl x2] h (fun r1 h1 => sh_Ox_isPair x1 x2 h = r1 ∧ h = h1) :=
  zC_of zk_Ox_isPair (by decide) rfl rfl (Nat.le_of_ble_eq_true rfl) (zw_Ox_isPair hd _ _ rfl ⟨rfl, rfl⟩)
theorem zb_Ox_isPair (x1 x2 : Int) (h : zHp) : sh_Ox_isPair x1 x2 h = 0 ∨ sh_Ox_isPair x1 x2 h = 1 := by
  unfold sh_Ox_isPair
  exact zor_ite (Or.inl rfl) (zor_ite (Or.inl rfl) (zor_ite (Or.inl rfl) (Or.inr rfl)))
def sh_Ox_isField (x1 : Int) (h : zHp) : Int := sh_Ox_within x1 0 (w32 ((sh_Herd_fields_14 h) - 1))
set_option maxRecDepth 100000 in
set_option maxHeartbeats 4000000 in
theorem zw_Ox_isField {l : Launch} {E : zE} {d : Nat} (hd : 3 ≤ d) (x1 : Int) {h : zHp} {Q : Int → zHp → Prop} {r0 : Int} (hF : sh_Ox_isField x1 h = r0) (K : Q r0 h) : zW l E d zm_Ox_isField 0 [.inr (.inr 0), .inl x1] [] h Q := by
  rw [sh_Ox_isField] at hF
  refine z_iload rfl rfl ?_
  refine z_const rfl ?_
  refine z_aload rfl rfl rfl ?_
  refine z_getr (r := 1) rfl rfl rfl rfl ?_
  refine z_getr (r := 14) rfl rfl rfl rfl ?_
  refine z_inv1 (d' := d - 1) (As := []) rfl rfl (zf_Herd_fields_14 (by omega)) rfl rfl rfl (by omega) rfl (fun r1 h2 hR3 hQ4 => ?_)
  obtain ⟨rfl, rfl⟩ := hQ4
  refine z_const rfl ?_
  refine z_isub rfl ?_
  refine z_ivs1 (d' := d - 1) (As := [.inl x1, .inl 0, .inl (w32 ((sh_Herd_fields_14 h) - 1))]) rfl rfl (zf_Ox_within (by omega) _ _ _) rfl (by omega) rfl (fun r5 h6 hR7 hQ8 => ?_)
  obtain ⟨rfl, rfl⟩ := hQ8
  subst hF
  exact z_zret rfl rfl (zRr_z rfl hR7) K
set_option maxRecDepth 100000 in
theorem zf_Ox_isField {l : Launch} {E : zE} {d : Nat} (hd : 3 ≤ d) (x1 : Int) {h : zHp} : zC l E d zm_Ox_isField [.inr (.inr 0), .inl x1] h (fun r1 h1 => sh_Ox_isField x1 h = r1 ∧ h = h1) :=
  zC_of zk_Ox_isField (by decide) rfl rfl (Nat.le_of_ble_eq_true rfl) (zw_Ox_isField hd _ rfl ⟨rfl, rfl⟩)
theorem zb_Ox_isField (x1 : Int) (h : zHp) : sh_Ox_isField x1 h = 0 ∨ sh_Ox_isField x1 h = 1 := by
  unfold sh_Ox_isField
  exact zb_Ox_within _ _ _
def sh_Herd_get_14 (x1 x2 : Int) (h : zHp) : Int := rget h 16 71 (w32 ((w32 (7 + (w32 (x1 * 8)))) + x2))
set_option maxRecDepth 100000 in
set_option maxHeartbeats 4000000 in
theorem zw_Herd_get_14 {l : Launch} {E : zE} {d : Nat} (hd : 2 ≤ d) (x1 x2 : Int) {h : zHp} {Q : Int → zHp → Prop} {r0 : Int} (hF : sh_Herd_get_14 x1 x2 h = r0) (K : Q r0 h) : zW l E d zm_Herd_get 0 [.inr (.inr 14), .inl x1, .inl x2] [] h Q := by
  rw [sh_Herd_get_14] at hF
  refine z_aload rfl rfl rfl ?_
  refine z_getr (r := 15) rfl rfl rfl rfl ?_
  refine z_const rfl ?_
  refine z_iload rfl rfl ?_
  refine z_const rfl ?_
  refine z_imul rfl ?_
  refine z_iadd rfl ?_
  refine z_iload rfl rfl ?_
  refine z_iadd rfl ?_
  refine z_inv1 (d' := d - 1) (As := [.inl (w32 ((w32 (7 + (w32 (x1 * 8)))) + x2))]) rfl rfl (zf_Row_get (r := 15) (a := 16) (n := 71) rfl rfl _) rfl rfl rfl (by omega) rfl (fun r1 h2 hR3 hQ4 => ?_)
  obtain ⟨rfl, rfl⟩ := hQ4
  subst hF
  exact z_iret rfl rfl K
set_option maxRecDepth 100000 in
theorem zf_Herd_get_14 {l : Launch} {E : zE} {d : Nat} (hd : 2 ≤ d) (x1 x2 : Int) {h : zHp} : zC l E d zm_Herd_get [.inr (.inr 14), .inl x1, .inl x2] h (fun r1 h1 => sh_Herd_get_14 x1 x2 h = r1 ∧ h = h1) :=
  zC_of zk_Herd_get (by decide) rfl rfl (Nat.le_of_ble_eq_true rfl) (zw_Herd_get_14 hd _ _ rfl ⟨rfl, rfl⟩)
def sh_Ox_canBeYoked (x1 x2 : Int) (h : zHp) : Int := (if sh_Herd_get_14 x1 6 h < 10 then 1 else (if sh_Herd_get_14 x1 6 h = w32 (10 + x2) then (if sh_Herd_get_14 x1 7 h = (-1) then 1 else 0 : Int) else 0 : Int) : Int)
set_option maxRecDepth 100000 in
set_option maxHeartbeats 4000000 in
theorem zw_Ox_canBeYoked {l : Launch} {E : zE} {d : Nat} (hd : 3 ≤ d) (x1 x2 : Int) {h : zHp} {Q : Int → zHp → Prop} {r0 : Int} (hF : sh_Ox_canBeYoked x1 x2 h = r0) (K : Q r0 h) : zW l E d zm_Ox_canBeYoked 0 [.inr (.inr 0), .inl x1, .inl x2, zJk] [] h Q := by
  rw [sh_Ox_canBeYoked] at hF
  refine z_aload rfl rfl rfl ?_
  refine z_getr (r := 1) rfl rfl rfl rfl ?_
  refine z_getr (r := 14) rfl rfl rfl rfl ?_
  refine z_iload rfl rfl ?_
  refine z_const rfl ?_
  refine z_inv1 (d' := d - 1) (As := [.inl x1, .inl 6]) rfl rfl (zf_Herd_get_14 (by omega) _ _) rfl rfl rfl (by omega) rfl (fun r1 h2 hR3 hQ4 => ?_)
  obtain ⟨rfl, rfl⟩ := hQ4
  refine z_istore rfl rfl rfl ?_
  refine z_iload rfl rfl ?_
  refine z_const rfl ?_
  have hJ12 : zW l E d zm_Ox_canBeYoked 26 [zJk, zJk, zJk, zJk] [.inl (if sh_Herd_get_14 x1 6 h < 10 then 1 else (if sh_Herd_get_14 x1 6 h = w32 (10 + x2) then (if sh_Herd_get_14 x1 7 h = (-1) then 1 else 0 : Int) else 0 : Int) : Int)] h Q := by
    subst hF
    exact z_zret rfl rfl (zor_ite (Or.inr rfl) (zor_ite (zor_ite (Or.inr rfl) (Or.inl rfl)) (Or.inl rfl))) K
  refine z_clt rfl (fun c5 => ?_) (fun c5 => ?_)
  · refine z_const rfl ?_
    refine z_goto rfl ?_
    refine zsubL (L' := [zJk, zJk, zJk, zJk]) ⟨Or.inr rfl, Or.inr rfl, Or.inr rfl, Or.inr rfl, trivial⟩ ?_
    exact zcast (by first | rfl | (simp only [if_pos c5] <;> rfl)) (by first | rfl | (simp only [if_pos c5] <;> rfl)) hJ12
  · refine z_iload rfl rfl ?_
    refine z_const rfl ?_
    refine z_iload rfl rfl ?_
    refine z_iadd rfl ?_
    refine z_cne rfl (fun c6 => ?_) (fun c6 => ?_)
    · refine z_const rfl ?_
      refine zsubL (L' := [zJk, zJk, zJk, zJk]) ⟨Or.inr rfl, Or.inr rfl, Or.inr rfl, Or.inr rfl, trivial⟩ ?_
      exact zcast (by first | rfl | (simp only [if_neg c5, if_neg c6] <;> rfl)) (by first | rfl | (simp only [if_neg c5, if_neg c6] <;> rfl)) hJ12
    · refine z_aload rfl rfl rfl ?_
      refine z_getr (r := 1) rfl rfl rfl rfl ?_
      refine z_getr (r := 14) rfl rfl rfl rfl ?_
      refine z_iload rfl rfl ?_
      refine z_const rfl ?_
      refine z_inv1 (d' := d - 1) (As := [.inl x1, .inl 7]) rfl rfl (zf_Herd_get_14 (by omega) _ _) rfl rfl rfl (by omega) rfl (fun r7 h8 hR9 hQ10 => ?_)
      obtain ⟨rfl, rfl⟩ := hQ10
      refine z_const rfl ?_
      refine z_cne rfl (fun c11 => ?_) (fun c11 => ?_)
      · refine z_const rfl ?_
        refine zsubL (L' := [zJk, zJk, zJk, zJk]) ⟨Or.inr rfl, Or.inr rfl, Or.inr rfl, Or.inr rfl, trivial⟩ ?_
        exact zcast (by first | rfl | (simp only [if_neg c5, if_pos c6, if_neg c11] <;> rfl)) (by first | rfl | (simp only [if_neg c5, if_pos c6, if_neg c11] <;> rfl)) hJ12
      · refine z_const rfl ?_
        refine z_goto rfl ?_
        refine zsubL (L' := [zJk, zJk, zJk, zJk]) ⟨Or.inr rfl, Or.inr rfl, Or.inr rfl, Or.inr rfl, trivial⟩ ?_
        exact zcast (by first | rfl | (simp only [if_neg c5, if_pos c6, if_pos c11] <;> rfl)) (by first | rfl | (simp only [if_neg c5, if_pos c6, if_pos c11] <;> rfl)) hJ12
set_option maxRecDepth 100000 in
theorem zf_Ox_canBeYoked {l : Launch} {E : zE} {d : Nat} (hd : 3 ≤ d) (x1 x2 : Int) {h : zHp} : zC l E d zm_Ox_canBeYoked [.inr (.inr 0), .inl x1, .inl x2] h (fun r1 h1 => sh_Ox_canBeYoked x1 x2 h = r1 ∧ h = h1) :=
  zC_of zk_Ox_canBeYoked (by decide) rfl rfl (Nat.le_of_ble_eq_true rfl) (zw_Ox_canBeYoked hd _ _ rfl ⟨rfl, rfl⟩)
theorem zb_Ox_canBeYoked (x1 x2 : Int) (h : zHp) : sh_Ox_canBeYoked x1 x2 h = 0 ∨ sh_Ox_canBeYoked x1 x2 h = 1 := by
  unfold sh_Ox_canBeYoked
  exact zor_ite (Or.inr rfl) (zor_ite (zor_ite (Or.inr rfl) (Or.inl rfl)) (Or.inl rfl))
def sh_Herd_writeTo_14_18 (x2 : Int) (h : zHp) : zHp := rpart h 19 1420 16 71 x2 0 71
set_option maxRecDepth 100000 in
set_option maxHeartbeats 4000000 in
theorem zw_Herd_writeTo_14_18 {l : Launch} {E : zE} {d : Nat} (hd : 3 ≤ d) (x2 : Int) {h : zHp} {Q : Int → zHp → Prop} {h0 : zHp} (hF : sh_Herd_writeTo_14_18 x2 h = h0) (K : Q 0 h0) : zW l E d zm_Herd_writeTo 0 [.inr (.inr 14), .inr (.inr 18), .inl x2] [] h Q := by
  rw [sh_Herd_writeTo_14_18] at hF
  refine z_aload rfl rfl rfl ?_
  refine z_iload rfl rfl ?_
  refine z_aload rfl rfl rfl ?_
  refine z_getr (r := 15) rfl rfl rfl rfl ?_
  refine z_const rfl ?_
  refine z_const rfl ?_
  refine z_inv0 (d' := d - 1) (As := [.inl x2, .inr (.inr 15), .inl 0, .inl 71]) rfl rfl (zf_Row_copyPart (r := 18) (a := 19) (n := 1420) (r2 := 15) (b := 16) (m := 71) rfl rfl rfl rfl (by omega) _ _ _) rfl rfl rfl (by omega) rfl (fun r1 h2 hR3 hQ4 => ?_)
  obtain ⟨rfl, rfl⟩ := hQ4
  subst hF
  exact z_ret rfl rfl rfl K
set_option maxRecDepth 100000 in
theorem zf_Herd_writeTo_14_18 {l : Launch} {E : zE} {d : Nat} (hd : 3 ≤ d) (x2 : Int) {h : zHp} : zC l E d zm_Herd_writeTo [.inr (.inr 14), .inr (.inr 18), .inl x2] h (fun r1 h1 => 0 = r1 ∧ sh_Herd_writeTo_14_18 x2 h = h1) :=
  zC_of zk_Herd_writeTo (by decide) rfl rfl (Nat.le_of_ble_eq_true rfl) (zw_Herd_writeTo_14_18 hd _ rfl ⟨rfl, rfl⟩)
def sh_Steps_keep_17_14 (h : zHp) : zHp := zst (zst (sh_Herd_writeTo_14_18 (w32 ((h 17 1) * 71)) h) 17 1 (w32 (((w32 ((sh_Herd_writeTo_14_18 (w32 ((h 17 1) * 71)) h 17 1) + 1))).tmod 20))) 17 2 (zmin (w32 ((zst (sh_Herd_writeTo_14_18 (w32 ((h 17 1) * 71)) h) 17 1 (w32 (((w32 ((sh_Herd_writeTo_14_18 (w32 ((h 17 1) * 71)) h 17 1) + 1))).tmod 20)) 17 2) + 1)) 20)
set_option maxRecDepth 100000 in
set_option maxHeartbeats 4000000 in
theorem zw_Steps_keep_17_14 {l : Launch} {E : zE} {d : Nat} (hd : 4 ≤ d) {h : zHp} {Q : Int → zHp → Prop} {h0 : zHp} (hF : sh_Steps_keep_17_14 h = h0) (K : Q 0 h0) : zW l E d zm_Steps_keep 0 [.inr (.inr 17), .inr (.inr 14)] [] h Q := by
  rw [sh_Steps_keep_17_14] at hF
  refine z_aload rfl rfl rfl ?_
  refine z_aload rfl rfl rfl ?_
  refine z_getr (r := 18) rfl rfl rfl rfl ?_
  refine z_aload rfl rfl rfl ?_
  refine z_geti rfl rfl rfl rfl ?_
  refine z_const rfl ?_
  refine z_imul rfl ?_
  refine z_inv0 (d' := d - 1) (As := [.inr (.inr 18), .inl (w32 ((h 17 1) * 71))]) rfl rfl (zf_Herd_writeTo_14_18 (by omega) _) rfl rfl rfl (by omega) rfl (fun r1 h2 hR3 hQ4 => ?_)
  obtain ⟨rfl, rfl⟩ := hQ4
  refine z_aload rfl rfl rfl ?_
  refine z_aload rfl rfl rfl ?_
  refine z_geti rfl rfl rfl rfl ?_
  refine z_const rfl ?_
  refine z_iadd rfl ?_
  refine z_const rfl ?_
  refine z_irem rfl (by decide) ?_
  refine z_puti rfl rfl rfl rfl ?_
  refine z_aload rfl rfl rfl ?_
  refine z_aload rfl rfl rfl ?_
  refine z_geti rfl rfl rfl rfl ?_
  refine z_const rfl ?_
  refine z_iadd rfl ?_
  refine z_const rfl ?_
  refine z_mmin rfl (by decide) (by omega) rfl ?_
  refine z_puti rfl rfl rfl rfl ?_
  subst hF
  exact z_ret rfl rfl rfl K
set_option maxRecDepth 100000 in
theorem zf_Steps_keep_17_14 {l : Launch} {E : zE} {d : Nat} (hd : 4 ≤ d) {h : zHp} : zC l E d zm_Steps_keep [.inr (.inr 17), .inr (.inr 14)] h (fun r1 h1 => 0 = r1 ∧ sh_Steps_keep_17_14 h = h1) :=
  zC_of zk_Steps_keep (by decide) rfl rfl (Nat.le_of_ble_eq_true rfl) (zw_Steps_keep_17_14 hd rfl ⟨rfl, rfl⟩)
def sh_Yard_keepStep_1 (h : zHp) : zHp := sh_Steps_keep_17_14 h
set_option maxRecDepth 100000 in
set_option maxHeartbeats 4000000 in
theorem zw_Yard_keepStep_1 {l : Launch} {E : zE} {d : Nat} (hd : 5 ≤ d) {h : zHp} {Q : Int → zHp → Prop} {h0 : zHp} (hF : sh_Yard_keepStep_1 h = h0) (K : Q 0 h0) : zW l E d zm_Yard_keepStep 0 [.inr (.inr 1)] [] h Q := by
  rw [sh_Yard_keepStep_1] at hF
  refine z_aload rfl rfl rfl ?_
  refine z_getr (r := 17) rfl rfl rfl rfl ?_
  refine z_aload rfl rfl rfl ?_
  refine z_getr (r := 14) rfl rfl rfl rfl ?_
  refine z_inv0 (d' := d - 1) (As := [.inr (.inr 14)]) rfl rfl (zf_Steps_keep_17_14 (by omega)) rfl rfl rfl (by omega) rfl (fun r1 h2 hR3 hQ4 => ?_)
  obtain ⟨rfl, rfl⟩ := hQ4
  subst hF
  exact z_ret rfl rfl rfl K
set_option maxRecDepth 100000 in
theorem zf_Yard_keepStep_1 {l : Launch} {E : zE} {d : Nat} (hd : 5 ≤ d) {h : zHp} : zC l E d zm_Yard_keepStep [.inr (.inr 1)] h (fun r1 h1 => 0 = r1 ∧ sh_Yard_keepStep_1 h = h1) :=
  zC_of zk_Yard_keepStep (by decide) rfl rfl (Nat.le_of_ble_eq_true rfl) (zw_Yard_keepStep_1 hd rfl ⟨rfl, rfl⟩)
def sh_Ox_yoke (x1 x2 x3 : Int) (h : zHp) : Option (Int × zHp) := (if sh_Ox_isPair x1 x2 h = 0 then some (0, h) else (if sh_Ox_isField x3 h = 0 then some (0, h) else (if sh_Ox_canBeYoked x1 x3 h = 0 then some (0, h) else (if sh_Ox_canBeYoked x2 x3 h = 0 then some (0, h) else some (1, sh_Herd_put_14 x2 7 x1 (sh_Herd_put_14 x1 7 x2 (sh_Herd_put_14 x2 6 (w32 (10 + x3)) (sh_Herd_put_14 x1 6 (w32 (10 + x3)) (sh_Yard_keepStep_1 h)))))))))
set_option maxRecDepth 100000 in
set_option maxHeartbeats 4000000 in
theorem zw_Ox_yoke {l : Launch} {E : zE} {d : Nat} (hd : 6 ≤ d) (x1 x2 x3 : Int) {h : zHp} {Q : Int → zHp → Prop} {r0 : Int} {h0 : zHp} (hF : sh_Ox_yoke x1 x2 x3 h = some (r0, h0)) (K : Q r0 h0) : zW l E d zm_Ox_yoke 0 [.inr (.inr 0), .inl x1, .inl x2, .inl x3] [] h Q := by
  rw [sh_Ox_yoke] at hF
  refine z_aload rfl rfl rfl ?_
  refine z_iload rfl rfl ?_
  refine z_iload rfl rfl ?_
  refine z_inv1 (d' := d - 1) (As := [.inl x1, .inl x2]) rfl rfl (zf_Ox_isPair (by omega) _ _) rfl rfl rfl (by omega) rfl (fun r1 h2 hR3 hQ4 => ?_)
  obtain ⟨rfl, rfl⟩ := hQ4
  refine z_zeq rfl (fun c5 => ?_) (fun c5 => ?_)
  · rw [if_pos c5] at hF
    refine z_const rfl ?_
    obtain ⟨rfl, rfl⟩ := zinj2 hF
    exact z_zret rfl rfl (Or.inl rfl) K
  · rw [if_neg c5] at hF
    refine z_aload rfl rfl rfl ?_
    refine z_iload rfl rfl ?_
    refine z_inv1 (d' := d - 1) (As := [.inl x3]) rfl rfl (zf_Ox_isField (by omega) _) rfl rfl rfl (by omega) rfl (fun r6 h7 hR8 hQ9 => ?_)
    obtain ⟨rfl, rfl⟩ := hQ9
    refine z_zne rfl (fun c10 => ?_) (fun c10 => ?_)
    · rw [if_neg c10] at hF
      refine z_aload rfl rfl rfl ?_
      refine z_iload rfl rfl ?_
      refine z_iload rfl rfl ?_
      refine z_inv1 (d' := d - 1) (As := [.inl x1, .inl x3]) rfl rfl (zf_Ox_canBeYoked (by omega) _ _) rfl rfl rfl (by omega) rfl (fun r11 h12 hR13 hQ14 => ?_)
      obtain ⟨rfl, rfl⟩ := hQ14
      refine z_zeq rfl (fun c15 => ?_) (fun c15 => ?_)
      · rw [if_pos c15] at hF
        refine z_const rfl ?_
        obtain ⟨rfl, rfl⟩ := zinj2 hF
        exact z_zret rfl rfl (Or.inl rfl) K
      · rw [if_neg c15] at hF
        refine z_aload rfl rfl rfl ?_
        refine z_iload rfl rfl ?_
        refine z_iload rfl rfl ?_
        refine z_inv1 (d' := d - 1) (As := [.inl x2, .inl x3]) rfl rfl (zf_Ox_canBeYoked (by omega) _ _) rfl rfl rfl (by omega) rfl (fun r16 h17 hR18 hQ19 => ?_)
        obtain ⟨rfl, rfl⟩ := hQ19
        refine z_zne rfl (fun c20 => ?_) (fun c20 => ?_)
        · rw [if_neg c20] at hF
          refine z_aload rfl rfl rfl ?_
          refine z_getr (r := 1) rfl rfl rfl rfl ?_
          refine z_inv0 (d' := d - 1) (As := []) rfl rfl (zf_Yard_keepStep_1 (by omega)) rfl rfl rfl (by omega) rfl (fun r21 h22 hR23 hQ24 => ?_)
          obtain ⟨rfl, rfl⟩ := hQ24
          refine z_aload rfl rfl rfl ?_
          refine z_getr (r := 1) rfl rfl rfl rfl ?_
          refine z_getr (r := 14) rfl rfl rfl rfl ?_
          refine z_iload rfl rfl ?_
          refine z_const rfl ?_
          refine z_const rfl ?_
          refine z_iload rfl rfl ?_
          refine z_iadd rfl ?_
          refine z_inv0 (d' := d - 1) (As := [.inl x1, .inl 6, .inl (w32 (10 + x3))]) rfl rfl (zf_Herd_put_14 (by omega) _ _ _) rfl rfl rfl (by omega) rfl (fun r25 h26 hR27 hQ28 => ?_)
          obtain ⟨rfl, rfl⟩ := hQ28
          refine z_aload rfl rfl rfl ?_
          refine z_getr (r := 1) rfl rfl rfl rfl ?_
          refine z_getr (r := 14) rfl rfl rfl rfl ?_
          refine z_iload rfl rfl ?_
          refine z_const rfl ?_
          refine z_const rfl ?_
          refine z_iload rfl rfl ?_
          refine z_iadd rfl ?_
          refine z_inv0 (d' := d - 1) (As := [.inl x2, .inl 6, .inl (w32 (10 + x3))]) rfl rfl (zf_Herd_put_14 (by omega) _ _ _) rfl rfl rfl (by omega) rfl (fun r29 h30 hR31 hQ32 => ?_)
          obtain ⟨rfl, rfl⟩ := hQ32
          refine z_aload rfl rfl rfl ?_
          refine z_getr (r := 1) rfl rfl rfl rfl ?_
          refine z_getr (r := 14) rfl rfl rfl rfl ?_
          refine z_iload rfl rfl ?_
          refine z_const rfl ?_
          refine z_iload rfl rfl ?_
          refine z_inv0 (d' := d - 1) (As := [.inl x1, .inl 7, .inl x2]) rfl rfl (zf_Herd_put_14 (by omega) _ _ _) rfl rfl rfl (by omega) rfl (fun r33 h34 hR35 hQ36 => ?_)
          obtain ⟨rfl, rfl⟩ := hQ36
          refine z_aload rfl rfl rfl ?_
          refine z_getr (r := 1) rfl rfl rfl rfl ?_
          refine z_getr (r := 14) rfl rfl rfl rfl ?_
          refine z_iload rfl rfl ?_
          refine z_const rfl ?_
          refine z_iload rfl rfl ?_
          refine z_inv0 (d' := d - 1) (As := [.inl x2, .inl 7, .inl x1]) rfl rfl (zf_Herd_put_14 (by omega) _ _ _) rfl rfl rfl (by omega) rfl (fun r37 h38 hR39 hQ40 => ?_)
          obtain ⟨rfl, rfl⟩ := hQ40
          refine z_const rfl ?_
          obtain ⟨rfl, rfl⟩ := zinj2 hF
          exact z_zret rfl rfl (Or.inr rfl) K
        · rw [if_pos c20] at hF
          refine z_const rfl ?_
          obtain ⟨rfl, rfl⟩ := zinj2 hF
          exact z_zret rfl rfl (Or.inl rfl) K
    · rw [if_pos c10] at hF
      refine z_const rfl ?_
      obtain ⟨rfl, rfl⟩ := zinj2 hF
      exact z_zret rfl rfl (Or.inl rfl) K
set_option maxRecDepth 100000 in
theorem zf_Ox_yoke {l : Launch} {E : zE} {d : Nat} (hd : 6 ≤ d) (x1 x2 x3 : Int) {h : zHp} {r0 : Int} {h0 : zHp} (hF : sh_Ox_yoke x1 x2 x3 h = some (r0, h0)) : zC l E d zm_Ox_yoke [.inr (.inr 0), .inl x1, .inl x2, .inl x3] h (fun r1 h1 => r0 = r1 ∧ h0 = h1) :=
  zC_of zk_Ox_yoke (by decide) rfl rfl (Nat.le_of_ble_eq_true rfl) (zw_Ox_yoke hd _ _ _ hF ⟨rfl, rfl⟩)
def sh_Mo_isField (x1 : Int) (h : zHp) : Int := sh_Mo_isIn x1 0 (w32 ((h 86 1) - 1))
set_option maxRecDepth 100000 in
set_option maxHeartbeats 4000000 in
theorem zw_Mo_isField {l : Launch} {E : zE} {d : Nat} (hd : 2 ≤ d) (x1 : Int) {h : zHp} {Q : Int → zHp → Prop} {r0 : Int} (hF : sh_Mo_isField x1 h = r0) (K : Q r0 h) : zW l E d zm_Mo_isField 0 [.inr (.inr 85), .inl x1] [] h Q := by
  rw [sh_Mo_isField] at hF
  refine z_iload rfl rfl ?_
  refine z_const rfl ?_
  refine z_aload rfl rfl rfl ?_
  refine z_getr (r := 86) rfl rfl rfl rfl ?_
  refine z_const rfl ?_
  refine z_ialdc 1 rfl rfl rfl (by decide) ?_
  refine z_const rfl ?_
  refine z_isub rfl ?_
  refine z_ivs1 (d' := d - 1) (As := [.inl x1, .inl 0, .inl (w32 ((h 86 1) - 1))]) rfl rfl (zf_Mo_isIn (by omega) _ _ _) rfl (by omega) rfl (fun r1 h2 hR3 hQ4 => ?_)
  obtain ⟨rfl, rfl⟩ := hQ4
  subst hF
  exact z_zret rfl rfl (zRr_z rfl hR3) K
set_option maxRecDepth 100000 in
theorem zf_Mo_isField {l : Launch} {E : zE} {d : Nat} (hd : 2 ≤ d) (x1 : Int) {h : zHp} : zC l E d zm_Mo_isField [.inr (.inr 85), .inl x1] h (fun r1 h1 => sh_Mo_isField x1 h = r1 ∧ h = h1) :=
  zC_of zk_Mo_isField (by decide) rfl rfl (Nat.le_of_ble_eq_true rfl) (zw_Mo_isField hd _ rfl ⟨rfl, rfl⟩)
theorem zb_Mo_isField (x1 : Int) (h : zHp) : sh_Mo_isField x1 h = 0 ∨ sh_Mo_isField x1 h = 1 := by
  unfold sh_Mo_isField
  exact zb_Mo_isIn _ _ _
def sh_Mo_isOx (x1 : Int) (h : zHp) : Int := sh_Mo_isIn x1 0 (w32 ((h 86 2) - 1))
set_option maxRecDepth 100000 in
set_option maxHeartbeats 4000000 in
theorem zw_Mo_isOx {l : Launch} {E : zE} {d : Nat} (hd : 2 ≤ d) (x1 : Int) {h : zHp} {Q : Int → zHp → Prop} {r0 : Int} (hF : sh_Mo_isOx x1 h = r0) (K : Q r0 h) : zW l E d zm_Mo_isOx 0 [.inr (.inr 85), .inl x1] [] h Q := by
  rw [sh_Mo_isOx] at hF
  refine z_iload rfl rfl ?_
  refine z_const rfl ?_
  refine z_aload rfl rfl rfl ?_
  refine z_getr (r := 86) rfl rfl rfl rfl ?_
  refine z_const rfl ?_
  refine z_ialdc 2 rfl rfl rfl (by decide) ?_
  refine z_const rfl ?_
  refine z_isub rfl ?_
  refine z_ivs1 (d' := d - 1) (As := [.inl x1, .inl 0, .inl (w32 ((h 86 2) - 1))]) rfl rfl (zf_Mo_isIn (by omega) _ _ _) rfl (by omega) rfl (fun r1 h2 hR3 hQ4 => ?_)
  obtain ⟨rfl, rfl⟩ := hQ4
  subst hF
  exact z_zret rfl rfl (zRr_z rfl hR3) K
set_option maxRecDepth 100000 in
theorem zf_Mo_isOx {l : Launch} {E : zE} {d : Nat} (hd : 2 ≤ d) (x1 : Int) {h : zHp} : zC l E d zm_Mo_isOx [.inr (.inr 85), .inl x1] h (fun r1 h1 => sh_Mo_isOx x1 h = r1 ∧ h = h1) :=
  zC_of zk_Mo_isOx (by decide) rfl rfl (Nat.le_of_ble_eq_true rfl) (zw_Mo_isOx hd _ rfl ⟨rfl, rfl⟩)
theorem zb_Mo_isOx (x1 : Int) (h : zHp) : sh_Mo_isOx x1 h = 0 ∨ sh_Mo_isOx x1 h = 1 := by
  unfold sh_Mo_isOx
  exact zb_Mo_isIn _ _ _
def sh_Mo_told (N : Nat) (x1 x2 : Int) (h : zHp) : Option Int := if 0 ≤ w32 ((w32 (41 + (w32 (8 * x1)))) + x2) ∧ w32 ((w32 (41 + (w32 (8 * x1)))) + x2) < 1061 then some (h 86 (w32 ((w32 (41 + (w32 (8 * x1)))) + x2)).toNat) else none
set_option maxRecDepth 100000 in
set_option maxHeartbeats 4000000 in
theorem zw_Mo_told {l : Launch} {E : zE} {d : Nat} (hd : 1 ≤ d) (N : Nat) (x1 x2 : Int) {h : zHp} {Q : Int → zHp → Prop} {r0 : Int} (hF : sh_Mo_told N x1 x2 h = some r0) (K : Q r0 h) : zW l E d zm_Mo_told 0 [.inr (.inr 85), .inl x1, .inl x2] [] h Q := by
  rw [sh_Mo_told] at hF
  refine z_aload rfl rfl rfl ?_
  refine z_getr (r := 86) rfl rfl rfl rfl ?_
  refine z_const rfl ?_
  refine z_const rfl ?_
  refine z_iload rfl rfl ?_
  refine z_imul rfl ?_
  refine z_iadd rfl ?_
  refine z_iload rfl rfl ?_
  refine z_iadd rfl ?_
  obtain ⟨g1, hF⟩ := zguard hF
  refine z_iald rfl rfl g1.1 g1.2 ?_
  obtain rfl := Option.some.inj hF
  exact z_iret rfl rfl K
set_option maxRecDepth 100000 in
theorem zf_Mo_told {l : Launch} {E : zE} {d : Nat} (hd : 1 ≤ d) (N : Nat) (x1 x2 : Int) {h : zHp} {r0 : Int} (hF : sh_Mo_told N x1 x2 h = some r0) : zC l E d zm_Mo_told [.inr (.inr 85), .inl x1, .inl x2] h (fun r1 h1 => r0 = r1 ∧ h = h1) :=
  zC_of zk_Mo_told (by decide) rfl rfl (Nat.le_of_ble_eq_true rfl) (zw_Mo_told hd N _ _ hF ⟨rfl, rfl⟩)
def sh_Mo_canCome (N : Nat) (x1 x2 : Int) (h : zHp) : Option Int := (if sh_Mo_isOx x1 h = 0 then some 0 else zb1 (sh_Mo_told N x1 6 h) fun r12 => if r12 < 10 then some 1 else zb1 (sh_Mo_told N x1 6 h) fun r20 => if r20 = w32 (10 + x2) then zb1 (sh_Mo_told N x1 7 h) fun r28 => some (if 0 ≤ r28 then 0 else 1 : Int) else some 0)
set_option maxRecDepth 100000 in
set_option maxHeartbeats 4000000 in
theorem zw_Mo_canCome {l : Launch} {E : zE} {d : Nat} (hd : 3 ≤ d) (N : Nat) (x1 x2 : Int) {h : zHp} {Q : Int → zHp → Prop} {r0 : Int} (hF : sh_Mo_canCome N x1 x2 h = some r0) (K : Q r0 h) : zW l E d zm_Mo_canCome 0 [.inr (.inr 85), .inl x1, .inl x2] [] h Q := by
  rw [sh_Mo_canCome] at hF
  refine z_aload rfl rfl rfl ?_
  refine z_iload rfl rfl ?_
  refine z_inv1 (d' := d - 1) (As := [.inl x1]) rfl rfl (zf_Mo_isOx (by omega) _) rfl rfl rfl (by omega) rfl (fun r1 h2 hR3 hQ4 => ?_)
  obtain ⟨rfl, rfl⟩ := hQ4
  refine z_zeq rfl (fun c6 => ?_) (fun c6 => ?_)
  · rw [if_pos c6] at hF
    refine z_const rfl ?_
    obtain rfl := Option.some.inj hF
    exact z_zret rfl rfl (Or.inl rfl) K
  · rw [if_neg c6] at hF
    refine z_aload rfl rfl rfl ?_
    refine z_iload rfl rfl ?_
    refine z_const rfl ?_
    obtain ⟨r12, hc11, hF⟩ := zbind1 hF
    refine z_inv1 (d' := d - 1) (As := [.inl x1, .inl 6]) rfl rfl (zf_Mo_told (by omega) N _ _ hc11) rfl rfl rfl (by omega) rfl (fun r7 h8 hR9 hQ10 => ?_)
    obtain ⟨rfl, rfl⟩ := hQ10
    refine z_const rfl ?_
    refine z_clt rfl (fun c14 => ?_) (fun c14 => ?_)
    · rw [if_pos c14] at hF
      refine z_const rfl ?_
      refine z_goto rfl ?_
      obtain rfl := Option.some.inj hF
      exact z_zret rfl rfl (Or.inr rfl) K
    · rw [if_neg c14] at hF
      refine z_aload rfl rfl rfl ?_
      refine z_iload rfl rfl ?_
      refine z_const rfl ?_
      obtain ⟨r20, hc19, hF⟩ := zbind1 hF
      refine z_inv1 (d' := d - 1) (As := [.inl x1, .inl 6]) rfl rfl (zf_Mo_told (by omega) N _ _ hc19) rfl rfl rfl (by omega) rfl (fun r15 h16 hR17 hQ18 => ?_)
      obtain ⟨rfl, rfl⟩ := hQ18
      refine z_const rfl ?_
      refine z_iload rfl rfl ?_
      refine z_iadd rfl ?_
      refine z_cne rfl (fun c22 => ?_) (fun c22 => ?_)
      · rw [if_neg c22] at hF
        refine z_const rfl ?_
        obtain rfl := Option.some.inj hF
        exact z_zret rfl rfl (Or.inl rfl) K
      · rw [if_pos c22] at hF
        refine z_aload rfl rfl rfl ?_
        refine z_iload rfl rfl ?_
        refine z_const rfl ?_
        obtain ⟨r28, hc27, hF⟩ := zbind1 hF
        refine z_inv1 (d' := d - 1) (As := [.inl x1, .inl 7]) rfl rfl (zf_Mo_told (by omega) N _ _ hc27) rfl rfl rfl (by omega) rfl (fun r23 h24 hR25 hQ26 => ?_)
        obtain ⟨rfl, rfl⟩ := hQ26
        have hJ30 : zW l E d zm_Mo_canCome 26 [zJk, zJk, zJk] [.inl (if 0 ≤ r28 then 0 else 1 : Int)] h Q := by
          obtain rfl := Option.some.inj hF
          exact z_zret rfl rfl (zor_ite (Or.inl rfl) (Or.inr rfl)) K
        refine z_zge rfl (fun c29 => ?_) (fun c29 => ?_)
        · refine z_const rfl ?_
          refine zsubL (L' := [zJk, zJk, zJk]) ⟨Or.inr rfl, Or.inr rfl, Or.inr rfl, trivial⟩ ?_
          exact zcast (by first | rfl | (simp only [if_pos c29] <;> rfl)) (by first | rfl | (simp only [if_pos c29] <;> rfl)) hJ30
        · refine z_const rfl ?_
          refine z_goto rfl ?_
          refine zsubL (L' := [zJk, zJk, zJk]) ⟨Or.inr rfl, Or.inr rfl, Or.inr rfl, trivial⟩ ?_
          exact zcast (by first | rfl | (simp only [if_neg c29] <;> rfl)) (by first | rfl | (simp only [if_neg c29] <;> rfl)) hJ30
set_option maxRecDepth 100000 in
theorem zf_Mo_canCome {l : Launch} {E : zE} {d : Nat} (hd : 3 ≤ d) (N : Nat) (x1 x2 : Int) {h : zHp} {r0 : Int} (hF : sh_Mo_canCome N x1 x2 h = some r0) : zC l E d zm_Mo_canCome [.inr (.inr 85), .inl x1, .inl x2] h (fun r1 h1 => r0 = r1 ∧ h = h1) :=
  zC_of zk_Mo_canCome (by decide) rfl rfl (Nat.le_of_ble_eq_true rfl) (zw_Mo_canCome hd N _ _ hF ⟨rfl, rfl⟩)
def sh_Mo_keep_L72 (N : Nat) : Nat → Int → Int → zHp → Option (Int × zHp)
  | 0, _, _, _ => none
  | n + 1, x1, x2, h => (if 4 ≤ x2 then some (x1, h) else if 0 ≤ w32 ((w32 (25 + (w32 (4 * x2)))) + 3) ∧ w32 ((w32 (25 + (w32 (4 * x2)))) + 3) < 1061 then if 0 ≤ w32 ((w32 (x1 + 3)) + x2) ∧ w32 ((w32 (x1 + 3)) + x2) < 1061 then sh_Mo_keep_L72 N n x1 (w32 (x2 + 1)) (zst h 86 (w32 ((w32 (x1 + 3)) + x2)).toNat (h 86 (w32 ((w32 (25 + (w32 (4 * x2)))) + 3)).toNat)) else none else none)
def sh_Mo_keep_L116 (N : Nat) : Nat → Int → Int → Int → zHp → Option (Int × Int × zHp)
  | 0, _, _, _, _ => none
  | n + 1, x1, x2, x3, h => (if 5 ≤ x3 then some (x1, x2, h) else zb1 (sh_Mo_told N x2 (w32 ((w32 (4 + x3)) - 1)) h) fun r27 => if 0 ≤ w32 ((w32 ((w32 (x1 + 7)) + (w32 (5 * x2)))) + x3) ∧ w32 ((w32 ((w32 (x1 + 7)) + (w32 (5 * x2)))) + x3) < 1061 then sh_Mo_keep_L116 N n x1 x2 (w32 (x3 + 1)) (zst h 86 (w32 ((w32 ((w32 (x1 + 7)) + (w32 (5 * x2)))) + x3)).toNat r27) else none)
def sh_Mo_keep_L97 (N : Nat) : Nat → Int → Int → zHp → Option (zHp)
  | 0, _, _, _ => none
  | n + 1, x1, x2, h => (if 8 ≤ x2 then some h else zb1 (sh_Mo_told N x2 0 h) fun r19 => if 0 ≤ w32 ((w32 (x1 + 7)) + (w32 (5 * x2))) ∧ w32 ((w32 (x1 + 7)) + (w32 (5 * x2))) < 1061 then zb3 (sh_Mo_keep_L116 N N x1 x2 1 (zst h 86 (w32 ((w32 (x1 + 7)) + (w32 (5 * x2)))).toNat r19)) fun y30 y31 h32 => sh_Mo_keep_L97 N n y30 (w32 (y31 + 1)) h32 else none)
def sh_Mo_keep_J33 (N : Nat) (hj : zHp) : Option zHp := if 0 ≤ w32 (121 + (w32 (47 * (hj 86 7)))) ∧ w32 (121 + (w32 (47 * (hj 86 7)))) < 1061 then if 0 ≤ w32 ((w32 (121 + (w32 (47 * (hj 86 7))))) + 1) ∧ w32 ((w32 (121 + (w32 (47 * (hj 86 7))))) + 1) < 1061 then if 0 ≤ w32 ((w32 (121 + (w32 (47 * (hj 86 7))))) + 2) ∧ w32 ((w32 (121 + (w32 (47 * (hj 86 7))))) + 2) < 1061 then zb2 (sh_Mo_keep_L72 N N (w32 (121 + (w32 (47 * (hj 86 7))))) 0 (zst (zst (zst hj 86 (w32 (121 + (w32 (47 * (hj 86 7))))).toNat (hj 86 3)) 86 (w32 ((w32 (121 + (w32 (47 * (hj 86 7))))) + 1)).toNat ((zst hj 86 (w32 (121 + (w32 (47 * (hj 86 7))))).toNat (hj 86 3)) 86 1)) 86 (w32 ((w32 (121 + (w32 (47 * (hj 86 7))))) + 2)).toNat ((zst (zst hj 86 (w32 (121 + (w32 (47 * (hj 86 7))))).toNat (hj 86 3)) 86 (w32 ((w32 (121 + (w32 (47 * (hj 86 7))))) + 1)).toNat ((zst hj 86 (w32 (121 + (w32 (47 * (hj 86 7))))).toNat (hj 86 3)) 86 1)) 86 2))) fun y11 h12 => zb1 (sh_Mo_keep_L97 N N y11 0 h12) fun h34 => some (zst h34 86 7 (w32 ((h34 86 7) + 1))) else none else none else none
def sh_Mo_keep_L8 (N : Nat) : Nat → Int → zHp → Option (zHp)
  | 0, _, _ => none
  | n + 1, x1, h => (if 893 ≤ x1 then some h else if 0 ≤ w32 (168 + x1) ∧ w32 (168 + x1) < 1061 then if 0 ≤ w32 (121 + x1) ∧ w32 (121 + x1) < 1061 then sh_Mo_keep_L8 N n (w32 (x1 + 1)) (zst h 86 (w32 (121 + x1)).toNat (h 86 (w32 (168 + x1)).toNat)) else none else none)
def sh_Mo_keep (N : Nat) (h : zHp) : Option zHp := (if h 86 7 = 20 then zb1 (sh_Mo_keep_L8 N N 0 h) fun h39 => sh_Mo_keep_J33 N (zst h39 86 7 (w32 ((h39 86 7) - 1))) else sh_Mo_keep_J33 N h)
set_option maxRecDepth 100000 in
set_option maxHeartbeats 4000000 in
theorem zl_Mo_keep_L72 {l : Launch} {E : zE} {d : Nat} (hd : 2 ≤ d) (N : Nat) {Q : Int → zHp → Prop} {o1 : Int} {oh : zHp} (K1 : zW l E d zm_Mo_keep 95 [.inr (.inr 85), .inl o1, zJk, zJk] [] oh Q) : ∀ (n : Nat) (x1 x2 : Int) (h : zHp), sh_Mo_keep_L72 N n x1 x2 h = some (o1, oh) → zW l E d zm_Mo_keep 72 [.inr (.inr 85), .inl x1, .inl x2, zJk] [] h Q := by
  intro n
  induction n with
  | zero =>
    intro x1 x2 h hF
    cases (show (none : Option (Int × zHp)) = some (o1, oh) from hF)
  | succ n ih =>
    intro x1 x2 h hF
    rw [sh_Mo_keep_L72] at hF
    refine z_iload rfl rfl ?_
    refine z_const rfl ?_
    refine z_cge rfl (fun c7 => ?_) (fun c7 => ?_)
    · rw [if_pos c7] at hF
      refine zsubL (L' := [.inr (.inr 85), .inl x1, zJk, zJk]) ⟨Or.inl rfl, Or.inl rfl, Or.inr rfl, Or.inl rfl, trivial⟩ ?_
      obtain ⟨rfl, rfl⟩ := zinj2 hF
      exact K1
    · rw [if_neg c7] at hF
      refine z_aload rfl rfl rfl ?_
      refine z_getr (r := 86) rfl rfl rfl rfl ?_
      refine z_iload rfl rfl ?_
      refine z_const rfl ?_
      refine z_iadd rfl ?_
      refine z_iload rfl rfl ?_
      refine z_iadd rfl ?_
      refine z_aload rfl rfl rfl ?_
      refine z_getr (r := 86) rfl rfl rfl rfl ?_
      refine z_const rfl ?_
      refine z_const rfl ?_
      refine z_iload rfl rfl ?_
      refine z_imul rfl ?_
      refine z_iadd rfl ?_
      refine z_const rfl ?_
      refine z_iadd rfl ?_
      obtain ⟨g8, hF⟩ := zguard hF
      refine z_iald rfl rfl g8.1 g8.2 ?_
      obtain ⟨g9, hF⟩ := zguard hF
      refine z_iast rfl rfl g9.1 g9.2 ?_
      refine z_iinc rfl rfl rfl ?_
      refine z_goto rfl ?_
      exact ih _ _ _ hF
set_option maxRecDepth 100000 in
set_option maxHeartbeats 4000000 in
theorem zl_Mo_keep_L116 {l : Launch} {E : zE} {d : Nat} (hd : 2 ≤ d) (N : Nat) {Q : Int → zHp → Prop} {o1 o2 : Int} {oh : zHp} (K1 : zW l E d zm_Mo_keep 141 [.inr (.inr 85), .inl o1, .inl o2, zJk] [] oh Q) : ∀ (n : Nat) (x1 x2 x3 : Int) (h : zHp), sh_Mo_keep_L116 N n x1 x2 x3 h = some (o1, o2, oh) → zW l E d zm_Mo_keep 116 [.inr (.inr 85), .inl x1, .inl x2, .inl x3] [] h Q := by
  intro n
  induction n with
  | zero =>
    intro x1 x2 x3 h hF
    cases (show (none : Option (Int × Int × zHp)) = some (o1, o2, oh) from hF)
  | succ n ih =>
    intro x1 x2 x3 h hF
    rw [sh_Mo_keep_L116] at hF
    refine z_iload rfl rfl ?_
    refine z_const rfl ?_
    refine z_cge rfl (fun c21 => ?_) (fun c21 => ?_)
    · rw [if_pos c21] at hF
      refine zsubL (L' := [.inr (.inr 85), .inl x1, .inl x2, zJk]) ⟨Or.inl rfl, Or.inl rfl, Or.inl rfl, Or.inr rfl, trivial⟩ ?_
      obtain ⟨rfl, rfl, rfl⟩ := zinj3 hF
      exact K1
    · rw [if_neg c21] at hF
      refine z_aload rfl rfl rfl ?_
      refine z_getr (r := 86) rfl rfl rfl rfl ?_
      refine z_iload rfl rfl ?_
      refine z_const rfl ?_
      refine z_iadd rfl ?_
      refine z_const rfl ?_
      refine z_iload rfl rfl ?_
      refine z_imul rfl ?_
      refine z_iadd rfl ?_
      refine z_iload rfl rfl ?_
      refine z_iadd rfl ?_
      refine z_aload rfl rfl rfl ?_
      refine z_iload rfl rfl ?_
      refine z_const rfl ?_
      refine z_iload rfl rfl ?_
      refine z_iadd rfl ?_
      refine z_const rfl ?_
      refine z_isub rfl ?_
      obtain ⟨r27, hc26, hF⟩ := zbind1 hF
      refine z_inv1 (d' := d - 1) (As := [.inl x2, .inl (w32 ((w32 (4 + x3)) - 1))]) rfl rfl (zf_Mo_told (by omega) N _ _ hc26) rfl rfl rfl (by omega) rfl (fun r22 h23 hR24 hQ25 => ?_)
      obtain ⟨rfl, rfl⟩ := hQ25
      obtain ⟨g28, hF⟩ := zguard hF
      refine z_iast rfl rfl g28.1 g28.2 ?_
      refine z_iinc rfl rfl rfl ?_
      refine z_goto rfl ?_
      exact ih _ _ _ _ hF
set_option maxRecDepth 100000 in
set_option maxHeartbeats 4000000 in
theorem zl_Mo_keep_L97 {l : Launch} {E : zE} {d : Nat} (hd : 2 ≤ d) (N : Nat) {Q : Int → zHp → Prop} {oh : zHp} (K1 : zW l E d zm_Mo_keep 143 [.inr (.inr 85), zJk, zJk, zJk] [] oh Q) : ∀ (n : Nat) (x1 x2 : Int) (h : zHp), sh_Mo_keep_L97 N n x1 x2 h = some oh → zW l E d zm_Mo_keep 97 [.inr (.inr 85), .inl x1, .inl x2, zJk] [] h Q := by
  intro n
  induction n with
  | zero =>
    intro x1 x2 h hF
    cases (show (none : Option (zHp)) = some oh from hF)
  | succ n ih =>
    intro x1 x2 h hF
    rw [sh_Mo_keep_L97] at hF
    refine z_iload rfl rfl ?_
    refine z_const rfl ?_
    refine z_cge rfl (fun c13 => ?_) (fun c13 => ?_)
    · rw [if_pos c13] at hF
      refine zsubL (L' := [.inr (.inr 85), zJk, zJk, zJk]) ⟨Or.inl rfl, Or.inr rfl, Or.inr rfl, Or.inl rfl, trivial⟩ ?_
      obtain rfl := Option.some.inj hF
      exact K1
    · rw [if_neg c13] at hF
      refine z_aload rfl rfl rfl ?_
      refine z_getr (r := 86) rfl rfl rfl rfl ?_
      refine z_iload rfl rfl ?_
      refine z_const rfl ?_
      refine z_iadd rfl ?_
      refine z_const rfl ?_
      refine z_iload rfl rfl ?_
      refine z_imul rfl ?_
      refine z_iadd rfl ?_
      refine z_aload rfl rfl rfl ?_
      refine z_iload rfl rfl ?_
      refine z_const rfl ?_
      obtain ⟨r19, hc18, hF⟩ := zbind1 hF
      refine z_inv1 (d' := d - 1) (As := [.inl x2, .inl 0]) rfl rfl (zf_Mo_told (by omega) N _ _ hc18) rfl rfl rfl (by omega) rfl (fun r14 h15 hR16 hQ17 => ?_)
      obtain ⟨rfl, rfl⟩ := hQ17
      obtain ⟨g20, hF⟩ := zguard hF
      refine z_iast rfl rfl g20.1 g20.2 ?_
      refine z_const rfl ?_
      refine z_istore rfl rfl rfl ?_
      obtain ⟨y30, y31, h32, hL29, hF⟩ := zbind3 hF
      refine zl_Mo_keep_L116 (by omega) N ?_ N _ _ _ _ hL29
      refine z_iinc rfl rfl rfl ?_
      refine z_goto rfl ?_
      exact ih _ _ _ hF
set_option maxRecDepth 100000 in
set_option maxHeartbeats 4000000 in
theorem zl_Mo_keep_L8 {l : Launch} {E : zE} {d : Nat} (hd : 2 ≤ d) (N : Nat) {Q : Int → zHp → Prop} {oh : zHp} (K1 : zW l E d zm_Mo_keep 25 [.inr (.inr 85), zJk, zJk, zJk] [] oh Q) : ∀ (n : Nat) (x1 : Int) (h : zHp), sh_Mo_keep_L8 N n x1 h = some oh → zW l E d zm_Mo_keep 8 [.inr (.inr 85), .inl x1, zJk, zJk] [] h Q := by
  intro n
  induction n with
  | zero =>
    intro x1 h hF
    cases (show (none : Option (zHp)) = some oh from hF)
  | succ n ih =>
    intro x1 h hF
    rw [sh_Mo_keep_L8] at hF
    refine z_iload rfl rfl ?_
    refine z_const rfl ?_
    refine z_cge rfl (fun c35 => ?_) (fun c35 => ?_)
    · rw [if_pos c35] at hF
      refine zsubL (L' := [.inr (.inr 85), zJk, zJk, zJk]) ⟨Or.inl rfl, Or.inr rfl, Or.inl rfl, Or.inl rfl, trivial⟩ ?_
      obtain rfl := Option.some.inj hF
      exact K1
    · rw [if_neg c35] at hF
      refine z_aload rfl rfl rfl ?_
      refine z_getr (r := 86) rfl rfl rfl rfl ?_
      refine z_const rfl ?_
      refine z_iload rfl rfl ?_
      refine z_iadd rfl ?_
      refine z_aload rfl rfl rfl ?_
      refine z_getr (r := 86) rfl rfl rfl rfl ?_
      refine z_const rfl ?_
      refine z_iload rfl rfl ?_
      refine z_iadd rfl ?_
      obtain ⟨g36, hF⟩ := zguard hF
      refine z_iald rfl rfl g36.1 g36.2 ?_
      obtain ⟨g37, hF⟩ := zguard hF
      refine z_iast rfl rfl g37.1 g37.2 ?_
      refine z_iinc rfl rfl rfl ?_
      refine z_goto rfl ?_
      exact ih _ _ hF
set_option maxRecDepth 100000 in
set_option maxHeartbeats 4000000 in
theorem zw_Mo_keep {l : Launch} {E : zE} {d : Nat} (hd : 2 ≤ d) (N : Nat) {h : zHp} {Q : Int → zHp → Prop} {h0 : zHp} (hF : sh_Mo_keep N h = some h0) (K : Q 0 h0) : zW l E d zm_Mo_keep 0 [.inr (.inr 85), zJk, zJk, zJk] [] h Q := by
  rw [sh_Mo_keep] at hF
  refine z_aload rfl rfl rfl ?_
  refine z_getr (r := 86) rfl rfl rfl rfl ?_
  refine z_const rfl ?_
  refine z_ialdc 7 rfl rfl rfl (by decide) ?_
  refine z_const rfl ?_
  have hJ3 : ∀ (hj : zHp), sh_Mo_keep_J33 N hj = some h0 → zW l E d zm_Mo_keep 33 [.inr (.inr 85), zJk, zJk, zJk] [] hj Q := by
    intro  hj hF
    rw [sh_Mo_keep_J33] at hF
    refine z_const rfl ?_
    refine z_const rfl ?_
    refine z_aload rfl rfl rfl ?_
    refine z_getr (r := 86) rfl rfl rfl rfl ?_
    refine z_const rfl ?_
    refine z_ialdc 7 rfl rfl rfl (by decide) ?_
    refine z_imul rfl ?_
    refine z_iadd rfl ?_
    refine z_istore rfl rfl rfl ?_
    refine z_aload rfl rfl rfl ?_
    refine z_getr (r := 86) rfl rfl rfl rfl ?_
    refine z_iload rfl rfl ?_
    refine z_aload rfl rfl rfl ?_
    refine z_getr (r := 86) rfl rfl rfl rfl ?_
    refine z_const rfl ?_
    refine z_ialdc 3 rfl rfl rfl (by decide) ?_
    obtain ⟨g4, hF⟩ := zguard hF
    refine z_iast rfl rfl g4.1 g4.2 ?_
    refine z_aload rfl rfl rfl ?_
    refine z_getr (r := 86) rfl rfl rfl rfl ?_
    refine z_iload rfl rfl ?_
    refine z_const rfl ?_
    refine z_iadd rfl ?_
    refine z_aload rfl rfl rfl ?_
    refine z_getr (r := 86) rfl rfl rfl rfl ?_
    refine z_const rfl ?_
    refine z_ialdc 1 rfl rfl rfl (by decide) ?_
    obtain ⟨g5, hF⟩ := zguard hF
    refine z_iast rfl rfl g5.1 g5.2 ?_
    refine z_aload rfl rfl rfl ?_
    refine z_getr (r := 86) rfl rfl rfl rfl ?_
    refine z_iload rfl rfl ?_
    refine z_const rfl ?_
    refine z_iadd rfl ?_
    refine z_aload rfl rfl rfl ?_
    refine z_getr (r := 86) rfl rfl rfl rfl ?_
    refine z_const rfl ?_
    refine z_ialdc 2 rfl rfl rfl (by decide) ?_
    obtain ⟨g6, hF⟩ := zguard hF
    refine z_iast rfl rfl g6.1 g6.2 ?_
    refine z_const rfl ?_
    refine z_istore rfl rfl rfl ?_
    obtain ⟨y11, h12, hL10, hF⟩ := zbind2 hF
    refine zl_Mo_keep_L72 (by omega) N ?_ N _ _ _ hL10
    refine z_const rfl ?_
    refine z_istore rfl rfl rfl ?_
    obtain ⟨h34, hL33, hF⟩ := zbind1 hF
    refine zl_Mo_keep_L97 (by omega) N ?_ N _ _ _ hL33
    refine z_aload rfl rfl rfl ?_
    refine z_getr (r := 86) rfl rfl rfl rfl ?_
    refine z_const rfl ?_
    refine z_dup2 rfl rfl rfl ?_
    refine z_ialdc 7 rfl rfl rfl (by decide) ?_
    refine z_const rfl ?_
    refine z_iadd rfl ?_
    refine z_iastc 7 rfl rfl rfl (by decide) ?_
    obtain rfl := Option.some.inj hF
    exact z_ret rfl rfl rfl K
  refine z_cne rfl (fun c2 => ?_) (fun c2 => ?_)
  · rw [if_neg c2] at hF
    exact hJ3 _ hF
  · rw [if_pos c2] at hF
    refine z_const rfl ?_
    refine z_istore rfl rfl rfl ?_
    obtain ⟨h39, hL38, hF⟩ := zbind1 hF
    refine zl_Mo_keep_L8 (by omega) N ?_ N _ _ hL38
    refine z_aload rfl rfl rfl ?_
    refine z_getr (r := 86) rfl rfl rfl rfl ?_
    refine z_const rfl ?_
    refine z_dup2 rfl rfl rfl ?_
    refine z_ialdc 7 rfl rfl rfl (by decide) ?_
    refine z_const rfl ?_
    refine z_isub rfl ?_
    refine z_iastc 7 rfl rfl rfl (by decide) ?_
    exact hJ3 _ hF
set_option maxRecDepth 100000 in
theorem zf_Mo_keep {l : Launch} {E : zE} {d : Nat} (hd : 2 ≤ d) (N : Nat) {h : zHp} {h0 : zHp} (hF : sh_Mo_keep N h = some h0) : zC l E d zm_Mo_keep [.inr (.inr 85)] h (fun r1 h1 => 0 = r1 ∧ h0 = h1) :=
  zC_of zk_Mo_keep (by decide) rfl rfl (Nat.le_of_ble_eq_true rfl) (zw_Mo_keep hd N hF ⟨rfl, rfl⟩)
def sh_Mo_yoke (N : Nat) (x1 x2 x3 : Int) (h : zHp) : Option (Int × zHp) := (if sh_Mo_isField x3 h = 0 then some (0, h) else (if x1 = x2 then some (0, h) else zb1 (sh_Mo_canCome N x1 x3 h) fun r12 => if r12 = 0 then some (0, h) else zb1 (sh_Mo_canCome N x2 x3 h) fun r19 => if r19 = 0 then some (0, h) else zb1 (sh_Mo_keep N h) fun h26 => zb1 (sh_Mo_make N x1 6 (w32 (10 + x3)) h26) fun h32 => zb1 (sh_Mo_make N x2 6 (w32 (10 + x3)) h32) fun h38 => zb1 (sh_Mo_make N x1 7 x2 h38) fun h44 => zb1 (sh_Mo_make N x2 7 x1 h44) fun h50 => some (1, h50)))
set_option maxRecDepth 100000 in
set_option maxHeartbeats 4000000 in
theorem zw_Mo_yoke {l : Launch} {E : zE} {d : Nat} (hd : 4 ≤ d) (N : Nat) (x1 x2 x3 : Int) {h : zHp} {Q : Int → zHp → Prop} {r0 : Int} {h0 : zHp} (hF : sh_Mo_yoke N x1 x2 x3 h = some (r0, h0)) (K : Q r0 h0) : zW l E d zm_Mo_yoke 0 [.inr (.inr 85), .inl x1, .inl x2, .inl x3] [] h Q := by
  rw [sh_Mo_yoke] at hF
  refine z_aload rfl rfl rfl ?_
  refine z_iload rfl rfl ?_
  refine z_inv1 (d' := d - 1) (As := [.inl x3]) rfl rfl (zf_Mo_isField (by omega) _) rfl rfl rfl (by omega) rfl (fun r1 h2 hR3 hQ4 => ?_)
  obtain ⟨rfl, rfl⟩ := hQ4
  refine z_zeq rfl (fun c5 => ?_) (fun c5 => ?_)
  · rw [if_pos c5] at hF
    refine z_const rfl ?_
    obtain ⟨rfl, rfl⟩ := zinj2 hF
    exact z_zret rfl rfl (Or.inl rfl) K
  · rw [if_neg c5] at hF
    refine z_iload rfl rfl ?_
    refine z_iload rfl rfl ?_
    refine z_ceq rfl (fun c6 => ?_) (fun c6 => ?_)
    · rw [if_pos c6] at hF
      refine z_const rfl ?_
      obtain ⟨rfl, rfl⟩ := zinj2 hF
      exact z_zret rfl rfl (Or.inl rfl) K
    · rw [if_neg c6] at hF
      refine z_aload rfl rfl rfl ?_
      refine z_iload rfl rfl ?_
      refine z_iload rfl rfl ?_
      obtain ⟨r12, hc11, hF⟩ := zbind1 hF
      refine z_inv1 (d' := d - 1) (As := [.inl x1, .inl x3]) rfl rfl (zf_Mo_canCome (by omega) N _ _ hc11) rfl rfl rfl (by omega) rfl (fun r7 h8 hR9 hQ10 => ?_)
      obtain ⟨rfl, rfl⟩ := hQ10
      refine z_zeq rfl (fun c13 => ?_) (fun c13 => ?_)
      · rw [if_pos c13] at hF
        refine z_const rfl ?_
        obtain ⟨rfl, rfl⟩ := zinj2 hF
        exact z_zret rfl rfl (Or.inl rfl) K
      · rw [if_neg c13] at hF
        refine z_aload rfl rfl rfl ?_
        refine z_iload rfl rfl ?_
        refine z_iload rfl rfl ?_
        obtain ⟨r19, hc18, hF⟩ := zbind1 hF
        refine z_inv1 (d' := d - 1) (As := [.inl x2, .inl x3]) rfl rfl (zf_Mo_canCome (by omega) N _ _ hc18) rfl rfl rfl (by omega) rfl (fun r14 h15 hR16 hQ17 => ?_)
        obtain ⟨rfl, rfl⟩ := hQ17
        refine z_zne rfl (fun c20 => ?_) (fun c20 => ?_)
        · rw [if_neg c20] at hF
          refine z_aload rfl rfl rfl ?_
          obtain ⟨h26, hc25, hF⟩ := zbind1 hF
          refine z_inv0 (d' := d - 1) (As := []) rfl rfl (zf_Mo_keep (by omega) N hc25) rfl rfl rfl (by omega) rfl (fun r21 h22 hR23 hQ24 => ?_)
          obtain ⟨rfl, rfl⟩ := hQ24
          refine z_aload rfl rfl rfl ?_
          refine z_iload rfl rfl ?_
          refine z_const rfl ?_
          refine z_const rfl ?_
          refine z_iload rfl rfl ?_
          refine z_iadd rfl ?_
          obtain ⟨h32, hc31, hF⟩ := zbind1 hF
          refine z_inv0 (d' := d - 1) (As := [.inl x1, .inl 6, .inl (w32 (10 + x3))]) rfl rfl (zf_Mo_make (by omega) N _ _ _ hc31) rfl rfl rfl (by omega) rfl (fun r27 h28 hR29 hQ30 => ?_)
          obtain ⟨rfl, rfl⟩ := hQ30
          refine z_aload rfl rfl rfl ?_
          refine z_iload rfl rfl ?_
          refine z_const rfl ?_
          refine z_const rfl ?_
          refine z_iload rfl rfl ?_
          refine z_iadd rfl ?_
          obtain ⟨h38, hc37, hF⟩ := zbind1 hF
          refine z_inv0 (d' := d - 1) (As := [.inl x2, .inl 6, .inl (w32 (10 + x3))]) rfl rfl (zf_Mo_make (by omega) N _ _ _ hc37) rfl rfl rfl (by omega) rfl (fun r33 h34 hR35 hQ36 => ?_)
          obtain ⟨rfl, rfl⟩ := hQ36
          refine z_aload rfl rfl rfl ?_
          refine z_iload rfl rfl ?_
          refine z_const rfl ?_
          refine z_iload rfl rfl ?_
          obtain ⟨h44, hc43, hF⟩ := zbind1 hF
          refine z_inv0 (d' := d - 1) (As := [.inl x1, .inl 7, .inl x2]) rfl rfl (zf_Mo_make (by omega) N _ _ _ hc43) rfl rfl rfl (by omega) rfl (fun r39 h40 hR41 hQ42 => ?_)
          obtain ⟨rfl, rfl⟩ := hQ42
          refine z_aload rfl rfl rfl ?_
          refine z_iload rfl rfl ?_
          refine z_const rfl ?_
          refine z_iload rfl rfl ?_
          obtain ⟨h50, hc49, hF⟩ := zbind1 hF
          refine z_inv0 (d' := d - 1) (As := [.inl x2, .inl 7, .inl x1]) rfl rfl (zf_Mo_make (by omega) N _ _ _ hc49) rfl rfl rfl (by omega) rfl (fun r45 h46 hR47 hQ48 => ?_)
          obtain ⟨rfl, rfl⟩ := hQ48
          refine z_const rfl ?_
          obtain ⟨rfl, rfl⟩ := zinj2 hF
          exact z_zret rfl rfl (Or.inr rfl) K
        · rw [if_pos c20] at hF
          refine z_const rfl ?_
          obtain ⟨rfl, rfl⟩ := zinj2 hF
          exact z_zret rfl rfl (Or.inl rfl) K
set_option maxRecDepth 100000 in
theorem zf_Mo_yoke {l : Launch} {E : zE} {d : Nat} (hd : 4 ≤ d) (N : Nat) (x1 x2 x3 : Int) {h : zHp} {r0 : Int} {h0 : zHp} (hF : sh_Mo_yoke N x1 x2 x3 h = some (r0, h0)) : zC l E d zm_Mo_yoke [.inr (.inr 85), .inl x1, .inl x2, .inl x3] h (fun r1 h1 => r0 = r1 ∧ h0 = h1) :=
  zC_of zk_Mo_yoke (by decide) rfl rfl (Nat.le_of_ble_eq_true rfl) (zw_Mo_yoke hd N _ _ _ hF ⟨rfl, rfl⟩)
def sh_Herd_unyoke_14 (x1 : Int) (h : zHp) : zHp := (if sh_Herd_get_14 x1 7 h = (-1) then h else sh_Herd_put_14 x1 7 (-1) (sh_Herd_put_14 (sh_Herd_get_14 x1 7 h) 7 (-1) h))
set_option maxRecDepth 100000 in
set_option maxHeartbeats 4000000 in
theorem zw_Herd_unyoke_14 {l : Launch} {E : zE} {d : Nat} (hd : 3 ≤ d) (x1 : Int) {h : zHp} {Q : Int → zHp → Prop} {h0 : zHp} (hF : sh_Herd_unyoke_14 x1 h = h0) (K : Q 0 h0) : zW l E d zm_Herd_unyoke 0 [.inr (.inr 14), .inl x1, zJk] [] h Q := by
  rw [sh_Herd_unyoke_14] at hF
  refine z_aload rfl rfl rfl ?_
  refine z_iload rfl rfl ?_
  refine z_const rfl ?_
  refine z_inv1 (d' := d - 1) (As := [.inl x1, .inl 7]) rfl rfl (zf_Herd_get_14 (by omega) _ _) rfl rfl rfl (by omega) rfl (fun r1 h2 hR3 hQ4 => ?_)
  obtain ⟨rfl, rfl⟩ := hQ4
  refine z_istore rfl rfl rfl ?_
  refine z_iload rfl rfl ?_
  refine z_const rfl ?_
  refine z_ceq rfl (fun c6 => ?_) (fun c6 => ?_)
  · rw [if_pos c6] at hF
    subst hF
    exact z_ret rfl rfl rfl K
  · rw [if_neg c6] at hF
    refine z_aload rfl rfl rfl ?_
    refine z_iload rfl rfl ?_
    refine z_const rfl ?_
    refine z_const rfl ?_
    refine z_inv0 (d' := d - 1) (As := [.inl (sh_Herd_get_14 x1 7 h), .inl 7, .inl (-1)]) rfl rfl (zf_Herd_put_14 (by omega) _ _ _) rfl rfl rfl (by omega) rfl (fun r7 h8 hR9 hQ10 => ?_)
    obtain ⟨rfl, rfl⟩ := hQ10
    refine z_aload rfl rfl rfl ?_
    refine z_iload rfl rfl ?_
    refine z_const rfl ?_
    refine z_const rfl ?_
    refine z_inv0 (d' := d - 1) (As := [.inl x1, .inl 7, .inl (-1)]) rfl rfl (zf_Herd_put_14 (by omega) _ _ _) rfl rfl rfl (by omega) rfl (fun r11 h12 hR13 hQ14 => ?_)
    obtain ⟨rfl, rfl⟩ := hQ14
    subst hF
    exact z_ret rfl rfl rfl K
set_option maxRecDepth 100000 in
theorem zf_Herd_unyoke_14 {l : Launch} {E : zE} {d : Nat} (hd : 3 ≤ d) (x1 : Int) {h : zHp} : zC l E d zm_Herd_unyoke [.inr (.inr 14), .inl x1] h (fun r1 h1 => 0 = r1 ∧ sh_Herd_unyoke_14 x1 h = h1) :=
  zC_of zk_Herd_unyoke (by decide) rfl rfl (Nat.le_of_ble_eq_true rfl) (zw_Herd_unyoke_14 hd _ rfl ⟨rfl, rfl⟩)
def sh_Ox_loose (x1 : Int) (h : zHp) : Option (Int × zHp) := (if sh_Ox_isOx x1 h = 0 then some (0, h) else (if sh_Herd_get_14 x1 7 h = (-1) then some (0, h) else some (1, sh_Herd_unyoke_14 x1 (sh_Yard_keepStep_1 h))))
set_option maxRecDepth 100000 in
set_option maxHeartbeats 4000000 in
theorem zw_Ox_loose {l : Launch} {E : zE} {d : Nat} (hd : 6 ≤ d) (x1 : Int) {h : zHp} {Q : Int → zHp → Prop} {r0 : Int} {h0 : zHp} (hF : sh_Ox_loose x1 h = some (r0, h0)) (K : Q r0 h0) : zW l E d zm_Ox_loose 0 [.inr (.inr 0), .inl x1] [] h Q := by
  rw [sh_Ox_loose] at hF
  refine z_aload rfl rfl rfl ?_
  refine z_iload rfl rfl ?_
  refine z_inv1 (d' := d - 1) (As := [.inl x1]) rfl rfl (zf_Ox_isOx (by omega) _) rfl rfl rfl (by omega) rfl (fun r1 h2 hR3 hQ4 => ?_)
  obtain ⟨rfl, rfl⟩ := hQ4
  refine z_zeq rfl (fun c5 => ?_) (fun c5 => ?_)
  · rw [if_pos c5] at hF
    refine z_const rfl ?_
    obtain ⟨rfl, rfl⟩ := zinj2 hF
    exact z_zret rfl rfl (Or.inl rfl) K
  · rw [if_neg c5] at hF
    refine z_aload rfl rfl rfl ?_
    refine z_getr (r := 1) rfl rfl rfl rfl ?_
    refine z_getr (r := 14) rfl rfl rfl rfl ?_
    refine z_iload rfl rfl ?_
    refine z_const rfl ?_
    refine z_inv1 (d' := d - 1) (As := [.inl x1, .inl 7]) rfl rfl (zf_Herd_get_14 (by omega) _ _) rfl rfl rfl (by omega) rfl (fun r6 h7 hR8 hQ9 => ?_)
    obtain ⟨rfl, rfl⟩ := hQ9
    refine z_const rfl ?_
    refine z_cne rfl (fun c10 => ?_) (fun c10 => ?_)
    · rw [if_neg c10] at hF
      refine z_aload rfl rfl rfl ?_
      refine z_getr (r := 1) rfl rfl rfl rfl ?_
      refine z_inv0 (d' := d - 1) (As := []) rfl rfl (zf_Yard_keepStep_1 (by omega)) rfl rfl rfl (by omega) rfl (fun r11 h12 hR13 hQ14 => ?_)
      obtain ⟨rfl, rfl⟩ := hQ14
      refine z_aload rfl rfl rfl ?_
      refine z_getr (r := 1) rfl rfl rfl rfl ?_
      refine z_getr (r := 14) rfl rfl rfl rfl ?_
      refine z_iload rfl rfl ?_
      refine z_inv0 (d' := d - 1) (As := [.inl x1]) rfl rfl (zf_Herd_unyoke_14 (by omega) _) rfl rfl rfl (by omega) rfl (fun r15 h16 hR17 hQ18 => ?_)
      obtain ⟨rfl, rfl⟩ := hQ18
      refine z_const rfl ?_
      obtain ⟨rfl, rfl⟩ := zinj2 hF
      exact z_zret rfl rfl (Or.inr rfl) K
    · rw [if_pos c10] at hF
      refine z_const rfl ?_
      obtain ⟨rfl, rfl⟩ := zinj2 hF
      exact z_zret rfl rfl (Or.inl rfl) K
set_option maxRecDepth 100000 in
theorem zf_Ox_loose {l : Launch} {E : zE} {d : Nat} (hd : 6 ≤ d) (x1 : Int) {h : zHp} {r0 : Int} {h0 : zHp} (hF : sh_Ox_loose x1 h = some (r0, h0)) : zC l E d zm_Ox_loose [.inr (.inr 0), .inl x1] h (fun r1 h1 => r0 = r1 ∧ h0 = h1) :=
  zC_of zk_Ox_loose (by decide) rfl rfl (Nat.le_of_ble_eq_true rfl) (zw_Ox_loose hd _ hF ⟨rfl, rfl⟩)
def sh_Mo_part (N : Nat) (x1 : Int) (h : zHp) : Option zHp := zb1 (sh_Mo_told N x1 7 h) fun r6 => if 0 ≤ r6 then zb1 (sh_Mo_told N x1 7 h) fun r13 => zb1 (sh_Mo_make N r13 7 (-1) h) fun h19 => zb1 (sh_Mo_make N x1 7 (-1) h19) fun h25 => some h25 else some h
set_option maxRecDepth 100000 in
set_option maxHeartbeats 4000000 in
theorem zw_Mo_part {l : Launch} {E : zE} {d : Nat} (hd : 2 ≤ d) (N : Nat) (x1 : Int) {h : zHp} {Q : Int → zHp → Prop} {h0 : zHp} (hF : sh_Mo_part N x1 h = some h0) (K : Q 0 h0) : zW l E d zm_Mo_part 0 [.inr (.inr 85), .inl x1] [] h Q := by
  rw [sh_Mo_part] at hF
  refine z_aload rfl rfl rfl ?_
  refine z_iload rfl rfl ?_
  refine z_const rfl ?_
  obtain ⟨r6, hc5, hF⟩ := zbind1 hF
  refine z_inv1 (d' := d - 1) (As := [.inl x1, .inl 7]) rfl rfl (zf_Mo_told (by omega) N _ _ hc5) rfl rfl rfl (by omega) rfl (fun r1 h2 hR3 hQ4 => ?_)
  obtain ⟨rfl, rfl⟩ := hQ4
  refine z_zge rfl (fun c7 => ?_) (fun c7 => ?_)
  · rw [if_pos c7] at hF
    refine z_aload rfl rfl rfl ?_
    refine z_aload rfl rfl rfl ?_
    refine z_iload rfl rfl ?_
    refine z_const rfl ?_
    obtain ⟨r13, hc12, hF⟩ := zbind1 hF
    refine z_inv1 (d' := d - 1) (As := [.inl x1, .inl 7]) rfl rfl (zf_Mo_told (by omega) N _ _ hc12) rfl rfl rfl (by omega) rfl (fun r8 h9 hR10 hQ11 => ?_)
    obtain ⟨rfl, rfl⟩ := hQ11
    refine z_const rfl ?_
    refine z_const rfl ?_
    obtain ⟨h19, hc18, hF⟩ := zbind1 hF
    refine z_inv0 (d' := d - 1) (As := [.inl r13, .inl 7, .inl (-1)]) rfl rfl (zf_Mo_make (by omega) N _ _ _ hc18) rfl rfl rfl (by omega) rfl (fun r14 h15 hR16 hQ17 => ?_)
    obtain ⟨rfl, rfl⟩ := hQ17
    refine z_aload rfl rfl rfl ?_
    refine z_iload rfl rfl ?_
    refine z_const rfl ?_
    refine z_const rfl ?_
    obtain ⟨h25, hc24, hF⟩ := zbind1 hF
    refine z_inv0 (d' := d - 1) (As := [.inl x1, .inl 7, .inl (-1)]) rfl rfl (zf_Mo_make (by omega) N _ _ _ hc24) rfl rfl rfl (by omega) rfl (fun r20 h21 hR22 hQ23 => ?_)
    obtain ⟨rfl, rfl⟩ := hQ23
    obtain rfl := Option.some.inj hF
    exact z_ret rfl rfl rfl K
  · rw [if_neg c7] at hF
    obtain rfl := Option.some.inj hF
    exact z_ret rfl rfl rfl K
set_option maxRecDepth 100000 in
theorem zf_Mo_part {l : Launch} {E : zE} {d : Nat} (hd : 2 ≤ d) (N : Nat) (x1 : Int) {h : zHp} {h0 : zHp} (hF : sh_Mo_part N x1 h = some h0) : zC l E d zm_Mo_part [.inr (.inr 85), .inl x1] h (fun r1 h1 => 0 = r1 ∧ h0 = h1) :=
  zC_of zk_Mo_part (by decide) rfl rfl (Nat.le_of_ble_eq_true rfl) (zw_Mo_part hd N _ hF ⟨rfl, rfl⟩)
def sh_Mo_loose (N : Nat) (x1 : Int) (h : zHp) : Option (Int × zHp) := (if sh_Mo_isOx x1 h = 0 then some (0, h) else zb1 (sh_Mo_told N x1 7 h) fun r11 => if 0 ≤ r11 then zb1 (sh_Mo_keep N h) fun h18 => zb1 (sh_Mo_part N x1 h18) fun h24 => some (1, h24) else some (0, h))
set_option maxRecDepth 100000 in
set_option maxHeartbeats 4000000 in
theorem zw_Mo_loose {l : Launch} {E : zE} {d : Nat} (hd : 3 ≤ d) (N : Nat) (x1 : Int) {h : zHp} {Q : Int → zHp → Prop} {r0 : Int} {h0 : zHp} (hF : sh_Mo_loose N x1 h = some (r0, h0)) (K : Q r0 h0) : zW l E d zm_Mo_loose 0 [.inr (.inr 85), .inl x1] [] h Q := by
  rw [sh_Mo_loose] at hF
  refine z_aload rfl rfl rfl ?_
  refine z_iload rfl rfl ?_
  refine z_inv1 (d' := d - 1) (As := [.inl x1]) rfl rfl (zf_Mo_isOx (by omega) _) rfl rfl rfl (by omega) rfl (fun r1 h2 hR3 hQ4 => ?_)
  obtain ⟨rfl, rfl⟩ := hQ4
  refine z_zeq rfl (fun c5 => ?_) (fun c5 => ?_)
  · rw [if_pos c5] at hF
    refine z_const rfl ?_
    obtain ⟨rfl, rfl⟩ := zinj2 hF
    exact z_zret rfl rfl (Or.inl rfl) K
  · rw [if_neg c5] at hF
    refine z_aload rfl rfl rfl ?_
    refine z_iload rfl rfl ?_
    refine z_const rfl ?_
    obtain ⟨r11, hc10, hF⟩ := zbind1 hF
    refine z_inv1 (d' := d - 1) (As := [.inl x1, .inl 7]) rfl rfl (zf_Mo_told (by omega) N _ _ hc10) rfl rfl rfl (by omega) rfl (fun r6 h7 hR8 hQ9 => ?_)
    obtain ⟨rfl, rfl⟩ := hQ9
    refine z_zge rfl (fun c12 => ?_) (fun c12 => ?_)
    · rw [if_pos c12] at hF
      refine z_aload rfl rfl rfl ?_
      obtain ⟨h18, hc17, hF⟩ := zbind1 hF
      refine z_inv0 (d' := d - 1) (As := []) rfl rfl (zf_Mo_keep (by omega) N hc17) rfl rfl rfl (by omega) rfl (fun r13 h14 hR15 hQ16 => ?_)
      obtain ⟨rfl, rfl⟩ := hQ16
      refine z_aload rfl rfl rfl ?_
      refine z_iload rfl rfl ?_
      obtain ⟨h24, hc23, hF⟩ := zbind1 hF
      refine z_inv0 (d' := d - 1) (As := [.inl x1]) rfl rfl (zf_Mo_part (by omega) N _ hc23) rfl rfl rfl (by omega) rfl (fun r19 h20 hR21 hQ22 => ?_)
      obtain ⟨rfl, rfl⟩ := hQ22
      refine z_const rfl ?_
      obtain ⟨rfl, rfl⟩ := zinj2 hF
      exact z_zret rfl rfl (Or.inr rfl) K
    · rw [if_neg c12] at hF
      refine z_const rfl ?_
      obtain ⟨rfl, rfl⟩ := zinj2 hF
      exact z_zret rfl rfl (Or.inl rfl) K
set_option maxRecDepth 100000 in
theorem zf_Mo_loose {l : Launch} {E : zE} {d : Nat} (hd : 3 ≤ d) (N : Nat) (x1 : Int) {h : zHp} {r0 : Int} {h0 : zHp} (hF : sh_Mo_loose N x1 h = some (r0, h0)) : zC l E d zm_Mo_loose [.inr (.inr 85), .inl x1] h (fun r1 h1 => r0 = r1 ∧ h0 = h1) :=
  zC_of zk_Mo_loose (by decide) rfl rfl (Nat.le_of_ble_eq_true rfl) (zw_Mo_loose hd N _ hF ⟨rfl, rfl⟩)
def sh_Ox_drive (x1 x2 : Int) (h : zHp) : Option (Int × zHp) := (if sh_Ox_isOx x1 h = 0 then some (0, h) else (if sh_Ox_isFarm x2 h = 0 then some (0, h) else (if sh_Herd_get_14 x1 7 h = (-1) then some (1, sh_Herd_put_14 x1 6 x2 (sh_Yard_keepStep_1 h)) else some (0, h))))
set_option maxRecDepth 100000 in
set_option maxHeartbeats 4000000 in
theorem zw_Ox_drive {l : Launch} {E : zE} {d : Nat} (hd : 6 ≤ d) (x1 x2 : Int) {h : zHp} {Q : Int → zHp → Prop} {r0 : Int} {h0 : zHp} (hF : sh_Ox_drive x1 x2 h = some (r0, h0)) (K : Q r0 h0) : zW l E d zm_Ox_drive 0 [.inr (.inr 0), .inl x1, .inl x2] [] h Q := by
  rw [sh_Ox_drive] at hF
  refine z_aload rfl rfl rfl ?_
  refine z_iload rfl rfl ?_
  refine z_inv1 (d' := d - 1) (As := [.inl x1]) rfl rfl (zf_Ox_isOx (by omega) _) rfl rfl rfl (by omega) rfl (fun r1 h2 hR3 hQ4 => ?_)
  obtain ⟨rfl, rfl⟩ := hQ4
  refine z_zeq rfl (fun c5 => ?_) (fun c5 => ?_)
  · rw [if_pos c5] at hF
    refine z_const rfl ?_
    obtain ⟨rfl, rfl⟩ := zinj2 hF
    exact z_zret rfl rfl (Or.inl rfl) K
  · rw [if_neg c5] at hF
    refine z_aload rfl rfl rfl ?_
    refine z_iload rfl rfl ?_
    refine z_inv1 (d' := d - 1) (As := [.inl x2]) rfl rfl (zf_Ox_isFarm (by omega) _) rfl rfl rfl (by omega) rfl (fun r6 h7 hR8 hQ9 => ?_)
    obtain ⟨rfl, rfl⟩ := hQ9
    refine z_zeq rfl (fun c10 => ?_) (fun c10 => ?_)
    · rw [if_pos c10] at hF
      refine z_const rfl ?_
      obtain ⟨rfl, rfl⟩ := zinj2 hF
      exact z_zret rfl rfl (Or.inl rfl) K
    · rw [if_neg c10] at hF
      refine z_aload rfl rfl rfl ?_
      refine z_getr (r := 1) rfl rfl rfl rfl ?_
      refine z_getr (r := 14) rfl rfl rfl rfl ?_
      refine z_iload rfl rfl ?_
      refine z_const rfl ?_
      refine z_inv1 (d' := d - 1) (As := [.inl x1, .inl 7]) rfl rfl (zf_Herd_get_14 (by omega) _ _) rfl rfl rfl (by omega) rfl (fun r11 h12 hR13 hQ14 => ?_)
      obtain ⟨rfl, rfl⟩ := hQ14
      refine z_const rfl ?_
      refine z_ceq rfl (fun c15 => ?_) (fun c15 => ?_)
      · rw [if_pos c15] at hF
        refine z_aload rfl rfl rfl ?_
        refine z_getr (r := 1) rfl rfl rfl rfl ?_
        refine z_inv0 (d' := d - 1) (As := []) rfl rfl (zf_Yard_keepStep_1 (by omega)) rfl rfl rfl (by omega) rfl (fun r16 h17 hR18 hQ19 => ?_)
        obtain ⟨rfl, rfl⟩ := hQ19
        refine z_aload rfl rfl rfl ?_
        refine z_getr (r := 1) rfl rfl rfl rfl ?_
        refine z_getr (r := 14) rfl rfl rfl rfl ?_
        refine z_iload rfl rfl ?_
        refine z_const rfl ?_
        refine z_iload rfl rfl ?_
        refine z_inv0 (d' := d - 1) (As := [.inl x1, .inl 6, .inl x2]) rfl rfl (zf_Herd_put_14 (by omega) _ _ _) rfl rfl rfl (by omega) rfl (fun r20 h21 hR22 hQ23 => ?_)
        obtain ⟨rfl, rfl⟩ := hQ23
        refine z_const rfl ?_
        obtain ⟨rfl, rfl⟩ := zinj2 hF
        exact z_zret rfl rfl (Or.inr rfl) K
      · rw [if_neg c15] at hF
        refine z_const rfl ?_
        obtain ⟨rfl, rfl⟩ := zinj2 hF
        exact z_zret rfl rfl (Or.inl rfl) K
set_option maxRecDepth 100000 in
theorem zf_Ox_drive {l : Launch} {E : zE} {d : Nat} (hd : 6 ≤ d) (x1 x2 : Int) {h : zHp} {r0 : Int} {h0 : zHp} (hF : sh_Ox_drive x1 x2 h = some (r0, h0)) : zC l E d zm_Ox_drive [.inr (.inr 0), .inl x1, .inl x2] h (fun r1 h1 => r0 = r1 ∧ h0 = h1) :=
  zC_of zk_Ox_drive (by decide) rfl rfl (Nat.le_of_ble_eq_true rfl) (zw_Ox_drive hd _ _ hF ⟨rfl, rfl⟩)
def sh_Mo_drive (N : Nat) (x1 x2 : Int) (h : zHp) : Option (Int × zHp) := (if sh_Mo_isOx x1 h = 0 then some (0, h) else (if sh_Mo_isFarm x2 h = 0 then some (0, h) else zb1 (sh_Mo_told N x1 7 h) fun r16 => if r16 < 0 then zb1 (sh_Mo_keep N h) fun h23 => zb1 (sh_Mo_make N x1 6 x2 h23) fun h29 => some (1, h29) else some (0, h)))
set_option maxRecDepth 100000 in
set_option maxHeartbeats 4000000 in
theorem zw_Mo_drive {l : Launch} {E : zE} {d : Nat} (hd : 3 ≤ d) (N : Nat) (x1 x2 : Int) {h : zHp} {Q : Int → zHp → Prop} {r0 : Int} {h0 : zHp} (hF : sh_Mo_drive N x1 x2 h = some (r0, h0)) (K : Q r0 h0) : zW l E d zm_Mo_drive 0 [.inr (.inr 85), .inl x1, .inl x2] [] h Q := by
  rw [sh_Mo_drive] at hF
  refine z_aload rfl rfl rfl ?_
  refine z_iload rfl rfl ?_
  refine z_inv1 (d' := d - 1) (As := [.inl x1]) rfl rfl (zf_Mo_isOx (by omega) _) rfl rfl rfl (by omega) rfl (fun r1 h2 hR3 hQ4 => ?_)
  obtain ⟨rfl, rfl⟩ := hQ4
  refine z_zeq rfl (fun c5 => ?_) (fun c5 => ?_)
  · rw [if_pos c5] at hF
    refine z_const rfl ?_
    obtain ⟨rfl, rfl⟩ := zinj2 hF
    exact z_zret rfl rfl (Or.inl rfl) K
  · rw [if_neg c5] at hF
    refine z_aload rfl rfl rfl ?_
    refine z_iload rfl rfl ?_
    refine z_inv1 (d' := d - 1) (As := [.inl x2]) rfl rfl (zf_Mo_isFarm (by omega) _) rfl rfl rfl (by omega) rfl (fun r6 h7 hR8 hQ9 => ?_)
    obtain ⟨rfl, rfl⟩ := hQ9
    refine z_zeq rfl (fun c10 => ?_) (fun c10 => ?_)
    · rw [if_pos c10] at hF
      refine z_const rfl ?_
      obtain ⟨rfl, rfl⟩ := zinj2 hF
      exact z_zret rfl rfl (Or.inl rfl) K
    · rw [if_neg c10] at hF
      refine z_aload rfl rfl rfl ?_
      refine z_iload rfl rfl ?_
      refine z_const rfl ?_
      obtain ⟨r16, hc15, hF⟩ := zbind1 hF
      refine z_inv1 (d' := d - 1) (As := [.inl x1, .inl 7]) rfl rfl (zf_Mo_told (by omega) N _ _ hc15) rfl rfl rfl (by omega) rfl (fun r11 h12 hR13 hQ14 => ?_)
      obtain ⟨rfl, rfl⟩ := hQ14
      refine z_zlt rfl (fun c17 => ?_) (fun c17 => ?_)
      · rw [if_pos c17] at hF
        refine z_aload rfl rfl rfl ?_
        obtain ⟨h23, hc22, hF⟩ := zbind1 hF
        refine z_inv0 (d' := d - 1) (As := []) rfl rfl (zf_Mo_keep (by omega) N hc22) rfl rfl rfl (by omega) rfl (fun r18 h19 hR20 hQ21 => ?_)
        obtain ⟨rfl, rfl⟩ := hQ21
        refine z_aload rfl rfl rfl ?_
        refine z_iload rfl rfl ?_
        refine z_const rfl ?_
        refine z_iload rfl rfl ?_
        obtain ⟨h29, hc28, hF⟩ := zbind1 hF
        refine z_inv0 (d' := d - 1) (As := [.inl x1, .inl 6, .inl x2]) rfl rfl (zf_Mo_make (by omega) N _ _ _ hc28) rfl rfl rfl (by omega) rfl (fun r24 h25 hR26 hQ27 => ?_)
        obtain ⟨rfl, rfl⟩ := hQ27
        refine z_const rfl ?_
        obtain ⟨rfl, rfl⟩ := zinj2 hF
        exact z_zret rfl rfl (Or.inr rfl) K
      · rw [if_neg c17] at hF
        refine z_const rfl ?_
        obtain ⟨rfl, rfl⟩ := zinj2 hF
        exact z_zret rfl rfl (Or.inl rfl) K
set_option maxRecDepth 100000 in
theorem zf_Mo_drive {l : Launch} {E : zE} {d : Nat} (hd : 3 ≤ d) (N : Nat) (x1 x2 : Int) {h : zHp} {r0 : Int} {h0 : zHp} (hF : sh_Mo_drive N x1 x2 h = some (r0, h0)) : zC l E d zm_Mo_drive [.inr (.inr 85), .inl x1, .inl x2] h (fun r1 h1 => r0 = r1 ∧ h0 = h1) :=
  zC_of zk_Mo_drive (by decide) rfl rfl (Nat.le_of_ble_eq_true rfl) (zw_Mo_drive hd N _ _ hF ⟨rfl, rfl⟩)
def sh_Ox_sell (x1 x2 : Int) (h : zHp) : Option (Int × zHp) := (if sh_Ox_isOx x1 h = 0 then some (0, h) else (if sh_Ox_isFarm x2 h = 0 then some (0, h) else (if sh_Herd_get_14 x1 4 h = x2 then some (0, h) else some (1, sh_Herd_put_14 x1 5 0 (sh_Herd_put_14 x1 4 x2 (sh_Yard_keepStep_1 h))))))
set_option maxRecDepth 100000 in
set_option maxHeartbeats 4000000 in
theorem zw_Ox_sell {l : Launch} {E : zE} {d : Nat} (hd : 6 ≤ d) (x1 x2 : Int) {h : zHp} {Q : Int → zHp → Prop} {r0 : Int} {h0 : zHp} (hF : sh_Ox_sell x1 x2 h = some (r0, h0)) (K : Q r0 h0) : zW l E d zm_Ox_sell 0 [.inr (.inr 0), .inl x1, .inl x2] [] h Q := by
  rw [sh_Ox_sell] at hF
  refine z_aload rfl rfl rfl ?_
  refine z_iload rfl rfl ?_
  refine z_inv1 (d' := d - 1) (As := [.inl x1]) rfl rfl (zf_Ox_isOx (by omega) _) rfl rfl rfl (by omega) rfl (fun r1 h2 hR3 hQ4 => ?_)
  obtain ⟨rfl, rfl⟩ := hQ4
  refine z_zeq rfl (fun c5 => ?_) (fun c5 => ?_)
  · rw [if_pos c5] at hF
    refine z_const rfl ?_
    obtain ⟨rfl, rfl⟩ := zinj2 hF
    exact z_zret rfl rfl (Or.inl rfl) K
  · rw [if_neg c5] at hF
    refine z_aload rfl rfl rfl ?_
    refine z_iload rfl rfl ?_
    refine z_inv1 (d' := d - 1) (As := [.inl x2]) rfl rfl (zf_Ox_isFarm (by omega) _) rfl rfl rfl (by omega) rfl (fun r6 h7 hR8 hQ9 => ?_)
    obtain ⟨rfl, rfl⟩ := hQ9
    refine z_zeq rfl (fun c10 => ?_) (fun c10 => ?_)
    · rw [if_pos c10] at hF
      refine z_const rfl ?_
      obtain ⟨rfl, rfl⟩ := zinj2 hF
      exact z_zret rfl rfl (Or.inl rfl) K
    · rw [if_neg c10] at hF
      refine z_aload rfl rfl rfl ?_
      refine z_getr (r := 1) rfl rfl rfl rfl ?_
      refine z_getr (r := 14) rfl rfl rfl rfl ?_
      refine z_iload rfl rfl ?_
      refine z_const rfl ?_
      refine z_inv1 (d' := d - 1) (As := [.inl x1, .inl 4]) rfl rfl (zf_Herd_get_14 (by omega) _ _) rfl rfl rfl (by omega) rfl (fun r11 h12 hR13 hQ14 => ?_)
      obtain ⟨rfl, rfl⟩ := hQ14
      refine z_iload rfl rfl ?_
      refine z_cne rfl (fun c15 => ?_) (fun c15 => ?_)
      · rw [if_neg c15] at hF
        refine z_aload rfl rfl rfl ?_
        refine z_getr (r := 1) rfl rfl rfl rfl ?_
        refine z_inv0 (d' := d - 1) (As := []) rfl rfl (zf_Yard_keepStep_1 (by omega)) rfl rfl rfl (by omega) rfl (fun r16 h17 hR18 hQ19 => ?_)
        obtain ⟨rfl, rfl⟩ := hQ19
        refine z_aload rfl rfl rfl ?_
        refine z_getr (r := 1) rfl rfl rfl rfl ?_
        refine z_getr (r := 14) rfl rfl rfl rfl ?_
        refine z_iload rfl rfl ?_
        refine z_const rfl ?_
        refine z_iload rfl rfl ?_
        refine z_inv0 (d' := d - 1) (As := [.inl x1, .inl 4, .inl x2]) rfl rfl (zf_Herd_put_14 (by omega) _ _ _) rfl rfl rfl (by omega) rfl (fun r20 h21 hR22 hQ23 => ?_)
        obtain ⟨rfl, rfl⟩ := hQ23
        refine z_aload rfl rfl rfl ?_
        refine z_getr (r := 1) rfl rfl rfl rfl ?_
        refine z_getr (r := 14) rfl rfl rfl rfl ?_
        refine z_iload rfl rfl ?_
        refine z_const rfl ?_
        refine z_const rfl ?_
        refine z_inv0 (d' := d - 1) (As := [.inl x1, .inl 5, .inl 0]) rfl rfl (zf_Herd_put_14 (by omega) _ _ _) rfl rfl rfl (by omega) rfl (fun r24 h25 hR26 hQ27 => ?_)
        obtain ⟨rfl, rfl⟩ := hQ27
        refine z_const rfl ?_
        obtain ⟨rfl, rfl⟩ := zinj2 hF
        exact z_zret rfl rfl (Or.inr rfl) K
      · rw [if_pos c15] at hF
        refine z_const rfl ?_
        obtain ⟨rfl, rfl⟩ := zinj2 hF
        exact z_zret rfl rfl (Or.inl rfl) K
set_option maxRecDepth 100000 in
theorem zf_Ox_sell {l : Launch} {E : zE} {d : Nat} (hd : 6 ≤ d) (x1 x2 : Int) {h : zHp} {r0 : Int} {h0 : zHp} (hF : sh_Ox_sell x1 x2 h = some (r0, h0)) : zC l E d zm_Ox_sell [.inr (.inr 0), .inl x1, .inl x2] h (fun r1 h1 => r0 = r1 ∧ h0 = h1) :=
  zC_of zk_Ox_sell (by decide) rfl rfl (Nat.le_of_ble_eq_true rfl) (zw_Ox_sell hd _ _ hF ⟨rfl, rfl⟩)
def sh_Mo_sell (N : Nat) (x1 x2 : Int) (h : zHp) : Option (Int × zHp) := (if sh_Mo_isOx x1 h = 0 then some (0, h) else (if sh_Mo_isFarm x2 h = 0 then some (0, h) else zb1 (sh_Mo_told N x1 4 h) fun r16 => if r16 = x2 then some (0, h) else zb1 (sh_Mo_keep N h) fun h23 => zb1 (sh_Mo_make N x1 4 x2 h23) fun h29 => zb1 (sh_Mo_make N x1 5 0 h29) fun h35 => some (1, h35)))
set_option maxRecDepth 100000 in
set_option maxHeartbeats 4000000 in
theorem zw_Mo_sell {l : Launch} {E : zE} {d : Nat} (hd : 3 ≤ d) (N : Nat) (x1 x2 : Int) {h : zHp} {Q : Int → zHp → Prop} {r0 : Int} {h0 : zHp} (hF : sh_Mo_sell N x1 x2 h = some (r0, h0)) (K : Q r0 h0) : zW l E d zm_Mo_sell 0 [.inr (.inr 85), .inl x1, .inl x2] [] h Q := by
  rw [sh_Mo_sell] at hF
  refine z_aload rfl rfl rfl ?_
  refine z_iload rfl rfl ?_
  refine z_inv1 (d' := d - 1) (As := [.inl x1]) rfl rfl (zf_Mo_isOx (by omega) _) rfl rfl rfl (by omega) rfl (fun r1 h2 hR3 hQ4 => ?_)
  obtain ⟨rfl, rfl⟩ := hQ4
  refine z_zeq rfl (fun c5 => ?_) (fun c5 => ?_)
  · rw [if_pos c5] at hF
    refine z_const rfl ?_
    obtain ⟨rfl, rfl⟩ := zinj2 hF
    exact z_zret rfl rfl (Or.inl rfl) K
  · rw [if_neg c5] at hF
    refine z_aload rfl rfl rfl ?_
    refine z_iload rfl rfl ?_
    refine z_inv1 (d' := d - 1) (As := [.inl x2]) rfl rfl (zf_Mo_isFarm (by omega) _) rfl rfl rfl (by omega) rfl (fun r6 h7 hR8 hQ9 => ?_)
    obtain ⟨rfl, rfl⟩ := hQ9
    refine z_zeq rfl (fun c10 => ?_) (fun c10 => ?_)
    · rw [if_pos c10] at hF
      refine z_const rfl ?_
      obtain ⟨rfl, rfl⟩ := zinj2 hF
      exact z_zret rfl rfl (Or.inl rfl) K
    · rw [if_neg c10] at hF
      refine z_aload rfl rfl rfl ?_
      refine z_iload rfl rfl ?_
      refine z_const rfl ?_
      obtain ⟨r16, hc15, hF⟩ := zbind1 hF
      refine z_inv1 (d' := d - 1) (As := [.inl x1, .inl 4]) rfl rfl (zf_Mo_told (by omega) N _ _ hc15) rfl rfl rfl (by omega) rfl (fun r11 h12 hR13 hQ14 => ?_)
      obtain ⟨rfl, rfl⟩ := hQ14
      refine z_iload rfl rfl ?_
      refine z_cne rfl (fun c17 => ?_) (fun c17 => ?_)
      · rw [if_neg c17] at hF
        refine z_aload rfl rfl rfl ?_
        obtain ⟨h23, hc22, hF⟩ := zbind1 hF
        refine z_inv0 (d' := d - 1) (As := []) rfl rfl (zf_Mo_keep (by omega) N hc22) rfl rfl rfl (by omega) rfl (fun r18 h19 hR20 hQ21 => ?_)
        obtain ⟨rfl, rfl⟩ := hQ21
        refine z_aload rfl rfl rfl ?_
        refine z_iload rfl rfl ?_
        refine z_const rfl ?_
        refine z_iload rfl rfl ?_
        obtain ⟨h29, hc28, hF⟩ := zbind1 hF
        refine z_inv0 (d' := d - 1) (As := [.inl x1, .inl 4, .inl x2]) rfl rfl (zf_Mo_make (by omega) N _ _ _ hc28) rfl rfl rfl (by omega) rfl (fun r24 h25 hR26 hQ27 => ?_)
        obtain ⟨rfl, rfl⟩ := hQ27
        refine z_aload rfl rfl rfl ?_
        refine z_iload rfl rfl ?_
        refine z_const rfl ?_
        refine z_const rfl ?_
        obtain ⟨h35, hc34, hF⟩ := zbind1 hF
        refine z_inv0 (d' := d - 1) (As := [.inl x1, .inl 5, .inl 0]) rfl rfl (zf_Mo_make (by omega) N _ _ _ hc34) rfl rfl rfl (by omega) rfl (fun r30 h31 hR32 hQ33 => ?_)
        obtain ⟨rfl, rfl⟩ := hQ33
        refine z_const rfl ?_
        obtain ⟨rfl, rfl⟩ := zinj2 hF
        exact z_zret rfl rfl (Or.inr rfl) K
      · rw [if_pos c17] at hF
        refine z_const rfl ?_
        obtain ⟨rfl, rfl⟩ := zinj2 hF
        exact z_zret rfl rfl (Or.inl rfl) K
set_option maxRecDepth 100000 in
theorem zf_Mo_sell {l : Launch} {E : zE} {d : Nat} (hd : 3 ≤ d) (N : Nat) (x1 x2 : Int) {h : zHp} {r0 : Int} {h0 : zHp} (hF : sh_Mo_sell N x1 x2 h = some (r0, h0)) : zC l E d zm_Mo_sell [.inr (.inr 85), .inl x1, .inl x2] h (fun r1 h1 => r0 = r1 ∧ h0 = h1) :=
  zC_of zk_Mo_sell (by decide) rfl rfl (Nat.le_of_ble_eq_true rfl) (zw_Mo_sell hd N _ _ hF ⟨rfl, rfl⟩)
def sh_Herd_hour_14 (h : zHp) : Int := rget h 16 71 0
set_option maxRecDepth 100000 in
set_option maxHeartbeats 4000000 in
theorem zw_Herd_hour_14 {l : Launch} {E : zE} {d : Nat} (hd : 2 ≤ d) {h : zHp} {Q : Int → zHp → Prop} {r0 : Int} (hF : sh_Herd_hour_14 h = r0) (K : Q r0 h) : zW l E d zm_Herd_hour 0 [.inr (.inr 14)] [] h Q := by
  rw [sh_Herd_hour_14] at hF
  refine z_aload rfl rfl rfl ?_
  refine z_getr (r := 15) rfl rfl rfl rfl ?_
  refine z_const rfl ?_
  refine z_inv1 (d' := d - 1) (As := [.inl 0]) rfl rfl (zf_Row_get (r := 15) (a := 16) (n := 71) rfl rfl _) rfl rfl rfl (by omega) rfl (fun r1 h2 hR3 hQ4 => ?_)
  obtain ⟨rfl, rfl⟩ := hQ4
  subst hF
  exact z_iret rfl rfl K
set_option maxRecDepth 100000 in
theorem zf_Herd_hour_14 {l : Launch} {E : zE} {d : Nat} (hd : 2 ≤ d) {h : zHp} : zC l E d zm_Herd_hour [.inr (.inr 14)] h (fun r1 h1 => sh_Herd_hour_14 h = r1 ∧ h = h1) :=
  zC_of zk_Herd_hour (by decide) rfl rfl (Nat.le_of_ble_eq_true rfl) (zw_Herd_hour_14 hd rfl ⟨rfl, rfl⟩)
def sh_Laws_askCall (x1 x2 x3 : Int) (h : zHp) : zHp := rput (rput (rput h 35 11 0 x3) 35 11 1 x2) 35 11 2 x1
set_option maxRecDepth 100000 in
set_option maxHeartbeats 4000000 in
theorem zw_Laws_askCall {l : Launch} {E : zE} {d : Nat} (hd : 2 ≤ d) (x1 x2 x3 : Int) {h : zHp} {Q : Int → zHp → Prop} {h0 : zHp} (hF : sh_Laws_askCall x1 x2 x3 h = h0) (K : Q 0 h0) : zW l E d zm_Laws_askCall 0 [.inr (.inr 33), .inl x1, .inl x2, .inl x3] [] h Q := by
  rw [sh_Laws_askCall] at hF
  refine z_aload rfl rfl rfl ?_
  refine z_getr (r := 34) rfl rfl rfl rfl ?_
  refine z_const rfl ?_
  refine z_iload rfl rfl ?_
  refine z_inv0 (d' := d - 1) (As := [.inl 0, .inl x3]) rfl rfl (zf_Row_put (r := 34) (a := 35) (n := 11) rfl rfl _ _) rfl rfl rfl (by omega) rfl (fun r1 h2 hR3 hQ4 => ?_)
  obtain ⟨rfl, rfl⟩ := hQ4
  refine z_aload rfl rfl rfl ?_
  refine z_getr (r := 34) rfl rfl rfl rfl ?_
  refine z_const rfl ?_
  refine z_iload rfl rfl ?_
  refine z_inv0 (d' := d - 1) (As := [.inl 1, .inl x2]) rfl rfl (zf_Row_put (r := 34) (a := 35) (n := 11) rfl rfl _ _) rfl rfl rfl (by omega) rfl (fun r5 h6 hR7 hQ8 => ?_)
  obtain ⟨rfl, rfl⟩ := hQ8
  refine z_aload rfl rfl rfl ?_
  refine z_getr (r := 34) rfl rfl rfl rfl ?_
  refine z_const rfl ?_
  refine z_iload rfl rfl ?_
  refine z_inv0 (d' := d - 1) (As := [.inl 2, .inl x1]) rfl rfl (zf_Row_put (r := 34) (a := 35) (n := 11) rfl rfl _ _) rfl rfl rfl (by omega) rfl (fun r9 h10 hR11 hQ12 => ?_)
  obtain ⟨rfl, rfl⟩ := hQ12
  subst hF
  exact z_ret rfl rfl rfl K
set_option maxRecDepth 100000 in
theorem zf_Laws_askCall {l : Launch} {E : zE} {d : Nat} (hd : 2 ≤ d) (x1 x2 x3 : Int) {h : zHp} : zC l E d zm_Laws_askCall [.inr (.inr 33), .inl x1, .inl x2, .inl x3] h (fun r1 h1 => 0 = r1 ∧ sh_Laws_askCall x1 x2 x3 h = h1) :=
  zC_of zk_Laws_askCall (by decide) rfl rfl (Nat.le_of_ble_eq_true rfl) (zw_Laws_askCall hd _ _ _ rfl ⟨rfl, rfl⟩)
def sh_Yard_far_1 (x1 x2 : Int) (h : zHp) : Int := w32 ((zabs (w32 ((rget h 3 5 x1) - (rget h 9 4 x2)))) + (zabs (w32 ((rget h 5 5 x1) - (rget h 11 4 x2)))))
set_option maxRecDepth 100000 in
set_option maxHeartbeats 4000000 in
theorem zw_Yard_far_1 {l : Launch} {E : zE} {d : Nat} (hd : 2 ≤ d) (x1 x2 : Int) {h : zHp} {Q : Int → zHp → Prop} {r0 : Int} (hF : sh_Yard_far_1 x1 x2 h = r0) (K : Q r0 h) : zW l E d zm_Yard_far 0 [.inr (.inr 1), .inl x1, .inl x2, zJk, zJk] [] h Q := by
  rw [sh_Yard_far_1] at hF
  refine z_aload rfl rfl rfl ?_
  refine z_getr (r := 2) rfl rfl rfl rfl ?_
  refine z_iload rfl rfl ?_
  refine z_inv1 (d' := d - 1) (As := [.inl x1]) rfl rfl (zf_Row_get (r := 2) (a := 3) (n := 5) rfl rfl _) rfl rfl rfl (by omega) rfl (fun r1 h2 hR3 hQ4 => ?_)
  obtain ⟨rfl, rfl⟩ := hQ4
  refine z_aload rfl rfl rfl ?_
  refine z_getr (r := 8) rfl rfl rfl rfl ?_
  refine z_iload rfl rfl ?_
  refine z_inv1 (d' := d - 1) (As := [.inl x2]) rfl rfl (zf_Row_get (r := 8) (a := 9) (n := 4) rfl rfl _) rfl rfl rfl (by omega) rfl (fun r5 h6 hR7 hQ8 => ?_)
  obtain ⟨rfl, rfl⟩ := hQ8
  refine z_isub rfl ?_
  refine z_istore rfl rfl rfl ?_
  refine z_aload rfl rfl rfl ?_
  refine z_getr (r := 4) rfl rfl rfl rfl ?_
  refine z_iload rfl rfl ?_
  refine z_inv1 (d' := d - 1) (As := [.inl x1]) rfl rfl (zf_Row_get (r := 4) (a := 5) (n := 5) rfl rfl _) rfl rfl rfl (by omega) rfl (fun r9 h10 hR11 hQ12 => ?_)
  obtain ⟨rfl, rfl⟩ := hQ12
  refine z_aload rfl rfl rfl ?_
  refine z_getr (r := 10) rfl rfl rfl rfl ?_
  refine z_iload rfl rfl ?_
  refine z_inv1 (d' := d - 1) (As := [.inl x2]) rfl rfl (zf_Row_get (r := 10) (a := 11) (n := 4) rfl rfl _) rfl rfl rfl (by omega) rfl (fun r13 h14 hR15 hQ16 => ?_)
  obtain ⟨rfl, rfl⟩ := hQ16
  refine z_isub rfl ?_
  refine z_istore rfl rfl rfl ?_
  refine z_iload rfl rfl ?_
  refine z_mabs rfl (by decide) (by omega) rfl ?_
  refine z_iload rfl rfl ?_
  refine z_mabs rfl (by decide) (by omega) rfl ?_
  refine z_iadd rfl ?_
  subst hF
  exact z_iret rfl rfl K
set_option maxRecDepth 100000 in
theorem zf_Yard_far_1 {l : Launch} {E : zE} {d : Nat} (hd : 2 ≤ d) (x1 x2 : Int) {h : zHp} : zC l E d zm_Yard_far [.inr (.inr 1), .inl x1, .inl x2] h (fun r1 h1 => sh_Yard_far_1 x1 x2 h = r1 ∧ h = h1) :=
  zC_of zk_Yard_far (by decide) rfl rfl (Nat.le_of_ble_eq_true rfl) (zw_Yard_far_1 hd _ _ rfl ⟨rfl, rfl⟩)
def sh_Laws_ask (x1 x2 x3 x4 x5 x6 : Int) (h : zHp) : zHp := rput (rput (rput (rput (rput (rput (sh_Laws_askCall x2 x3 x6 (zst h 33 4 x1)) 35 11 3 (sh_Herd_get_14 x1 3 (sh_Laws_askCall x2 x3 x6 (zst h 33 4 x1)))) 35 11 4 (if (if sh_Herd_get_14 x1 0 (zst h 33 4 x1) = x2 then 1 else (if sh_Herd_get_14 x1 1 (zst h 33 4 x1) = x2 then 1 else 0 : Int) : Int) = 0 then 0 else (if x2 = (-1) then 0 else 1 : Int) : Int)) 35 11 5 (if x2 = (-1) then 0 else sh_Yard_far_1 x2 x4 (rput (rput (sh_Laws_askCall x2 x3 x6 (zst h 33 4 x1)) 35 11 3 (sh_Herd_get_14 x1 3 (sh_Laws_askCall x2 x3 x6 (zst h 33 4 x1)))) 35 11 4 (if (if sh_Herd_get_14 x1 0 (zst h 33 4 x1) = x2 then 1 else (if sh_Herd_get_14 x1 1 (zst h 33 4 x1) = x2 then 1 else 0 : Int) : Int) = 0 then 0 else (if x2 = (-1) then 0 else 1 : Int) : Int)) : Int)) 35 11 6 (if x5 = 0 then 0 else 1 : Int)) 35 11 7 x1) 35 11 8 (sh_Herd_get_14 x1 2 (rput (rput (rput (rput (rput (sh_Laws_askCall x2 x3 x6 (zst h 33 4 x1)) 35 11 3 (sh_Herd_get_14 x1 3 (sh_Laws_askCall x2 x3 x6 (zst h 33 4 x1)))) 35 11 4 (if (if sh_Herd_get_14 x1 0 (zst h 33 4 x1) = x2 then 1 else (if sh_Herd_get_14 x1 1 (zst h 33 4 x1) = x2 then 1 else 0 : Int) : Int) = 0 then 0 else (if x2 = (-1) then 0 else 1 : Int) : Int)) 35 11 5 (if x2 = (-1) then 0 else sh_Yard_far_1 x2 x4 (rput (rput (sh_Laws_askCall x2 x3 x6 (zst h 33 4 x1)) 35 11 3 (sh_Herd_get_14 x1 3 (sh_Laws_askCall x2 x3 x6 (zst h 33 4 x1)))) 35 11 4 (if (if sh_Herd_get_14 x1 0 (zst h 33 4 x1) = x2 then 1 else (if sh_Herd_get_14 x1 1 (zst h 33 4 x1) = x2 then 1 else 0 : Int) : Int) = 0 then 0 else (if x2 = (-1) then 0 else 1 : Int) : Int)) : Int)) 35 11 6 (if x5 = 0 then 0 else 1 : Int)) 35 11 7 x1))
set_option maxRecDepth 100000 in
set_option maxHeartbeats 4000000 in
theorem zw_Laws_ask {l : Launch} {E : zE} {d : Nat} (hd : 3 ≤ d) (x1 x2 x3 x4 x5 x6 : Int) {h : zHp} {Q : Int → zHp → Prop} {h0 : zHp} (hF : sh_Laws_ask x1 x2 x3 x4 x5 x6 h = h0) (K : Q 0 h0) : zW l E d zm_Laws_ask 0 [.inr (.inr 33), .inl x1, .inl x2, .inl x3, .inl x4, .inl x5, .inl x6, zJk, zJk] [] h Q := by
  rw [sh_Laws_ask] at hF
  refine z_aload rfl rfl rfl ?_
  refine z_iload rfl rfl ?_
  refine z_puti rfl rfl rfl rfl ?_
  refine z_aload rfl rfl rfl ?_
  refine z_getr (r := 1) rfl rfl rfl rfl ?_
  refine z_getr (r := 14) rfl rfl rfl rfl ?_
  refine z_astore rfl rfl rfl rfl ?_
  refine z_aload rfl rfl rfl ?_
  refine z_iload rfl rfl ?_
  refine z_const rfl ?_
  refine z_inv1 (d' := d - 1) (As := [.inl x1, .inl 0]) rfl rfl (zf_Herd_get_14 (by omega) _ _) rfl rfl rfl (by omega) rfl (fun r1 h2 hR3 hQ4 => ?_)
  obtain ⟨rfl, rfl⟩ := hQ4
  refine z_iload rfl rfl ?_
  have hJ11 : zW l E d zm_Laws_ask 22 [.inr (.inr 33), .inl x1, .inl x2, .inl x3, .inl x4, .inl x5, .inl x6, .inr (.inr 14), zJk] [.inl (if sh_Herd_get_14 x1 0 (zst h 33 4 x1) = x2 then 1 else (if sh_Herd_get_14 x1 1 (zst h 33 4 x1) = x2 then 1 else 0 : Int) : Int)] (zst h 33 4 x1) Q := by
    refine z_istore rfl rfl rfl ?_
    refine z_aload rfl rfl rfl ?_
    refine z_iload rfl rfl ?_
    refine z_iload rfl rfl ?_
    refine z_iload rfl rfl ?_
    refine z_inv0 (d' := d - 1) (As := [.inl x2, .inl x3, .inl x6]) rfl rfl (zf_Laws_askCall (by omega) _ _ _) rfl rfl rfl (by omega) rfl (fun r12 h13 hR14 hQ15 => ?_)
    obtain ⟨rfl, rfl⟩ := hQ15
    refine z_aload rfl rfl rfl ?_
    refine z_getr (r := 34) rfl rfl rfl rfl ?_
    refine z_const rfl ?_
    refine z_aload rfl rfl rfl ?_
    refine z_iload rfl rfl ?_
    refine z_const rfl ?_
    refine z_inv1 (d' := d - 1) (As := [.inl x1, .inl 3]) rfl rfl (zf_Herd_get_14 (by omega) _ _) rfl rfl rfl (by omega) rfl (fun r16 h17 hR18 hQ19 => ?_)
    obtain ⟨rfl, rfl⟩ := hQ19
    refine z_inv0 (d' := d - 1) (As := [.inl 3, .inl (sh_Herd_get_14 x1 3 (sh_Laws_askCall x2 x3 x6 (zst h 33 4 x1)))]) rfl rfl (zf_Row_put (r := 34) (a := 35) (n := 11) rfl rfl _ _) rfl rfl rfl (by omega) rfl (fun r20 h21 hR22 hQ23 => ?_)
    obtain ⟨rfl, rfl⟩ := hQ23
    refine z_aload rfl rfl rfl ?_
    refine z_getr (r := 34) rfl rfl rfl rfl ?_
    refine z_const rfl ?_
    refine z_iload rfl rfl ?_
    have hJ26 : zW l E d zm_Laws_ask 47 [.inr (.inr 33), .inl x1, .inl x2, zJk, .inl x4, .inl x5, zJk, .inr (.inr 14), zJk] [.inl (if (if sh_Herd_get_14 x1 0 (zst h 33 4 x1) = x2 then 1 else (if sh_Herd_get_14 x1 1 (zst h 33 4 x1) = x2 then 1 else 0 : Int) : Int) = 0 then 0 else (if x2 = (-1) then 0 else 1 : Int) : Int), .inl 4, .inr (.inr 34)] (rput (sh_Laws_askCall x2 x3 x6 (zst h 33 4 x1)) 35 11 3 (sh_Herd_get_14 x1 3 (sh_Laws_askCall x2 x3 x6 (zst h 33 4 x1)))) Q := by
      refine z_inv0 (d' := d - 1) (As := [.inl 4, .inl (if (if sh_Herd_get_14 x1 0 (zst h 33 4 x1) = x2 then 1 else (if sh_Herd_get_14 x1 1 (zst h 33 4 x1) = x2 then 1 else 0 : Int) : Int) = 0 then 0 else (if x2 = (-1) then 0 else 1 : Int) : Int)]) rfl rfl (zf_Row_put (r := 34) (a := 35) (n := 11) rfl rfl _ _) rfl rfl rfl (by omega) rfl (fun r27 h28 hR29 hQ30 => ?_)
      obtain ⟨rfl, rfl⟩ := hQ30
      refine z_aload rfl rfl rfl ?_
      refine z_getr (r := 34) rfl rfl rfl rfl ?_
      refine z_const rfl ?_
      refine z_iload rfl rfl ?_
      refine z_const rfl ?_
      have hJ36 : zW l E d zm_Laws_ask 61 [.inr (.inr 33), .inl x1, zJk, zJk, zJk, .inl x5, zJk, .inr (.inr 14), zJk] [.inl (if x2 = (-1) then 0 else sh_Yard_far_1 x2 x4 (rput (rput (sh_Laws_askCall x2 x3 x6 (zst h 33 4 x1)) 35 11 3 (sh_Herd_get_14 x1 3 (sh_Laws_askCall x2 x3 x6 (zst h 33 4 x1)))) 35 11 4 (if (if sh_Herd_get_14 x1 0 (zst h 33 4 x1) = x2 then 1 else (if sh_Herd_get_14 x1 1 (zst h 33 4 x1) = x2 then 1 else 0 : Int) : Int) = 0 then 0 else (if x2 = (-1) then 0 else 1 : Int) : Int)) : Int), .inl 5, .inr (.inr 34)] (rput (rput (sh_Laws_askCall x2 x3 x6 (zst h 33 4 x1)) 35 11 3 (sh_Herd_get_14 x1 3 (sh_Laws_askCall x2 x3 x6 (zst h 33 4 x1)))) 35 11 4 (if (if sh_Herd_get_14 x1 0 (zst h 33 4 x1) = x2 then 1 else (if sh_Herd_get_14 x1 1 (zst h 33 4 x1) = x2 then 1 else 0 : Int) : Int) = 0 then 0 else (if x2 = (-1) then 0 else 1 : Int) : Int)) Q := by
        refine z_inv0 (d' := d - 1) (As := [.inl 5, .inl (if x2 = (-1) then 0 else sh_Yard_far_1 x2 x4 (rput (rput (sh_Laws_askCall x2 x3 x6 (zst h 33 4 x1)) 35 11 3 (sh_Herd_get_14 x1 3 (sh_Laws_askCall x2 x3 x6 (zst h 33 4 x1)))) 35 11 4 (if (if sh_Herd_get_14 x1 0 (zst h 33 4 x1) = x2 then 1 else (if sh_Herd_get_14 x1 1 (zst h 33 4 x1) = x2 then 1 else 0 : Int) : Int) = 0 then 0 else (if x2 = (-1) then 0 else 1 : Int) : Int)) : Int)]) rfl rfl (zf_Row_put (r := 34) (a := 35) (n := 11) rfl rfl _ _) rfl rfl rfl (by omega) rfl (fun r37 h38 hR39 hQ40 => ?_)
        obtain ⟨rfl, rfl⟩ := hQ40
        refine z_aload rfl rfl rfl ?_
        refine z_getr (r := 34) rfl rfl rfl rfl ?_
        refine z_const rfl ?_
        refine z_iload rfl rfl ?_
        have hJ42 : zW l E d zm_Laws_ask 70 [.inr (.inr 33), .inl x1, zJk, zJk, zJk, zJk, zJk, .inr (.inr 14), zJk] [.inl (if x5 = 0 then 0 else 1 : Int), .inl 6, .inr (.inr 34)] (rput (rput (rput (sh_Laws_askCall x2 x3 x6 (zst h 33 4 x1)) 35 11 3 (sh_Herd_get_14 x1 3 (sh_Laws_askCall x2 x3 x6 (zst h 33 4 x1)))) 35 11 4 (if (if sh_Herd_get_14 x1 0 (zst h 33 4 x1) = x2 then 1 else (if sh_Herd_get_14 x1 1 (zst h 33 4 x1) = x2 then 1 else 0 : Int) : Int) = 0 then 0 else (if x2 = (-1) then 0 else 1 : Int) : Int)) 35 11 5 (if x2 = (-1) then 0 else sh_Yard_far_1 x2 x4 (rput (rput (sh_Laws_askCall x2 x3 x6 (zst h 33 4 x1)) 35 11 3 (sh_Herd_get_14 x1 3 (sh_Laws_askCall x2 x3 x6 (zst h 33 4 x1)))) 35 11 4 (if (if sh_Herd_get_14 x1 0 (zst h 33 4 x1) = x2 then 1 else (if sh_Herd_get_14 x1 1 (zst h 33 4 x1) = x2 then 1 else 0 : Int) : Int) = 0 then 0 else (if x2 = (-1) then 0 else 1 : Int) : Int)) : Int)) Q := by
          refine z_inv0 (d' := d - 1) (As := [.inl 6, .inl (if x5 = 0 then 0 else 1 : Int)]) rfl rfl (zf_Row_put (r := 34) (a := 35) (n := 11) rfl rfl _ _) rfl rfl rfl (by omega) rfl (fun r43 h44 hR45 hQ46 => ?_)
          obtain ⟨rfl, rfl⟩ := hQ46
          refine z_aload rfl rfl rfl ?_
          refine z_getr (r := 34) rfl rfl rfl rfl ?_
          refine z_const rfl ?_
          refine z_iload rfl rfl ?_
          refine z_inv0 (d' := d - 1) (As := [.inl 7, .inl x1]) rfl rfl (zf_Row_put (r := 34) (a := 35) (n := 11) rfl rfl _ _) rfl rfl rfl (by omega) rfl (fun r47 h48 hR49 hQ50 => ?_)
          obtain ⟨rfl, rfl⟩ := hQ50
          refine z_aload rfl rfl rfl ?_
          refine z_getr (r := 34) rfl rfl rfl rfl ?_
          refine z_const rfl ?_
          refine z_aload rfl rfl rfl ?_
          refine z_iload rfl rfl ?_
          refine z_const rfl ?_
          refine z_inv1 (d' := d - 1) (As := [.inl x1, .inl 2]) rfl rfl (zf_Herd_get_14 (by omega) _ _) rfl rfl rfl (by omega) rfl (fun r51 h52 hR53 hQ54 => ?_)
          obtain ⟨rfl, rfl⟩ := hQ54
          refine z_inv0 (d' := d - 1) (As := [.inl 8, .inl (sh_Herd_get_14 x1 2 (rput (rput (rput (rput (rput (sh_Laws_askCall x2 x3 x6 (zst h 33 4 x1)) 35 11 3 (sh_Herd_get_14 x1 3 (sh_Laws_askCall x2 x3 x6 (zst h 33 4 x1)))) 35 11 4 (if (if sh_Herd_get_14 x1 0 (zst h 33 4 x1) = x2 then 1 else (if sh_Herd_get_14 x1 1 (zst h 33 4 x1) = x2 then 1 else 0 : Int) : Int) = 0 then 0 else (if x2 = (-1) then 0 else 1 : Int) : Int)) 35 11 5 (if x2 = (-1) then 0 else sh_Yard_far_1 x2 x4 (rput (rput (sh_Laws_askCall x2 x3 x6 (zst h 33 4 x1)) 35 11 3 (sh_Herd_get_14 x1 3 (sh_Laws_askCall x2 x3 x6 (zst h 33 4 x1)))) 35 11 4 (if (if sh_Herd_get_14 x1 0 (zst h 33 4 x1) = x2 then 1 else (if sh_Herd_get_14 x1 1 (zst h 33 4 x1) = x2 then 1 else 0 : Int) : Int) = 0 then 0 else (if x2 = (-1) then 0 else 1 : Int) : Int)) : Int)) 35 11 6 (if x5 = 0 then 0 else 1 : Int)) 35 11 7 x1))]) rfl rfl (zf_Row_put (r := 34) (a := 35) (n := 11) rfl rfl _ _) rfl rfl rfl (by omega) rfl (fun r55 h56 hR57 hQ58 => ?_)
          obtain ⟨rfl, rfl⟩ := hQ58
          subst hF
          exact z_ret rfl rfl rfl K
        refine z_zeq rfl (fun c41 => ?_) (fun c41 => ?_)
        · refine z_const rfl ?_
          refine zsubL (L' := [.inr (.inr 33), .inl x1, zJk, zJk, zJk, zJk, zJk, .inr (.inr 14), zJk]) ⟨Or.inl rfl, Or.inl rfl, Or.inl rfl, Or.inl rfl, Or.inl rfl, Or.inr rfl, Or.inl rfl, Or.inl rfl, Or.inl rfl, trivial⟩ ?_
          exact zcast (by first | rfl | (simp only [if_pos c41] <;> rfl)) (by first | rfl | (simp only [if_pos c41] <;> rfl)) hJ42
        · refine z_const rfl ?_
          refine z_goto rfl ?_
          refine zsubL (L' := [.inr (.inr 33), .inl x1, zJk, zJk, zJk, zJk, zJk, .inr (.inr 14), zJk]) ⟨Or.inl rfl, Or.inl rfl, Or.inl rfl, Or.inl rfl, Or.inl rfl, Or.inr rfl, Or.inl rfl, Or.inl rfl, Or.inl rfl, trivial⟩ ?_
          exact zcast (by first | rfl | (simp only [if_neg c41] <;> rfl)) (by first | rfl | (simp only [if_neg c41] <;> rfl)) hJ42
      refine z_cne rfl (fun c31 => ?_) (fun c31 => ?_)
      · refine z_aload rfl rfl rfl ?_
        refine z_getr (r := 1) rfl rfl rfl rfl ?_
        refine z_iload rfl rfl ?_
        refine z_iload rfl rfl ?_
        refine z_inv1 (d' := d - 1) (As := [.inl x2, .inl x4]) rfl rfl (zf_Yard_far_1 (by omega) _ _) rfl rfl rfl (by omega) rfl (fun r32 h33 hR34 hQ35 => ?_)
        obtain ⟨rfl, rfl⟩ := hQ35
        refine zsubL (L' := [.inr (.inr 33), .inl x1, zJk, zJk, zJk, .inl x5, zJk, .inr (.inr 14), zJk]) ⟨Or.inl rfl, Or.inl rfl, Or.inr rfl, Or.inl rfl, Or.inr rfl, Or.inl rfl, Or.inl rfl, Or.inl rfl, Or.inl rfl, trivial⟩ ?_
        exact zcast (by first | rfl | (simp only [if_neg c31] <;> rfl)) (by first | rfl | (simp only [if_neg c31] <;> rfl)) hJ36
      · refine z_const rfl ?_
        refine z_goto rfl ?_
        refine zsubL (L' := [.inr (.inr 33), .inl x1, zJk, zJk, zJk, .inl x5, zJk, .inr (.inr 14), zJk]) ⟨Or.inl rfl, Or.inl rfl, Or.inr rfl, Or.inl rfl, Or.inr rfl, Or.inl rfl, Or.inl rfl, Or.inl rfl, Or.inl rfl, trivial⟩ ?_
        exact zcast (by first | rfl | (simp only [if_pos c31] <;> rfl)) (by first | rfl | (simp only [if_pos c31] <;> rfl)) hJ36
    refine z_zeq rfl (fun c24 => ?_) (fun c24 => ?_)
    · refine z_const rfl ?_
      refine zsubL (L' := [.inr (.inr 33), .inl x1, .inl x2, zJk, .inl x4, .inl x5, zJk, .inr (.inr 14), zJk]) ⟨Or.inl rfl, Or.inl rfl, Or.inl rfl, Or.inr rfl, Or.inl rfl, Or.inl rfl, Or.inr rfl, Or.inl rfl, Or.inr rfl, trivial⟩ ?_
      exact zcast (by first | rfl | (simp only [if_pos c24] <;> rfl)) (by first | rfl | (simp only [if_pos c24] <;> rfl)) hJ26
    · refine z_iload rfl rfl ?_
      refine z_const rfl ?_
      refine z_ceq rfl (fun c25 => ?_) (fun c25 => ?_)
      · refine z_const rfl ?_
        refine zsubL (L' := [.inr (.inr 33), .inl x1, .inl x2, zJk, .inl x4, .inl x5, zJk, .inr (.inr 14), zJk]) ⟨Or.inl rfl, Or.inl rfl, Or.inl rfl, Or.inr rfl, Or.inl rfl, Or.inl rfl, Or.inr rfl, Or.inl rfl, Or.inr rfl, trivial⟩ ?_
        exact zcast (by first | rfl | (simp only [if_neg c24, if_pos c25] <;> rfl)) (by first | rfl | (simp only [if_neg c24, if_pos c25] <;> rfl)) hJ26
      · refine z_const rfl ?_
        refine z_goto rfl ?_
        refine zsubL (L' := [.inr (.inr 33), .inl x1, .inl x2, zJk, .inl x4, .inl x5, zJk, .inr (.inr 14), zJk]) ⟨Or.inl rfl, Or.inl rfl, Or.inl rfl, Or.inr rfl, Or.inl rfl, Or.inl rfl, Or.inr rfl, Or.inl rfl, Or.inr rfl, trivial⟩ ?_
        exact zcast (by first | rfl | (simp only [if_neg c24, if_neg c25] <;> rfl)) (by first | rfl | (simp only [if_neg c24, if_neg c25] <;> rfl)) hJ26
  refine z_ceq rfl (fun c5 => ?_) (fun c5 => ?_)
  · refine z_const rfl ?_
    refine z_goto rfl ?_
    exact zcast (by first | rfl | (simp only [if_pos c5] <;> rfl)) (by first | rfl | (simp only [if_pos c5] <;> rfl)) hJ11
  · refine z_aload rfl rfl rfl ?_
    refine z_iload rfl rfl ?_
    refine z_const rfl ?_
    refine z_inv1 (d' := d - 1) (As := [.inl x1, .inl 1]) rfl rfl (zf_Herd_get_14 (by omega) _ _) rfl rfl rfl (by omega) rfl (fun r6 h7 hR8 hQ9 => ?_)
    obtain ⟨rfl, rfl⟩ := hQ9
    refine z_iload rfl rfl ?_
    refine z_cne rfl (fun c10 => ?_) (fun c10 => ?_)
    · refine z_const rfl ?_
      exact zcast (by first | rfl | (simp only [if_neg c5, if_neg c10] <;> rfl)) (by first | rfl | (simp only [if_neg c5, if_neg c10] <;> rfl)) hJ11
    · refine z_const rfl ?_
      refine z_goto rfl ?_
      exact zcast (by first | rfl | (simp only [if_neg c5, if_pos c10] <;> rfl)) (by first | rfl | (simp only [if_neg c5, if_pos c10] <;> rfl)) hJ11
set_option maxRecDepth 100000 in
theorem zf_Laws_ask {l : Launch} {E : zE} {d : Nat} (hd : 3 ≤ d) (x1 x2 x3 x4 x5 x6 : Int) {h : zHp} : zC l E d zm_Laws_ask [.inr (.inr 33), .inl x1, .inl x2, .inl x3, .inl x4, .inl x5, .inl x6] h (fun r1 h1 => 0 = r1 ∧ sh_Laws_ask x1 x2 x3 x4 x5 x6 h = h1) :=
  zC_of zk_Laws_ask (by decide) rfl rfl (Nat.le_of_ble_eq_true rfl) (zw_Laws_ask hd _ _ _ _ _ _ rfl ⟨rfl, rfl⟩)
def sh_Laws_joined (N : Nat) (x0 x1 x3 : Int) (h : zHp) : Option Int := (if x0 = 16 then some (zlor x1 x3) else if x0 = 17 then some (zland x1 x3) else if x0 = 18 then (if zcmp x3 0 = 0 then some 0 else if ¬ x3 = 0 then some (w64 ((x1).tdiv x3)) else none) else if x0 = 19 then (if zcmp x3 0 = 0 then some 0 else if ¬ x3 = 0 then some (w64 ((x1).tdiv x3)) else none) else if x0 = 20 then some (if 0 ≤ zcmp x1 x3 then 0 else 1 : Int) else if x0 = 21 then some (if zcmp x1 x3 ≤ 0 then 0 else 1 : Int) else if x0 = 22 then some (if zcmp x1 x3 = 0 then 1 else 0 : Int) else if x0 = 23 then some (if zcmp x1 x3 = 0 then 0 else 1 : Int) else if x0 = 24 then some (w64 (x1 + x3)) else if x0 = 25 then some (w64 (x1 - x3)) else if x0 = 26 then some (w64 (x1 * x3)) else if x0 = 27 then (if zcmp x3 0 = 0 then some 0 else if ¬ x3 = 0 then some (w64 ((x1).tdiv x3)) else none) else if x0 = 28 then (if zcmp x3 0 = 0 then some 0 else if ¬ x3 = 0 then some (w64 ((x1).tdiv x3)) else none) else if x0 = 29 then (if zcmp x3 0 = 0 then some 0 else if ¬ x3 = 0 then some (w64 ((x1).tdiv x3)) else none) else if x0 = 30 then (if zcmp x3 0 = 0 then some 0 else if ¬ x3 = 0 then some (w64 ((x1).tdiv x3)) else none) else if x0 = 31 then some (if 0 < zcmp x1 x3 then 0 else 1 : Int) else if x0 = 32 then some (if zcmp x1 x3 < 0 then 0 else 1 : Int) else (if zcmp x3 0 = 0 then some 0 else if ¬ x3 = 0 then some (w64 ((x1).tdiv x3)) else none))
set_option maxRecDepth 100000 in
set_option maxHeartbeats 4000000 in
theorem zw_Laws_joined {l : Launch} {E : zE} {d : Nat} (hd : 1 ≤ d) (N : Nat) (x0 x1 x3 : Int) {h : zHp} {Q : Int → zHp → Prop} {r0 : Int} (hF : sh_Laws_joined N x0 x1 x3 h = some r0) (K : Q r0 h) : zW l E d zm_Laws_joined 0 [.inl x0, .inr (.inl x1), zJk, .inr (.inl x3), zJk] [] h Q := by
  rw [sh_Laws_joined] at hF
  refine z_iload rfl rfl ?_
  refine z_switch rfl (by unfold zI32; omega) (by decide) (fun c1 => ?_) (fun j t ht e => ?_)
  · simp only [List.length_cons, List.length_nil] at c1
    rw [if_neg (by omega), if_neg (by omega), if_neg (by omega), if_neg (by omega), if_neg (by omega), if_neg (by omega), if_neg (by omega), if_neg (by omega), if_neg (by omega), if_neg (by omega), if_neg (by omega), if_neg (by omega), if_neg (by omega), if_neg (by omega), if_neg (by omega), if_neg (by omega), if_neg (by omega)] at hF
    refine z_lload rfl rfl ?_
    refine z_lconst rfl ?_
    refine z_lcmp rfl ?_
    refine z_zne rfl (fun c3 => ?_) (fun c3 => ?_)
    · rw [if_neg c3] at hF
      refine z_lload rfl rfl ?_
      refine z_lload rfl rfl ?_
      obtain ⟨g4, hF⟩ := zguard hF
      refine z_ldiv rfl g4 ?_
      obtain rfl := Option.some.inj hF
      exact z_lret rfl rfl K
    · rw [if_pos c3] at hF
      refine z_lconst rfl ?_
      refine z_goto rfl ?_
      obtain rfl := Option.some.inj hF
      exact z_lret rfl rfl K
  · match j, ht, e with
    | 0, ht, e =>
      obtain rfl : 2 = t := Option.some.inj ht
      rw [if_pos (by omega)] at hF
      refine z_lload rfl rfl ?_
      refine z_lload rfl rfl ?_
      refine z_lor rfl ?_
      obtain rfl := Option.some.inj hF
      exact z_lret rfl rfl K
    | 1, ht, e =>
      obtain rfl : 6 = t := Option.some.inj ht
      rw [if_neg (by omega), if_pos (by omega)] at hF
      refine z_lload rfl rfl ?_
      refine z_lload rfl rfl ?_
      refine z_land rfl ?_
      obtain rfl := Option.some.inj hF
      exact z_lret rfl rfl K
    | 2, ht, e =>
      obtain rfl : 70 = t := Option.some.inj ht
      rw [if_neg (by omega), if_neg (by omega), if_pos (by omega)] at hF
      refine z_lload rfl rfl ?_
      refine z_lconst rfl ?_
      refine z_lcmp rfl ?_
      refine z_zne rfl (fun c6 => ?_) (fun c6 => ?_)
      · rw [if_neg c6] at hF
        refine z_lload rfl rfl ?_
        refine z_lload rfl rfl ?_
        obtain ⟨g7, hF⟩ := zguard hF
        refine z_ldiv rfl g7 ?_
        obtain rfl := Option.some.inj hF
        exact z_lret rfl rfl K
      · rw [if_pos c6] at hF
        refine z_lconst rfl ?_
        refine z_goto rfl ?_
        obtain rfl := Option.some.inj hF
        exact z_lret rfl rfl K
    | 3, ht, e =>
      obtain rfl : 70 = t := Option.some.inj ht
      rw [if_neg (by omega), if_neg (by omega), if_neg (by omega), if_pos (by omega)] at hF
      refine z_lload rfl rfl ?_
      refine z_lconst rfl ?_
      refine z_lcmp rfl ?_
      refine z_zne rfl (fun c9 => ?_) (fun c9 => ?_)
      · rw [if_neg c9] at hF
        refine z_lload rfl rfl ?_
        refine z_lload rfl rfl ?_
        obtain ⟨g10, hF⟩ := zguard hF
        refine z_ldiv rfl g10 ?_
        obtain rfl := Option.some.inj hF
        exact z_lret rfl rfl K
      · rw [if_pos c9] at hF
        refine z_lconst rfl ?_
        refine z_goto rfl ?_
        obtain rfl := Option.some.inj hF
        exact z_lret rfl rfl K
    | 4, ht, e =>
      obtain rfl : 10 = t := Option.some.inj ht
      rw [if_neg (by omega), if_neg (by omega), if_neg (by omega), if_neg (by omega), if_pos (by omega)] at hF
      refine z_lload rfl rfl ?_
      refine z_lload rfl rfl ?_
      refine z_lcmp rfl ?_
      have hJ12 : zW l E d zm_Laws_joined 17 [zJk, zJk, zJk, zJk, zJk] [.inr (.inl (if 0 ≤ zcmp x1 x3 then 0 else 1 : Int))] h Q := by
        obtain rfl := Option.some.inj hF
        exact z_lret rfl rfl K
      refine z_zge rfl (fun c11 => ?_) (fun c11 => ?_)
      · refine z_lconst rfl ?_
        refine zsubL (L' := [zJk, zJk, zJk, zJk, zJk]) ⟨Or.inr rfl, Or.inr rfl, Or.inl rfl, Or.inr rfl, Or.inl rfl, trivial⟩ ?_
        exact zcast (by first | rfl | (simp only [if_pos c11] <;> rfl)) (by first | rfl | (simp only [if_pos c11] <;> rfl)) hJ12
      · refine z_lconst rfl ?_
        refine z_goto rfl ?_
        refine zsubL (L' := [zJk, zJk, zJk, zJk, zJk]) ⟨Or.inr rfl, Or.inr rfl, Or.inl rfl, Or.inr rfl, Or.inl rfl, trivial⟩ ?_
        exact zcast (by first | rfl | (simp only [if_neg c11] <;> rfl)) (by first | rfl | (simp only [if_neg c11] <;> rfl)) hJ12
    | 5, ht, e =>
      obtain rfl : 26 = t := Option.some.inj ht
      rw [if_neg (by omega), if_neg (by omega), if_neg (by omega), if_neg (by omega), if_neg (by omega), if_pos (by omega)] at hF
      refine z_lload rfl rfl ?_
      refine z_lload rfl rfl ?_
      refine z_lcmp rfl ?_
      have hJ14 : zW l E d zm_Laws_joined 33 [zJk, zJk, zJk, zJk, zJk] [.inr (.inl (if zcmp x1 x3 ≤ 0 then 0 else 1 : Int))] h Q := by
        obtain rfl := Option.some.inj hF
        exact z_lret rfl rfl K
      refine z_zle rfl (fun c13 => ?_) (fun c13 => ?_)
      · refine z_lconst rfl ?_
        refine zsubL (L' := [zJk, zJk, zJk, zJk, zJk]) ⟨Or.inr rfl, Or.inr rfl, Or.inl rfl, Or.inr rfl, Or.inl rfl, trivial⟩ ?_
        exact zcast (by first | rfl | (simp only [if_pos c13] <;> rfl)) (by first | rfl | (simp only [if_pos c13] <;> rfl)) hJ14
      · refine z_lconst rfl ?_
        refine z_goto rfl ?_
        refine zsubL (L' := [zJk, zJk, zJk, zJk, zJk]) ⟨Or.inr rfl, Or.inr rfl, Or.inl rfl, Or.inr rfl, Or.inl rfl, trivial⟩ ?_
        exact zcast (by first | rfl | (simp only [if_neg c13] <;> rfl)) (by first | rfl | (simp only [if_neg c13] <;> rfl)) hJ14
    | 6, ht, e =>
      obtain rfl : 42 = t := Option.some.inj ht
      rw [if_neg (by omega), if_neg (by omega), if_neg (by omega), if_neg (by omega), if_neg (by omega), if_neg (by omega), if_pos (by omega)] at hF
      refine z_lload rfl rfl ?_
      refine z_lload rfl rfl ?_
      refine z_lcmp rfl ?_
      have hJ16 : zW l E d zm_Laws_joined 49 [zJk, zJk, zJk, zJk, zJk] [.inr (.inl (if zcmp x1 x3 = 0 then 1 else 0 : Int))] h Q := by
        obtain rfl := Option.some.inj hF
        exact z_lret rfl rfl K
      refine z_zne rfl (fun c15 => ?_) (fun c15 => ?_)
      · refine z_lconst rfl ?_
        refine zsubL (L' := [zJk, zJk, zJk, zJk, zJk]) ⟨Or.inr rfl, Or.inr rfl, Or.inl rfl, Or.inr rfl, Or.inl rfl, trivial⟩ ?_
        exact zcast (by first | rfl | (simp only [if_neg c15] <;> rfl)) (by first | rfl | (simp only [if_neg c15] <;> rfl)) hJ16
      · refine z_lconst rfl ?_
        refine z_goto rfl ?_
        refine zsubL (L' := [zJk, zJk, zJk, zJk, zJk]) ⟨Or.inr rfl, Or.inr rfl, Or.inl rfl, Or.inr rfl, Or.inl rfl, trivial⟩ ?_
        exact zcast (by first | rfl | (simp only [if_pos c15] <;> rfl)) (by first | rfl | (simp only [if_pos c15] <;> rfl)) hJ16
    | 7, ht, e =>
      obtain rfl : 50 = t := Option.some.inj ht
      rw [if_neg (by omega), if_neg (by omega), if_neg (by omega), if_neg (by omega), if_neg (by omega), if_neg (by omega), if_neg (by omega), if_pos (by omega)] at hF
      refine z_lload rfl rfl ?_
      refine z_lload rfl rfl ?_
      refine z_lcmp rfl ?_
      have hJ18 : zW l E d zm_Laws_joined 57 [zJk, zJk, zJk, zJk, zJk] [.inr (.inl (if zcmp x1 x3 = 0 then 0 else 1 : Int))] h Q := by
        obtain rfl := Option.some.inj hF
        exact z_lret rfl rfl K
      refine z_zeq rfl (fun c17 => ?_) (fun c17 => ?_)
      · refine z_lconst rfl ?_
        refine zsubL (L' := [zJk, zJk, zJk, zJk, zJk]) ⟨Or.inr rfl, Or.inr rfl, Or.inl rfl, Or.inr rfl, Or.inl rfl, trivial⟩ ?_
        exact zcast (by first | rfl | (simp only [if_pos c17] <;> rfl)) (by first | rfl | (simp only [if_pos c17] <;> rfl)) hJ18
      · refine z_lconst rfl ?_
        refine z_goto rfl ?_
        refine zsubL (L' := [zJk, zJk, zJk, zJk, zJk]) ⟨Or.inr rfl, Or.inr rfl, Or.inl rfl, Or.inr rfl, Or.inl rfl, trivial⟩ ?_
        exact zcast (by first | rfl | (simp only [if_neg c17] <;> rfl)) (by first | rfl | (simp only [if_neg c17] <;> rfl)) hJ18
    | 8, ht, e =>
      obtain rfl : 58 = t := Option.some.inj ht
      rw [if_neg (by omega), if_neg (by omega), if_neg (by omega), if_neg (by omega), if_neg (by omega), if_neg (by omega), if_neg (by omega), if_neg (by omega), if_pos (by omega)] at hF
      refine z_lload rfl rfl ?_
      refine z_lload rfl rfl ?_
      refine z_ladd rfl ?_
      obtain rfl := Option.some.inj hF
      exact z_lret rfl rfl K
    | 9, ht, e =>
      obtain rfl : 62 = t := Option.some.inj ht
      rw [if_neg (by omega), if_neg (by omega), if_neg (by omega), if_neg (by omega), if_neg (by omega), if_neg (by omega), if_neg (by omega), if_neg (by omega), if_neg (by omega), if_pos (by omega)] at hF
      refine z_lload rfl rfl ?_
      refine z_lload rfl rfl ?_
      refine z_lsub rfl ?_
      obtain rfl := Option.some.inj hF
      exact z_lret rfl rfl K
    | 10, ht, e =>
      obtain rfl : 66 = t := Option.some.inj ht
      rw [if_neg (by omega), if_neg (by omega), if_neg (by omega), if_neg (by omega), if_neg (by omega), if_neg (by omega), if_neg (by omega), if_neg (by omega), if_neg (by omega), if_neg (by omega), if_pos (by omega)] at hF
      refine z_lload rfl rfl ?_
      refine z_lload rfl rfl ?_
      refine z_lmul rfl ?_
      obtain rfl := Option.some.inj hF
      exact z_lret rfl rfl K
    | 11, ht, e =>
      obtain rfl : 70 = t := Option.some.inj ht
      rw [if_neg (by omega), if_neg (by omega), if_neg (by omega), if_neg (by omega), if_neg (by omega), if_neg (by omega), if_neg (by omega), if_neg (by omega), if_neg (by omega), if_neg (by omega), if_neg (by omega), if_pos (by omega)] at hF
      refine z_lload rfl rfl ?_
      refine z_lconst rfl ?_
      refine z_lcmp rfl ?_
      refine z_zne rfl (fun c20 => ?_) (fun c20 => ?_)
      · rw [if_neg c20] at hF
        refine z_lload rfl rfl ?_
        refine z_lload rfl rfl ?_
        obtain ⟨g21, hF⟩ := zguard hF
        refine z_ldiv rfl g21 ?_
        obtain rfl := Option.some.inj hF
        exact z_lret rfl rfl K
      · rw [if_pos c20] at hF
        refine z_lconst rfl ?_
        refine z_goto rfl ?_
        obtain rfl := Option.some.inj hF
        exact z_lret rfl rfl K
    | 12, ht, e =>
      obtain rfl : 70 = t := Option.some.inj ht
      rw [if_neg (by omega), if_neg (by omega), if_neg (by omega), if_neg (by omega), if_neg (by omega), if_neg (by omega), if_neg (by omega), if_neg (by omega), if_neg (by omega), if_neg (by omega), if_neg (by omega), if_neg (by omega), if_pos (by omega)] at hF
      refine z_lload rfl rfl ?_
      refine z_lconst rfl ?_
      refine z_lcmp rfl ?_
      refine z_zne rfl (fun c23 => ?_) (fun c23 => ?_)
      · rw [if_neg c23] at hF
        refine z_lload rfl rfl ?_
        refine z_lload rfl rfl ?_
        obtain ⟨g24, hF⟩ := zguard hF
        refine z_ldiv rfl g24 ?_
        obtain rfl := Option.some.inj hF
        exact z_lret rfl rfl K
      · rw [if_pos c23] at hF
        refine z_lconst rfl ?_
        refine z_goto rfl ?_
        obtain rfl := Option.some.inj hF
        exact z_lret rfl rfl K
    | 13, ht, e =>
      obtain rfl : 70 = t := Option.some.inj ht
      rw [if_neg (by omega), if_neg (by omega), if_neg (by omega), if_neg (by omega), if_neg (by omega), if_neg (by omega), if_neg (by omega), if_neg (by omega), if_neg (by omega), if_neg (by omega), if_neg (by omega), if_neg (by omega), if_neg (by omega), if_pos (by omega)] at hF
      refine z_lload rfl rfl ?_
      refine z_lconst rfl ?_
      refine z_lcmp rfl ?_
      refine z_zne rfl (fun c26 => ?_) (fun c26 => ?_)
      · rw [if_neg c26] at hF
        refine z_lload rfl rfl ?_
        refine z_lload rfl rfl ?_
        obtain ⟨g27, hF⟩ := zguard hF
        refine z_ldiv rfl g27 ?_
        obtain rfl := Option.some.inj hF
        exact z_lret rfl rfl K
      · rw [if_pos c26] at hF
        refine z_lconst rfl ?_
        refine z_goto rfl ?_
        obtain rfl := Option.some.inj hF
        exact z_lret rfl rfl K
    | 14, ht, e =>
      obtain rfl : 70 = t := Option.some.inj ht
      rw [if_neg (by omega), if_neg (by omega), if_neg (by omega), if_neg (by omega), if_neg (by omega), if_neg (by omega), if_neg (by omega), if_neg (by omega), if_neg (by omega), if_neg (by omega), if_neg (by omega), if_neg (by omega), if_neg (by omega), if_neg (by omega), if_pos (by omega)] at hF
      refine z_lload rfl rfl ?_
      refine z_lconst rfl ?_
      refine z_lcmp rfl ?_
      refine z_zne rfl (fun c29 => ?_) (fun c29 => ?_)
      · rw [if_neg c29] at hF
        refine z_lload rfl rfl ?_
        refine z_lload rfl rfl ?_
        obtain ⟨g30, hF⟩ := zguard hF
        refine z_ldiv rfl g30 ?_
        obtain rfl := Option.some.inj hF
        exact z_lret rfl rfl K
      · rw [if_pos c29] at hF
        refine z_lconst rfl ?_
        refine z_goto rfl ?_
        obtain rfl := Option.some.inj hF
        exact z_lret rfl rfl K
    | 15, ht, e =>
      obtain rfl : 18 = t := Option.some.inj ht
      rw [if_neg (by omega), if_neg (by omega), if_neg (by omega), if_neg (by omega), if_neg (by omega), if_neg (by omega), if_neg (by omega), if_neg (by omega), if_neg (by omega), if_neg (by omega), if_neg (by omega), if_neg (by omega), if_neg (by omega), if_neg (by omega), if_neg (by omega), if_pos (by omega)] at hF
      refine z_lload rfl rfl ?_
      refine z_lload rfl rfl ?_
      refine z_lcmp rfl ?_
      have hJ32 : zW l E d zm_Laws_joined 25 [zJk, zJk, zJk, zJk, zJk] [.inr (.inl (if 0 < zcmp x1 x3 then 0 else 1 : Int))] h Q := by
        obtain rfl := Option.some.inj hF
        exact z_lret rfl rfl K
      refine z_zgt rfl (fun c31 => ?_) (fun c31 => ?_)
      · refine z_lconst rfl ?_
        refine zsubL (L' := [zJk, zJk, zJk, zJk, zJk]) ⟨Or.inr rfl, Or.inr rfl, Or.inl rfl, Or.inr rfl, Or.inl rfl, trivial⟩ ?_
        exact zcast (by first | rfl | (simp only [if_pos c31] <;> rfl)) (by first | rfl | (simp only [if_pos c31] <;> rfl)) hJ32
      · refine z_lconst rfl ?_
        refine z_goto rfl ?_
        refine zsubL (L' := [zJk, zJk, zJk, zJk, zJk]) ⟨Or.inr rfl, Or.inr rfl, Or.inl rfl, Or.inr rfl, Or.inl rfl, trivial⟩ ?_
        exact zcast (by first | rfl | (simp only [if_neg c31] <;> rfl)) (by first | rfl | (simp only [if_neg c31] <;> rfl)) hJ32
    | 16, ht, e =>
      obtain rfl : 34 = t := Option.some.inj ht
      rw [if_neg (by omega), if_neg (by omega), if_neg (by omega), if_neg (by omega), if_neg (by omega), if_neg (by omega), if_neg (by omega), if_neg (by omega), if_neg (by omega), if_neg (by omega), if_neg (by omega), if_neg (by omega), if_neg (by omega), if_neg (by omega), if_neg (by omega), if_neg (by omega), if_pos (by omega)] at hF
      refine z_lload rfl rfl ?_
      refine z_lload rfl rfl ?_
      refine z_lcmp rfl ?_
      have hJ34 : zW l E d zm_Laws_joined 41 [zJk, zJk, zJk, zJk, zJk] [.inr (.inl (if zcmp x1 x3 < 0 then 0 else 1 : Int))] h Q := by
        obtain rfl := Option.some.inj hF
        exact z_lret rfl rfl K
      refine z_zlt rfl (fun c33 => ?_) (fun c33 => ?_)
      · refine z_lconst rfl ?_
        refine zsubL (L' := [zJk, zJk, zJk, zJk, zJk]) ⟨Or.inr rfl, Or.inr rfl, Or.inl rfl, Or.inr rfl, Or.inl rfl, trivial⟩ ?_
        exact zcast (by first | rfl | (simp only [if_pos c33] <;> rfl)) (by first | rfl | (simp only [if_pos c33] <;> rfl)) hJ34
      · refine z_lconst rfl ?_
        refine z_goto rfl ?_
        refine zsubL (L' := [zJk, zJk, zJk, zJk, zJk]) ⟨Or.inr rfl, Or.inr rfl, Or.inl rfl, Or.inr rfl, Or.inl rfl, trivial⟩ ?_
        exact zcast (by first | rfl | (simp only [if_neg c33] <;> rfl)) (by first | rfl | (simp only [if_neg c33] <;> rfl)) hJ34
    | j + 17, ht, e => cases ht
set_option maxRecDepth 100000 in
theorem zf_Laws_joined {l : Launch} {E : zE} {d : Nat} (hd : 1 ≤ d) (N : Nat) (x0 x1 x3 : Int) {h : zHp} {r0 : Int} (hF : sh_Laws_joined N x0 x1 x3 h = some r0) : zC l E d zm_Laws_joined [.inl x0, .inr (.inl x1), .inr (.inl x3)] h (fun r1 h1 => r0 = r1 ∧ h = h1) :=
  zC_of zk_Laws_joined (by decide) rfl rfl (Nat.le_of_ble_eq_true rfl) (zw_Laws_joined hd N _ _ _ hF ⟨rfl, rfl⟩)
def sh_Laws_between (x0 x2 x3 : Int) : Int := (if 0 ≤ zcmp x0 x2 then (if zcmp x0 x3 ≤ 0 then w32 x0 else x3 : Int) else x2 : Int)
set_option maxRecDepth 100000 in
set_option maxHeartbeats 4000000 in
theorem zw_Laws_between {l : Launch} {E : zE} {d : Nat} (hd : 1 ≤ d) (x0 x2 x3 : Int) {h : zHp} {Q : Int → zHp → Prop} {r0 : Int} (hF : sh_Laws_between x0 x2 x3 = r0) (K : Q r0 h) : zW l E d zm_Laws_between 0 [.inr (.inl x0), zJk, .inl x2, .inl x3] [] h Q := by
  rw [sh_Laws_between] at hF
  refine z_lload rfl rfl ?_
  refine z_iload rfl rfl ?_
  refine z_i2l rfl ?_
  refine z_lcmp rfl ?_
  have hJ3 : zW l E d zm_Laws_between 16 [zJk, zJk, zJk, zJk] [.inl (if 0 ≤ zcmp x0 x2 then (if zcmp x0 x3 ≤ 0 then w32 x0 else x3 : Int) else x2 : Int)] h Q := by
    subst hF
    exact z_iret rfl rfl K
  refine z_zge rfl (fun c1 => ?_) (fun c1 => ?_)
  · refine z_lload rfl rfl ?_
    refine z_iload rfl rfl ?_
    refine z_i2l rfl ?_
    refine z_lcmp rfl ?_
    refine z_zle rfl (fun c2 => ?_) (fun c2 => ?_)
    · refine z_lload rfl rfl ?_
      refine z_l2i rfl ?_
      refine zsubL (L' := [zJk, zJk, zJk, zJk]) ⟨Or.inr rfl, Or.inl rfl, Or.inr rfl, Or.inr rfl, trivial⟩ ?_
      exact zcast (by first | rfl | (simp only [if_pos c1, if_pos c2] <;> rfl)) (by first | rfl | (simp only [if_pos c1, if_pos c2] <;> rfl)) hJ3
    · refine z_iload rfl rfl ?_
      refine z_goto rfl ?_
      refine zsubL (L' := [zJk, zJk, zJk, zJk]) ⟨Or.inr rfl, Or.inl rfl, Or.inr rfl, Or.inr rfl, trivial⟩ ?_
      exact zcast (by first | rfl | (simp only [if_pos c1, if_neg c2] <;> rfl)) (by first | rfl | (simp only [if_pos c1, if_neg c2] <;> rfl)) hJ3
  · refine z_iload rfl rfl ?_
    refine z_goto rfl ?_
    refine zsubL (L' := [zJk, zJk, zJk, zJk]) ⟨Or.inr rfl, Or.inl rfl, Or.inr rfl, Or.inr rfl, trivial⟩ ?_
    exact zcast (by first | rfl | (simp only [if_neg c1] <;> rfl)) (by first | rfl | (simp only [if_neg c1] <;> rfl)) hJ3
set_option maxRecDepth 100000 in
theorem zf_Laws_between {l : Launch} {E : zE} {d : Nat} (hd : 1 ≤ d) (x0 x2 x3 : Int) {h : zHp} : zC l E d zm_Laws_between [.inr (.inl x0), .inl x2, .inl x3] h (fun r1 h1 => sh_Laws_between x0 x2 x3 = r1 ∧ h = h1) :=
  zC_of zk_Laws_between (by decide) rfl rfl (Nat.le_of_ble_eq_true rfl) (zw_Laws_between hd _ _ _ rfl ⟨rfl, rfl⟩)
def sh_Laws_value_L40 (N : Nat) : Nat → Int → Int → Int → zHp → Option (Int × zHp)
  | 0, _, _, _, _ => none
  | n + 1, x4, x5, x6, h => (if x4 ≤ x6 then some (x5, h) else (if 10000 ≤ rget h 28 1200 x6 then (if 20000 ≤ rget h 28 1200 x6 then (if rget h 28 1200 x6 = 20018 then sh_Laws_value_L40 N n x4 x5 (w32 (x6 + 1)) (rput h 37 64 x5 (w32 (1 - (rget h 37 64 x5)))) else (if rget h 28 1200 x6 = 20033 then sh_Laws_value_L40 N n x4 x5 (w32 (x6 + 1)) (rput h 37 64 x5 (w32 (-(rget h 37 64 x5)))) else zb1 (sh_Laws_joined N (w32 ((rget h 28 1200 x6) - 20000)) (rget h 37 64 (w32 (x5 + (-1)))) (rget h 37 64 (w32 ((w32 (x5 + (-1))) + 1))) h) fun r75 => sh_Laws_value_L40 N n x4 (w32 (x5 + (-1))) (w32 (x6 + 1)) (rput h 37 64 (w32 (x5 + (-1))) (sh_Laws_between r75 (-1000000) 1000000)))) else sh_Laws_value_L40 N n x4 (w32 (x5 + 1)) (w32 (x6 + 1)) (rput h 37 64 (w32 (x5 + 1)) (rget h 35 11 (w32 ((rget h 28 1200 x6) - 10000))))) else sh_Laws_value_L40 N n x4 (w32 (x5 + 1)) (w32 (x6 + 1)) (rput h 37 64 (w32 (x5 + 1)) (rget h 28 1200 x6))))
def sh_Laws_value (N : Nat) (x1 x2 : Int) (h : zHp) : Option (Int × zHp) := (if h 1 13 = (-1) then some (x2, h) else (if rget h 30 20 (w32 ((w32 ((h 1 13) * 5)) + x1)) < rget h 32 20 (w32 ((w32 ((h 1 13) * 5)) + x1)) then zb2 (sh_Laws_value_L40 N N (rget h 32 20 (w32 ((w32 ((h 1 13) * 5)) + x1))) (-1) (rget h 30 20 (w32 ((w32 ((h 1 13) * 5)) + x1))) h) fun y113 h114 => some (rget h114 37 64 y113, h114) else some (x2, h)))
set_option maxRecDepth 100000 in
set_option maxHeartbeats 4000000 in
theorem zl_Laws_value_L40 {l : Launch} {E : zE} {d : Nat} (hd : 2 ≤ d) (N : Nat) {Q : Int → zHp → Prop} {o5 : Int} {oh : zHp} (K1 : zW l E d zm_Laws_value 129 [.inr (.inr 33), zJk, zJk, zJk, zJk, .inl o5, zJk, zJk, zJk, zJk] [] oh Q) : ∀ (n : Nat) (x4 x5 x6 : Int) (h : zHp), sh_Laws_value_L40 N n x4 x5 x6 h = some (o5, oh) → zW l E d zm_Laws_value 40 [.inr (.inr 33), zJk, zJk, zJk, .inl x4, .inl x5, .inl x6, zJk, zJk, zJk] [] h Q := by
  intro n
  induction n with
  | zero =>
    intro x4 x5 x6 h hF
    cases (show (none : Option (Int × zHp)) = some (o5, oh) from hF)
  | succ n ih =>
    intro x4 x5 x6 h hF
    rw [sh_Laws_value_L40] at hF
    refine z_iload rfl rfl ?_
    refine z_iload rfl rfl ?_
    refine z_cge rfl (fun c11 => ?_) (fun c11 => ?_)
    · rw [if_pos c11] at hF
      refine zsubL (L' := [.inr (.inr 33), zJk, zJk, zJk, zJk, .inl x5, zJk, zJk, zJk, zJk]) ⟨Or.inl rfl, Or.inl rfl, Or.inl rfl, Or.inl rfl, Or.inr rfl, Or.inl rfl, Or.inr rfl, Or.inl rfl, Or.inl rfl, Or.inl rfl, trivial⟩ ?_
      obtain ⟨rfl, rfl⟩ := zinj2 hF
      exact K1
    · rw [if_neg c11] at hF
      refine z_aload rfl rfl rfl ?_
      refine z_getr (r := 26) rfl rfl rfl rfl ?_
      refine z_getr (r := 27) rfl rfl rfl rfl ?_
      refine z_iload rfl rfl ?_
      refine z_inv1 (d' := d - 1) (As := [.inl x6]) rfl rfl (zf_Row_get (r := 27) (a := 28) (n := 1200) rfl rfl _) rfl rfl rfl (by omega) rfl (fun r12 h13 hR14 hQ15 => ?_)
      obtain ⟨rfl, rfl⟩ := hQ15
      refine z_istore rfl rfl rfl ?_
      refine z_iload rfl rfl ?_
      refine z_const rfl ?_
      refine z_cge rfl (fun c28 => ?_) (fun c28 => ?_)
      · rw [if_pos c28] at hF
        refine z_iload rfl rfl ?_
        refine z_const rfl ?_
        refine z_cge rfl (fun c40 => ?_) (fun c40 => ?_)
        · rw [if_pos c40] at hF
          refine z_iload rfl rfl ?_
          refine z_const rfl ?_
          refine z_cne rfl (fun c51 => ?_) (fun c51 => ?_)
          · rw [if_neg c51] at hF
            refine z_iload rfl rfl ?_
            refine z_const rfl ?_
            refine z_cne rfl (fun c61 => ?_) (fun c61 => ?_)
            · rw [if_neg c61] at hF
              refine z_iinc rfl rfl rfl ?_
              refine z_iload rfl rfl ?_
              refine z_const rfl ?_
              refine z_isub rfl ?_
              refine z_aload rfl rfl rfl ?_
              refine z_getr (r := 36) rfl rfl rfl rfl ?_
              refine z_iload rfl rfl ?_
              refine z_inv1 (d' := d - 1) (As := [.inl (w32 (x5 + (-1)))]) rfl rfl (zf_Row_get (r := 36) (a := 37) (n := 64) rfl rfl _) rfl rfl rfl (by omega) rfl (fun r62 h63 hR64 hQ65 => ?_)
              obtain ⟨rfl, rfl⟩ := hQ65
              refine z_i2l rfl ?_
              refine z_aload rfl rfl rfl ?_
              refine z_getr (r := 36) rfl rfl rfl rfl ?_
              refine z_iload rfl rfl ?_
              refine z_const rfl ?_
              refine z_iadd rfl ?_
              refine z_inv1 (d' := d - 1) (As := [.inl (w32 ((w32 (x5 + (-1))) + 1))]) rfl rfl (zf_Row_get (r := 36) (a := 37) (n := 64) rfl rfl _) rfl rfl rfl (by omega) rfl (fun r66 h67 hR68 hQ69 => ?_)
              obtain ⟨rfl, rfl⟩ := hQ69
              refine z_i2l rfl ?_
              obtain ⟨r75, hc74, hF⟩ := zbind1 hF
              refine z_ivs2 (d' := d - 1) (As := [.inl (w32 ((rget h 28 1200 x6) - 20000)), .inr (.inl (rget h 37 64 (w32 (x5 + (-1))))), .inr (.inl (rget h 37 64 (w32 ((w32 (x5 + (-1))) + 1))))]) rfl rfl (zf_Laws_joined (by omega) N _ _ _ hc74) rfl (by omega) rfl (fun r70 h71 hR72 hQ73 => ?_)
              obtain ⟨rfl, rfl⟩ := hQ73
              refine z_lstore rfl rfl rfl ?_
              refine z_aload rfl rfl rfl ?_
              refine z_getr (r := 36) rfl rfl rfl rfl ?_
              refine z_iload rfl rfl ?_
              refine z_lload rfl rfl ?_
              refine z_const rfl ?_
              refine z_const rfl ?_
              refine z_ivs1 (d' := d - 1) (As := [.inr (.inl r75), .inl (-1000000), .inl 1000000]) rfl rfl (zf_Laws_between (by omega) _ _ _) rfl (by omega) rfl (fun r76 h77 hR78 hQ79 => ?_)
              obtain ⟨rfl, rfl⟩ := hQ79
              refine z_inv0 (d' := d - 1) (As := [.inl (w32 (x5 + (-1))), .inl (sh_Laws_between r75 (-1000000) 1000000)]) rfl rfl (zf_Row_put (r := 36) (a := 37) (n := 64) rfl rfl _ _) rfl rfl rfl (by omega) rfl (fun r80 h81 hR82 hQ83 => ?_)
              obtain ⟨rfl, rfl⟩ := hQ83
              refine z_iinc rfl rfl rfl ?_
              refine z_goto rfl ?_
              refine zsubL (L' := [.inr (.inr 33), zJk, zJk, zJk, .inl x4, .inl (w32 (x5 + (-1))), .inl (w32 (x6 + 1)), zJk, zJk, zJk]) ⟨Or.inl rfl, Or.inl rfl, Or.inl rfl, Or.inl rfl, Or.inl rfl, Or.inl rfl, Or.inl rfl, Or.inr rfl, Or.inr rfl, Or.inl rfl, trivial⟩ ?_
              exact ih _ _ _ _ hF
            · rw [if_pos c61] at hF
              refine z_aload rfl rfl rfl ?_
              refine z_getr (r := 36) rfl rfl rfl rfl ?_
              refine z_iload rfl rfl ?_
              refine z_aload rfl rfl rfl ?_
              refine z_getr (r := 36) rfl rfl rfl rfl ?_
              refine z_iload rfl rfl ?_
              refine z_inv1 (d' := d - 1) (As := [.inl x5]) rfl rfl (zf_Row_get (r := 36) (a := 37) (n := 64) rfl rfl _) rfl rfl rfl (by omega) rfl (fun r84 h85 hR86 hQ87 => ?_)
              obtain ⟨rfl, rfl⟩ := hQ87
              refine z_ineg rfl ?_
              refine z_inv0 (d' := d - 1) (As := [.inl x5, .inl (w32 (-(rget h 37 64 x5)))]) rfl rfl (zf_Row_put (r := 36) (a := 37) (n := 64) rfl rfl _ _) rfl rfl rfl (by omega) rfl (fun r88 h89 hR90 hQ91 => ?_)
              obtain ⟨rfl, rfl⟩ := hQ91
              refine z_goto rfl ?_
              refine z_iinc rfl rfl rfl ?_
              refine z_goto rfl ?_
              refine zsubL (L' := [.inr (.inr 33), zJk, zJk, zJk, .inl x4, .inl x5, .inl (w32 (x6 + 1)), zJk, zJk, zJk]) ⟨Or.inl rfl, Or.inl rfl, Or.inl rfl, Or.inl rfl, Or.inl rfl, Or.inl rfl, Or.inl rfl, Or.inr rfl, Or.inl rfl, Or.inl rfl, trivial⟩ ?_
              exact ih _ _ _ _ hF
          · rw [if_pos c51] at hF
            refine z_aload rfl rfl rfl ?_
            refine z_getr (r := 36) rfl rfl rfl rfl ?_
            refine z_iload rfl rfl ?_
            refine z_const rfl ?_
            refine z_aload rfl rfl rfl ?_
            refine z_getr (r := 36) rfl rfl rfl rfl ?_
            refine z_iload rfl rfl ?_
            refine z_inv1 (d' := d - 1) (As := [.inl x5]) rfl rfl (zf_Row_get (r := 36) (a := 37) (n := 64) rfl rfl _) rfl rfl rfl (by omega) rfl (fun r92 h93 hR94 hQ95 => ?_)
            obtain ⟨rfl, rfl⟩ := hQ95
            refine z_isub rfl ?_
            refine z_inv0 (d' := d - 1) (As := [.inl x5, .inl (w32 (1 - (rget h 37 64 x5)))]) rfl rfl (zf_Row_put (r := 36) (a := 37) (n := 64) rfl rfl _ _) rfl rfl rfl (by omega) rfl (fun r96 h97 hR98 hQ99 => ?_)
            obtain ⟨rfl, rfl⟩ := hQ99
            refine z_goto rfl ?_
            refine z_iinc rfl rfl rfl ?_
            refine z_goto rfl ?_
            refine zsubL (L' := [.inr (.inr 33), zJk, zJk, zJk, .inl x4, .inl x5, .inl (w32 (x6 + 1)), zJk, zJk, zJk]) ⟨Or.inl rfl, Or.inl rfl, Or.inl rfl, Or.inl rfl, Or.inl rfl, Or.inl rfl, Or.inl rfl, Or.inr rfl, Or.inl rfl, Or.inl rfl, trivial⟩ ?_
            exact ih _ _ _ _ hF
        · rw [if_neg c40] at hF
          refine z_iinc rfl rfl rfl ?_
          refine z_aload rfl rfl rfl ?_
          refine z_getr (r := 36) rfl rfl rfl rfl ?_
          refine z_iload rfl rfl ?_
          refine z_aload rfl rfl rfl ?_
          refine z_getr (r := 34) rfl rfl rfl rfl ?_
          refine z_iload rfl rfl ?_
          refine z_const rfl ?_
          refine z_isub rfl ?_
          refine z_inv1 (d' := d - 1) (As := [.inl (w32 ((rget h 28 1200 x6) - 10000))]) rfl rfl (zf_Row_get (r := 34) (a := 35) (n := 11) rfl rfl _) rfl rfl rfl (by omega) rfl (fun r100 h101 hR102 hQ103 => ?_)
          obtain ⟨rfl, rfl⟩ := hQ103
          refine z_inv0 (d' := d - 1) (As := [.inl (w32 (x5 + 1)), .inl (rget h 35 11 (w32 ((rget h 28 1200 x6) - 10000)))]) rfl rfl (zf_Row_put (r := 36) (a := 37) (n := 64) rfl rfl _ _) rfl rfl rfl (by omega) rfl (fun r104 h105 hR106 hQ107 => ?_)
          obtain ⟨rfl, rfl⟩ := hQ107
          refine z_goto rfl ?_
          refine z_iinc rfl rfl rfl ?_
          refine z_goto rfl ?_
          refine zsubL (L' := [.inr (.inr 33), zJk, zJk, zJk, .inl x4, .inl (w32 (x5 + 1)), .inl (w32 (x6 + 1)), zJk, zJk, zJk]) ⟨Or.inl rfl, Or.inl rfl, Or.inl rfl, Or.inl rfl, Or.inl rfl, Or.inl rfl, Or.inl rfl, Or.inr rfl, Or.inl rfl, Or.inl rfl, trivial⟩ ?_
          exact ih _ _ _ _ hF
      · rw [if_neg c28] at hF
        refine z_iinc rfl rfl rfl ?_
        refine z_aload rfl rfl rfl ?_
        refine z_getr (r := 36) rfl rfl rfl rfl ?_
        refine z_iload rfl rfl ?_
        refine z_iload rfl rfl ?_
        refine z_inv0 (d' := d - 1) (As := [.inl (w32 (x5 + 1)), .inl (rget h 28 1200 x6)]) rfl rfl (zf_Row_put (r := 36) (a := 37) (n := 64) rfl rfl _ _) rfl rfl rfl (by omega) rfl (fun r108 h109 hR110 hQ111 => ?_)
        obtain ⟨rfl, rfl⟩ := hQ111
        refine z_goto rfl ?_
        refine z_iinc rfl rfl rfl ?_
        refine z_goto rfl ?_
        refine zsubL (L' := [.inr (.inr 33), zJk, zJk, zJk, .inl x4, .inl (w32 (x5 + 1)), .inl (w32 (x6 + 1)), zJk, zJk, zJk]) ⟨Or.inl rfl, Or.inl rfl, Or.inl rfl, Or.inl rfl, Or.inl rfl, Or.inl rfl, Or.inl rfl, Or.inr rfl, Or.inl rfl, Or.inl rfl, trivial⟩ ?_
        exact ih _ _ _ _ hF
set_option maxRecDepth 100000 in
set_option maxHeartbeats 4000000 in
theorem zw_Laws_value {l : Launch} {E : zE} {d : Nat} (hd : 2 ≤ d) (N : Nat) (x1 x2 : Int) {h : zHp} {Q : Int → zHp → Prop} {r0 : Int} {h0 : zHp} (hF : sh_Laws_value N x1 x2 h = some (r0, h0)) (K : Q r0 h0) : zW l E d zm_Laws_value 0 [.inr (.inr 33), .inl x1, .inl x2, zJk, zJk, zJk, zJk, zJk, zJk, zJk] [] h Q := by
  rw [sh_Laws_value] at hF
  refine z_aload rfl rfl rfl ?_
  refine z_getr (r := 1) rfl rfl rfl rfl ?_
  refine z_geti rfl rfl rfl rfl ?_
  refine z_const rfl ?_
  refine z_cne rfl (fun c1 => ?_) (fun c1 => ?_)
  · rw [if_neg c1] at hF
    refine z_aload rfl rfl rfl ?_
    refine z_getr (r := 26) rfl rfl rfl rfl ?_
    refine z_getr (r := 29) rfl rfl rfl rfl ?_
    refine z_aload rfl rfl rfl ?_
    refine z_getr (r := 1) rfl rfl rfl rfl ?_
    refine z_geti rfl rfl rfl rfl ?_
    refine z_const rfl ?_
    refine z_imul rfl ?_
    refine z_iload rfl rfl ?_
    refine z_iadd rfl ?_
    refine z_inv1 (d' := d - 1) (As := [.inl (w32 ((w32 ((h 1 13) * 5)) + x1))]) rfl rfl (zf_Row_get (r := 29) (a := 30) (n := 20) rfl rfl _) rfl rfl rfl (by omega) rfl (fun r2 h3 hR4 hQ5 => ?_)
    obtain ⟨rfl, rfl⟩ := hQ5
    refine z_istore rfl rfl rfl ?_
    refine z_aload rfl rfl rfl ?_
    refine z_getr (r := 26) rfl rfl rfl rfl ?_
    refine z_getr (r := 31) rfl rfl rfl rfl ?_
    refine z_aload rfl rfl rfl ?_
    refine z_getr (r := 1) rfl rfl rfl rfl ?_
    refine z_geti rfl rfl rfl rfl ?_
    refine z_const rfl ?_
    refine z_imul rfl ?_
    refine z_iload rfl rfl ?_
    refine z_iadd rfl ?_
    refine z_inv1 (d' := d - 1) (As := [.inl (w32 ((w32 ((h 1 13) * 5)) + x1))]) rfl rfl (zf_Row_get (r := 31) (a := 32) (n := 20) rfl rfl _) rfl rfl rfl (by omega) rfl (fun r6 h7 hR8 hQ9 => ?_)
    obtain ⟨rfl, rfl⟩ := hQ9
    refine z_istore rfl rfl rfl ?_
    refine z_iload rfl rfl ?_
    refine z_iload rfl rfl ?_
    refine z_clt rfl (fun c10 => ?_) (fun c10 => ?_)
    · rw [if_pos c10] at hF
      refine z_const rfl ?_
      refine z_istore rfl rfl rfl ?_
      refine z_iload rfl rfl ?_
      refine z_istore rfl rfl rfl ?_
      refine zsubL (L' := [.inr (.inr 33), zJk, zJk, zJk, .inl (rget h 32 20 (w32 ((w32 ((h 1 13) * 5)) + x1))), .inl (-1), .inl (rget h 30 20 (w32 ((w32 ((h 1 13) * 5)) + x1))), zJk, zJk, zJk]) ⟨Or.inl rfl, Or.inr rfl, Or.inr rfl, Or.inr rfl, Or.inl rfl, Or.inl rfl, Or.inl rfl, Or.inl rfl, Or.inl rfl, Or.inl rfl, trivial⟩ ?_
      obtain ⟨y113, h114, hL112, hF⟩ := zbind2 hF
      refine zl_Laws_value_L40 (by omega) N ?_ N _ _ _ _ hL112
      refine z_aload rfl rfl rfl ?_
      refine z_getr (r := 36) rfl rfl rfl rfl ?_
      refine z_iload rfl rfl ?_
      refine z_inv1 (d' := d - 1) (As := [.inl y113]) rfl rfl (zf_Row_get (r := 36) (a := 37) (n := 64) rfl rfl _) rfl rfl rfl (by omega) rfl (fun r115 h116 hR117 hQ118 => ?_)
      obtain ⟨rfl, rfl⟩ := hQ118
      obtain ⟨rfl, rfl⟩ := zinj2 hF
      exact z_iret rfl rfl K
    · rw [if_neg c10] at hF
      refine z_iload rfl rfl ?_
      obtain ⟨rfl, rfl⟩ := zinj2 hF
      exact z_iret rfl rfl K
  · rw [if_pos c1] at hF
    refine z_iload rfl rfl ?_
    obtain ⟨rfl, rfl⟩ := zinj2 hF
    exact z_iret rfl rfl K
set_option maxRecDepth 100000 in
theorem zf_Laws_value {l : Launch} {E : zE} {d : Nat} (hd : 2 ≤ d) (N : Nat) (x1 x2 : Int) {h : zHp} {r0 : Int} {h0 : zHp} (hF : sh_Laws_value N x1 x2 h = some (r0, h0)) : zC l E d zm_Laws_value [.inr (.inr 33), .inl x1, .inl x2] h (fun r1 h1 => r0 = r1 ∧ h0 = h1) :=
  zC_of zk_Laws_value (by decide) rfl rfl (Nat.le_of_ble_eq_true rfl) (zw_Laws_value hd N _ _ hF ⟨rfl, rfl⟩)
def sh_Laws_heeded (N : Nat) (h : zHp) : Option (Int × zHp) := zb2 (sh_Laws_value N 0 (rget h 35 11 4) h) fun r10 h11 => some ((if r10 = 0 then 0 else 1 : Int), h11)
set_option maxRecDepth 100000 in
set_option maxHeartbeats 4000000 in
theorem zw_Laws_heeded {l : Launch} {E : zE} {d : Nat} (hd : 3 ≤ d) (N : Nat) {h : zHp} {Q : Int → zHp → Prop} {r0 : Int} {h0 : zHp} (hF : sh_Laws_heeded N h = some (r0, h0)) (K : Q r0 h0) : zW l E d zm_Laws_heeded 0 [.inr (.inr 33)] [] h Q := by
  rw [sh_Laws_heeded] at hF
  refine z_aload rfl rfl rfl ?_
  refine z_const rfl ?_
  refine z_aload rfl rfl rfl ?_
  refine z_getr (r := 34) rfl rfl rfl rfl ?_
  refine z_const rfl ?_
  refine z_inv1 (d' := d - 1) (As := [.inl 4]) rfl rfl (zf_Row_get (r := 34) (a := 35) (n := 11) rfl rfl _) rfl rfl rfl (by omega) rfl (fun r1 h2 hR3 hQ4 => ?_)
  obtain ⟨rfl, rfl⟩ := hQ4
  obtain ⟨r10, h11, hc9, hF⟩ := zbind2 hF
  refine z_inv1 (d' := d - 1) (As := [.inl 0, .inl (rget h 35 11 4)]) rfl rfl (zf_Laws_value (by omega) N _ _ hc9) rfl rfl rfl (by omega) rfl (fun r5 h6 hR7 hQ8 => ?_)
  obtain ⟨rfl, rfl⟩ := hQ8
  have hJ13 : zW l E d zm_Laws_heeded 11 [zJk] [.inl (if r10 = 0 then 0 else 1 : Int)] h11 Q := by
    obtain ⟨rfl, rfl⟩ := zinj2 hF
    exact z_zret rfl rfl (zor_ite (Or.inl rfl) (Or.inr rfl)) K
  refine z_zeq rfl (fun c12 => ?_) (fun c12 => ?_)
  · refine z_const rfl ?_
    refine zsubL (L' := [zJk]) ⟨Or.inr rfl, trivial⟩ ?_
    exact zcast (by first | rfl | (simp only [if_pos c12] <;> rfl)) (by first | rfl | (simp only [if_pos c12] <;> rfl)) hJ13
  · refine z_const rfl ?_
    refine z_goto rfl ?_
    refine zsubL (L' := [zJk]) ⟨Or.inr rfl, trivial⟩ ?_
    exact zcast (by first | rfl | (simp only [if_neg c12] <;> rfl)) (by first | rfl | (simp only [if_neg c12] <;> rfl)) hJ13
set_option maxRecDepth 100000 in
theorem zf_Laws_heeded {l : Launch} {E : zE} {d : Nat} (hd : 3 ≤ d) (N : Nat) {h : zHp} {r0 : Int} {h0 : zHp} (hF : sh_Laws_heeded N h = some (r0, h0)) : zC l E d zm_Laws_heeded [.inr (.inr 33)] h (fun r1 h1 => r0 = r1 ∧ h0 = h1) :=
  zC_of zk_Laws_heeded (by decide) rfl rfl (Nat.le_of_ble_eq_true rfl) (zw_Laws_heeded hd N hF ⟨rfl, rfl⟩)
def sh_Laws_toSecond (N : Nat) (h : zHp) : Option (Int × zHp) := (if sh_Herd_get_14 (h 33 4) 1 h = (-1) then some (0, h) else zb2 (sh_Laws_value N 1 0 h) fun r12 h13 => some ((if r12 = 0 then 0 else 1 : Int), h13))
set_option maxRecDepth 100000 in
set_option maxHeartbeats 4000000 in
theorem zw_Laws_toSecond {l : Launch} {E : zE} {d : Nat} (hd : 3 ≤ d) (N : Nat) {h : zHp} {Q : Int → zHp → Prop} {r0 : Int} {h0 : zHp} (hF : sh_Laws_toSecond N h = some (r0, h0)) (K : Q r0 h0) : zW l E d zm_Laws_toSecond 0 [.inr (.inr 33)] [] h Q := by
  rw [sh_Laws_toSecond] at hF
  refine z_aload rfl rfl rfl ?_
  refine z_getr (r := 1) rfl rfl rfl rfl ?_
  refine z_getr (r := 14) rfl rfl rfl rfl ?_
  refine z_aload rfl rfl rfl ?_
  refine z_geti rfl rfl rfl rfl ?_
  refine z_const rfl ?_
  refine z_inv1 (d' := d - 1) (As := [.inl (h 33 4), .inl 1]) rfl rfl (zf_Herd_get_14 (by omega) _ _) rfl rfl rfl (by omega) rfl (fun r1 h2 hR3 hQ4 => ?_)
  obtain ⟨rfl, rfl⟩ := hQ4
  refine z_const rfl ?_
  refine z_ceq rfl (fun c6 => ?_) (fun c6 => ?_)
  · rw [if_pos c6] at hF
    refine z_const rfl ?_
    obtain ⟨rfl, rfl⟩ := zinj2 hF
    exact z_zret rfl rfl (Or.inl rfl) K
  · rw [if_neg c6] at hF
    refine z_aload rfl rfl rfl ?_
    refine z_const rfl ?_
    refine z_const rfl ?_
    obtain ⟨r12, h13, hc11, hF⟩ := zbind2 hF
    refine z_inv1 (d' := d - 1) (As := [.inl 1, .inl 0]) rfl rfl (zf_Laws_value (by omega) N _ _ hc11) rfl rfl rfl (by omega) rfl (fun r7 h8 hR9 hQ10 => ?_)
    obtain ⟨rfl, rfl⟩ := hQ10
    have hJ15 : zW l E d zm_Laws_toSecond 17 [zJk] [.inl (if r12 = 0 then 0 else 1 : Int)] h13 Q := by
      obtain ⟨rfl, rfl⟩ := zinj2 hF
      exact z_zret rfl rfl (zor_ite (Or.inl rfl) (Or.inr rfl)) K
    refine z_zeq rfl (fun c14 => ?_) (fun c14 => ?_)
    · refine z_const rfl ?_
      refine zsubL (L' := [zJk]) ⟨Or.inr rfl, trivial⟩ ?_
      exact zcast (by first | rfl | (simp only [if_pos c14] <;> rfl)) (by first | rfl | (simp only [if_pos c14] <;> rfl)) hJ15
    · refine z_const rfl ?_
      refine z_goto rfl ?_
      refine zsubL (L' := [zJk]) ⟨Or.inr rfl, trivial⟩ ?_
      exact zcast (by first | rfl | (simp only [if_neg c14] <;> rfl)) (by first | rfl | (simp only [if_neg c14] <;> rfl)) hJ15
set_option maxRecDepth 100000 in
theorem zf_Laws_toSecond {l : Launch} {E : zE} {d : Nat} (hd : 3 ≤ d) (N : Nat) {h : zHp} {r0 : Int} {h0 : zHp} (hF : sh_Laws_toSecond N h = some (r0, h0)) : zC l E d zm_Laws_toSecond [.inr (.inr 33)] h (fun r1 h1 => r0 = r1 ∧ h0 = h1) :=
  zC_of zk_Laws_toSecond (by decide) rfl rfl (Nat.le_of_ble_eq_true rfl) (zw_Laws_toSecond hd N hF ⟨rfl, rfl⟩)
def sh_Ox_isIn (x0 x1 : Int) : Int := (if zand (zshr x0 x1) 1 = 0 then 0 else 1 : Int)
set_option maxRecDepth 100000 in
set_option maxHeartbeats 4000000 in
theorem zw_Ox_isIn {l : Launch} {E : zE} {d : Nat} (hd : 1 ≤ d) (x0 x1 : Int) {h : zHp} {Q : Int → zHp → Prop} {r0 : Int} (hF : sh_Ox_isIn x0 x1 = r0) (K : Q r0 h) : zW l E d zm_Ox_isIn 0 [.inl x0, .inl x1] [] h Q := by
  rw [sh_Ox_isIn] at hF
  refine z_iload rfl rfl ?_
  refine z_iload rfl rfl ?_
  refine z_ishr rfl ?_
  refine z_const rfl ?_
  refine z_iand rfl ?_
  have hJ2 : zW l E d zm_Ox_isIn 9 [zJk, zJk] [.inl (if zand (zshr x0 x1) 1 = 0 then 0 else 1 : Int)] h Q := by
    subst hF
    exact z_zret rfl rfl (zor_ite (Or.inl rfl) (Or.inr rfl)) K
  refine z_zeq rfl (fun c1 => ?_) (fun c1 => ?_)
  · refine z_const rfl ?_
    refine zsubL (L' := [zJk, zJk]) ⟨Or.inr rfl, Or.inr rfl, trivial⟩ ?_
    exact zcast (by first | rfl | (simp only [if_pos c1] <;> rfl)) (by first | rfl | (simp only [if_pos c1] <;> rfl)) hJ2
  · refine z_const rfl ?_
    refine z_goto rfl ?_
    refine zsubL (L' := [zJk, zJk]) ⟨Or.inr rfl, Or.inr rfl, trivial⟩ ?_
    exact zcast (by first | rfl | (simp only [if_neg c1] <;> rfl)) (by first | rfl | (simp only [if_neg c1] <;> rfl)) hJ2
set_option maxRecDepth 100000 in
theorem zf_Ox_isIn {l : Launch} {E : zE} {d : Nat} (hd : 1 ≤ d) (x0 x1 : Int) {h : zHp} : zC l E d zm_Ox_isIn [.inl x0, .inl x1] h (fun r1 h1 => sh_Ox_isIn x0 x1 = r1 ∧ h = h1) :=
  zC_of zk_Ox_isIn (by decide) rfl rfl (Nat.le_of_ble_eq_true rfl) (zw_Ox_isIn hd _ _ rfl ⟨rfl, rfl⟩)
theorem zb_Ox_isIn (x0 x1 : Int) : sh_Ox_isIn x0 x1 = 0 ∨ sh_Ox_isIn x0 x1 = 1 := by
  unfold sh_Ox_isIn
  exact zor_ite (Or.inl rfl) (Or.inr rfl)
def sh_Ox_blow_14_L6 (N : Nat) : Nat → Int → Int → Int → Int → Int → zHp → Option (Int × Int × zHp)
  | 0, _, _, _, _, _, _ => none
  | n + 1, x2, x3, x4, x5, x6, h => (if sh_Herd_oxen_14 h ≤ x6 then some (x4, x5, h) else (if w32 ((sh_Herd_get_14 x6 6 h) - 10) < 0 then sh_Ox_blow_14_L6 N n x2 x3 x4 x5 (w32 (x6 + 1)) h else zb2 (sh_Laws_heeded N (sh_Laws_ask x6 x2 x3 (w32 ((sh_Herd_get_14 x6 6 h) - 10)) (if sh_Herd_get_14 x6 7 h = (-1) then 0 else 1 : Int) (sh_Herd_hour_14 h) h)) fun r40 h41 => if r40 = 0 then sh_Ox_blow_14_L6 N n x2 x3 x4 x5 (w32 (x6 + 1)) h41 else zb2 (sh_Laws_toSecond N h41) fun r49 h50 => sh_Ox_blow_14_L6 N n x2 x3 (zor x4 (zshl 1 x6)) (zor x5 (if r49 = 0 then 0 else zshl 1 x6 : Int)) (w32 (x6 + 1)) h50))
def sh_Ox_blow_14_L63 (N : Nat) : Nat → Int → Int → Int → zHp → Option (Int × zHp)
  | 0, _, _, _, _ => none
  | n + 1, x4, x5, x6, h => (if sh_Herd_oxen_14 h ≤ x6 then some (x4, h) else (if sh_Ox_isIn x4 x6 = 0 then sh_Ox_blow_14_L63 N n x4 x5 (w32 (x6 + 1)) h else sh_Ox_blow_14_L63 N n x4 x5 (w32 (x6 + 1)) (sh_Herd_put_14 x6 6 (sh_Herd_get_14 x6 (if sh_Ox_isIn x5 x6 = 0 then 0 else 1 : Int) (sh_Herd_unyoke_14 x6 h)) (sh_Herd_unyoke_14 x6 h))))
def sh_Ox_blow_14 (N : Nat) (x2 x3 : Int) (h : zHp) : Option (Int × zHp) := zb3 (sh_Ox_blow_14_L6 N N x2 x3 0 0 0 h) fun y54 y55 h56 => zb2 (sh_Ox_blow_14_L63 N N y54 y55 0 h56) fun y87 h88 => some (y87, h88)
set_option maxRecDepth 100000 in
set_option maxHeartbeats 4000000 in
theorem zl_Ox_blow_14_L6 {l : Launch} {E : zE} {d : Nat} (hd : 4 ≤ d) (N : Nat) {Q : Int → zHp → Prop} {o4 o5 : Int} {oh : zHp} (K1 : zW l E d zm_Ox_blow 61 [zJk, .inr (.inr 14), zJk, zJk, .inl o4, .inl o5, zJk, zJk] [] oh Q) : ∀ (n : Nat) (x2 x3 x4 x5 x6 : Int) (h : zHp), sh_Ox_blow_14_L6 N n x2 x3 x4 x5 x6 h = some (o4, o5, oh) → zW l E d zm_Ox_blow 6 [.inr (.inr 0), .inr (.inr 14), .inl x2, .inl x3, .inl x4, .inl x5, .inl x6, zJk] [] h Q := by
  intro n
  induction n with
  | zero =>
    intro x2 x3 x4 x5 x6 h hF
    cases (show (none : Option (Int × Int × zHp)) = some (o4, o5, oh) from hF)
  | succ n ih =>
    intro x2 x3 x4 x5 x6 h hF
    rw [sh_Ox_blow_14_L6] at hF
    refine z_iload rfl rfl ?_
    refine z_aload rfl rfl rfl ?_
    refine z_inv1 (d' := d - 1) (As := []) rfl rfl (zf_Herd_oxen_14 (by omega)) rfl rfl rfl (by omega) rfl (fun r1 h2 hR3 hQ4 => ?_)
    obtain ⟨rfl, rfl⟩ := hQ4
    refine z_cge rfl (fun c5 => ?_) (fun c5 => ?_)
    · rw [if_pos c5] at hF
      refine zsubL (L' := [zJk, .inr (.inr 14), zJk, zJk, .inl x4, .inl x5, zJk, zJk]) ⟨Or.inr rfl, Or.inl rfl, Or.inr rfl, Or.inr rfl, Or.inl rfl, Or.inl rfl, Or.inr rfl, Or.inl rfl, trivial⟩ ?_
      obtain ⟨rfl, rfl, rfl⟩ := zinj3 hF
      exact K1
    · rw [if_neg c5] at hF
      refine z_aload rfl rfl rfl ?_
      refine z_iload rfl rfl ?_
      refine z_const rfl ?_
      refine z_inv1 (d' := d - 1) (As := [.inl x6, .inl 6]) rfl rfl (zf_Herd_get_14 (by omega) _ _) rfl rfl rfl (by omega) rfl (fun r6 h7 hR8 hQ9 => ?_)
      obtain ⟨rfl, rfl⟩ := hQ9
      refine z_const rfl ?_
      refine z_isub rfl ?_
      refine z_istore rfl rfl rfl ?_
      refine z_iload rfl rfl ?_
      refine z_zlt rfl (fun c20 => ?_) (fun c20 => ?_)
      · rw [if_pos c20] at hF
        refine z_iinc rfl rfl rfl ?_
        refine z_goto rfl ?_
        refine zsubL (L' := [.inr (.inr 0), .inr (.inr 14), .inl x2, .inl x3, .inl x4, .inl x5, .inl (w32 (x6 + 1)), zJk]) ⟨Or.inl rfl, Or.inl rfl, Or.inl rfl, Or.inl rfl, Or.inl rfl, Or.inl rfl, Or.inl rfl, Or.inr rfl, trivial⟩ ?_
        exact ih _ _ _ _ _ _ hF
      · rw [if_neg c20] at hF
        refine z_aload rfl rfl rfl ?_
        refine z_getr (r := 33) rfl rfl rfl rfl ?_
        refine z_iload rfl rfl ?_
        refine z_iload rfl rfl ?_
        refine z_iload rfl rfl ?_
        refine z_iload rfl rfl ?_
        refine z_aload rfl rfl rfl ?_
        refine z_iload rfl rfl ?_
        refine z_const rfl ?_
        refine z_inv1 (d' := d - 1) (As := [.inl x6, .inl 7]) rfl rfl (zf_Herd_get_14 (by omega) _ _) rfl rfl rfl (by omega) rfl (fun r21 h22 hR23 hQ24 => ?_)
        obtain ⟨rfl, rfl⟩ := hQ24
        refine z_const rfl ?_
        have hJ26 : zW l E d zm_Ox_blow 34 [.inr (.inr 0), .inr (.inr 14), .inl x2, .inl x3, .inl x4, .inl x5, .inl x6, zJk] [.inl (if sh_Herd_get_14 x6 7 h = (-1) then 0 else 1 : Int), .inl (w32 ((sh_Herd_get_14 x6 6 h) - 10)), .inl x3, .inl x2, .inl x6, .inr (.inr 33)] h Q := by
          refine z_aload rfl rfl rfl ?_
          refine z_inv1 (d' := d - 1) (As := []) rfl rfl (zf_Herd_hour_14 (by omega)) rfl rfl rfl (by omega) rfl (fun r27 h28 hR29 hQ30 => ?_)
          obtain ⟨rfl, rfl⟩ := hQ30
          refine z_inv0 (d' := d - 1) (As := [.inl x6, .inl x2, .inl x3, .inl (w32 ((sh_Herd_get_14 x6 6 h) - 10)), .inl (if sh_Herd_get_14 x6 7 h = (-1) then 0 else 1 : Int), .inl (sh_Herd_hour_14 h)]) rfl rfl (zf_Laws_ask (by omega) _ _ _ _ _ _) rfl rfl rfl (by omega) rfl (fun r31 h32 hR33 hQ34 => ?_)
          obtain ⟨rfl, rfl⟩ := hQ34
          refine z_aload rfl rfl rfl ?_
          refine z_getr (r := 33) rfl rfl rfl rfl ?_
          obtain ⟨r40, h41, hc39, hF⟩ := zbind2 hF
          refine z_inv1 (d' := d - 1) (As := []) rfl rfl (zf_Laws_heeded (by omega) N hc39) rfl rfl rfl (by omega) rfl (fun r35 h36 hR37 hQ38 => ?_)
          obtain ⟨rfl, rfl⟩ := hQ38
          refine z_zeq rfl (fun c43 => ?_) (fun c43 => ?_)
          · rw [if_pos c43] at hF
            refine z_iinc rfl rfl rfl ?_
            refine z_goto rfl ?_
            exact ih _ _ _ _ _ _ hF
          · rw [if_neg c43] at hF
            refine z_iload rfl rfl ?_
            refine z_const rfl ?_
            refine z_iload rfl rfl ?_
            refine z_ishl rfl ?_
            refine z_ior rfl ?_
            refine z_istore rfl rfl rfl ?_
            refine z_iload rfl rfl ?_
            refine z_aload rfl rfl rfl ?_
            refine z_getr (r := 33) rfl rfl rfl rfl ?_
            obtain ⟨r49, h50, hc48, hF⟩ := zbind2 hF
            refine z_inv1 (d' := d - 1) (As := []) rfl rfl (zf_Laws_toSecond (by omega) N hc48) rfl rfl rfl (by omega) rfl (fun r44 h45 hR46 hQ47 => ?_)
            obtain ⟨rfl, rfl⟩ := hQ47
            have hJ52 : zW l E d zm_Ox_blow 57 [.inr (.inr 0), .inr (.inr 14), .inl x2, .inl x3, .inl (zor x4 (zshl 1 x6)), zJk, .inl x6, zJk] [.inl (if r49 = 0 then 0 else zshl 1 x6 : Int), .inl x5] h50 Q := by
              refine z_ior rfl ?_
              refine z_istore rfl rfl rfl ?_
              refine z_iinc rfl rfl rfl ?_
              refine z_goto rfl ?_
              exact ih _ _ _ _ _ _ hF
            refine z_zeq rfl (fun c51 => ?_) (fun c51 => ?_)
            · refine z_const rfl ?_
              refine zsubL (L' := [.inr (.inr 0), .inr (.inr 14), .inl x2, .inl x3, .inl (zor x4 (zshl 1 x6)), zJk, .inl x6, zJk]) ⟨Or.inl rfl, Or.inl rfl, Or.inl rfl, Or.inl rfl, Or.inl rfl, Or.inr rfl, Or.inl rfl, Or.inl rfl, trivial⟩ ?_
              exact zcast (by first | rfl | (simp only [if_pos c51] <;> rfl)) (by first | rfl | (simp only [if_pos c51] <;> rfl)) hJ52
            · refine z_const rfl ?_
              refine z_iload rfl rfl ?_
              refine z_ishl rfl ?_
              refine z_goto rfl ?_
              refine zsubL (L' := [.inr (.inr 0), .inr (.inr 14), .inl x2, .inl x3, .inl (zor x4 (zshl 1 x6)), zJk, .inl x6, zJk]) ⟨Or.inl rfl, Or.inl rfl, Or.inl rfl, Or.inl rfl, Or.inl rfl, Or.inr rfl, Or.inl rfl, Or.inl rfl, trivial⟩ ?_
              exact zcast (by first | rfl | (simp only [if_neg c51] <;> rfl)) (by first | rfl | (simp only [if_neg c51] <;> rfl)) hJ52
        refine z_ceq rfl (fun c25 => ?_) (fun c25 => ?_)
        · refine z_const rfl ?_
          refine zsubL (L' := [.inr (.inr 0), .inr (.inr 14), .inl x2, .inl x3, .inl x4, .inl x5, .inl x6, zJk]) ⟨Or.inl rfl, Or.inl rfl, Or.inl rfl, Or.inl rfl, Or.inl rfl, Or.inl rfl, Or.inl rfl, Or.inr rfl, trivial⟩ ?_
          exact zcast (by first | rfl | (simp only [if_pos c25] <;> rfl)) (by first | rfl | (simp only [if_pos c25] <;> rfl)) hJ26
        · refine z_const rfl ?_
          refine z_goto rfl ?_
          refine zsubL (L' := [.inr (.inr 0), .inr (.inr 14), .inl x2, .inl x3, .inl x4, .inl x5, .inl x6, zJk]) ⟨Or.inl rfl, Or.inl rfl, Or.inl rfl, Or.inl rfl, Or.inl rfl, Or.inl rfl, Or.inl rfl, Or.inr rfl, trivial⟩ ?_
          exact zcast (by first | rfl | (simp only [if_neg c25] <;> rfl)) (by first | rfl | (simp only [if_neg c25] <;> rfl)) hJ26
set_option maxRecDepth 100000 in
set_option maxHeartbeats 4000000 in
theorem zl_Ox_blow_14_L63 {l : Launch} {E : zE} {d : Nat} (hd : 4 ≤ d) (N : Nat) {Q : Int → zHp → Prop} {o4 : Int} {oh : zHp} (K1 : zW l E d zm_Ox_blow 90 [zJk, zJk, zJk, zJk, .inl o4, zJk, zJk, zJk] [] oh Q) : ∀ (n : Nat) (x4 x5 x6 : Int) (h : zHp), sh_Ox_blow_14_L63 N n x4 x5 x6 h = some (o4, oh) → zW l E d zm_Ox_blow 63 [zJk, .inr (.inr 14), zJk, zJk, .inl x4, .inl x5, .inl x6, zJk] [] h Q := by
  intro n
  induction n with
  | zero =>
    intro x4 x5 x6 h hF
    cases (show (none : Option (Int × zHp)) = some (o4, oh) from hF)
  | succ n ih =>
    intro x4 x5 x6 h hF
    rw [sh_Ox_blow_14_L63] at hF
    refine z_iload rfl rfl ?_
    refine z_aload rfl rfl rfl ?_
    refine z_inv1 (d' := d - 1) (As := []) rfl rfl (zf_Herd_oxen_14 (by omega)) rfl rfl rfl (by omega) rfl (fun r57 h58 hR59 hQ60 => ?_)
    obtain ⟨rfl, rfl⟩ := hQ60
    refine z_cge rfl (fun c61 => ?_) (fun c61 => ?_)
    · rw [if_pos c61] at hF
      refine zsubL (L' := [zJk, zJk, zJk, zJk, .inl x4, zJk, zJk, zJk]) ⟨Or.inl rfl, Or.inr rfl, Or.inl rfl, Or.inl rfl, Or.inl rfl, Or.inr rfl, Or.inr rfl, Or.inl rfl, trivial⟩ ?_
      obtain ⟨rfl, rfl⟩ := zinj2 hF
      exact K1
    · rw [if_neg c61] at hF
      refine z_iload rfl rfl ?_
      refine z_iload rfl rfl ?_
      refine z_ivs1 (d' := d - 1) (As := [.inl x4, .inl x6]) rfl rfl (zf_Ox_isIn (by omega) _ _) rfl (by omega) rfl (fun r62 h63 hR64 hQ65 => ?_)
      obtain ⟨rfl, rfl⟩ := hQ65
      refine z_zeq rfl (fun c67 => ?_) (fun c67 => ?_)
      · rw [if_pos c67] at hF
        refine z_iinc rfl rfl rfl ?_
        refine z_goto rfl ?_
        exact ih _ _ _ _ hF
      · rw [if_neg c67] at hF
        refine z_aload rfl rfl rfl ?_
        refine z_iload rfl rfl ?_
        refine z_inv0 (d' := d - 1) (As := [.inl x6]) rfl rfl (zf_Herd_unyoke_14 (by omega) _) rfl rfl rfl (by omega) rfl (fun r68 h69 hR70 hQ71 => ?_)
        obtain ⟨rfl, rfl⟩ := hQ71
        refine z_aload rfl rfl rfl ?_
        refine z_iload rfl rfl ?_
        refine z_const rfl ?_
        refine z_aload rfl rfl rfl ?_
        refine z_iload rfl rfl ?_
        refine z_iload rfl rfl ?_
        refine z_iload rfl rfl ?_
        refine z_ivs1 (d' := d - 1) (As := [.inl x5, .inl x6]) rfl rfl (zf_Ox_isIn (by omega) _ _) rfl (by omega) rfl (fun r72 h73 hR74 hQ75 => ?_)
        obtain ⟨rfl, rfl⟩ := hQ75
        have hJ77 : zW l E d zm_Ox_blow 86 [zJk, .inr (.inr 14), zJk, zJk, .inl x4, .inl x5, .inl x6, zJk] [.inl (if sh_Ox_isIn x5 x6 = 0 then 0 else 1 : Int), .inl x6, .inr (.inr 14), .inl 6, .inl x6, .inr (.inr 14)] (sh_Herd_unyoke_14 x6 h) Q := by
          refine z_inv1 (d' := d - 1) (As := [.inl x6, .inl (if sh_Ox_isIn x5 x6 = 0 then 0 else 1 : Int)]) rfl rfl (zf_Herd_get_14 (by omega) _ _) rfl rfl rfl (by omega) rfl (fun r78 h79 hR80 hQ81 => ?_)
          obtain ⟨rfl, rfl⟩ := hQ81
          refine z_inv0 (d' := d - 1) (As := [.inl x6, .inl 6, .inl (sh_Herd_get_14 x6 (if sh_Ox_isIn x5 x6 = 0 then 0 else 1 : Int) (sh_Herd_unyoke_14 x6 h))]) rfl rfl (zf_Herd_put_14 (by omega) _ _ _) rfl rfl rfl (by omega) rfl (fun r82 h83 hR84 hQ85 => ?_)
          obtain ⟨rfl, rfl⟩ := hQ85
          refine z_iinc rfl rfl rfl ?_
          refine z_goto rfl ?_
          exact ih _ _ _ _ hF
        refine z_zeq rfl (fun c76 => ?_) (fun c76 => ?_)
        · refine z_const rfl ?_
          exact zcast (by first | rfl | (simp only [if_pos c76] <;> rfl)) (by first | rfl | (simp only [if_pos c76] <;> rfl)) hJ77
        · refine z_const rfl ?_
          refine z_goto rfl ?_
          exact zcast (by first | rfl | (simp only [if_neg c76] <;> rfl)) (by first | rfl | (simp only [if_neg c76] <;> rfl)) hJ77
set_option maxRecDepth 100000 in
set_option maxHeartbeats 4000000 in
theorem zw_Ox_blow_14 {l : Launch} {E : zE} {d : Nat} (hd : 4 ≤ d) (N : Nat) (x2 x3 : Int) {h : zHp} {Q : Int → zHp → Prop} {r0 : Int} {h0 : zHp} (hF : sh_Ox_blow_14 N x2 x3 h = some (r0, h0)) (K : Q r0 h0) : zW l E d zm_Ox_blow 0 [.inr (.inr 0), .inr (.inr 14), .inl x2, .inl x3, zJk, zJk, zJk, zJk] [] h Q := by
  rw [sh_Ox_blow_14] at hF
  refine z_const rfl ?_
  refine z_istore rfl rfl rfl ?_
  refine z_const rfl ?_
  refine z_istore rfl rfl rfl ?_
  refine z_const rfl ?_
  refine z_istore rfl rfl rfl ?_
  obtain ⟨y54, y55, h56, hL53, hF⟩ := zbind3 hF
  refine zl_Ox_blow_14_L6 (by omega) N ?_ N _ _ _ _ _ _ hL53
  refine z_const rfl ?_
  refine z_istore rfl rfl rfl ?_
  obtain ⟨y87, h88, hL86, hF⟩ := zbind2 hF
  refine zl_Ox_blow_14_L63 (by omega) N ?_ N _ _ _ _ hL86
  refine z_iload rfl rfl ?_
  obtain ⟨rfl, rfl⟩ := zinj2 hF
  exact z_iret rfl rfl K
set_option maxRecDepth 100000 in
theorem zf_Ox_blow_14 {l : Launch} {E : zE} {d : Nat} (hd : 4 ≤ d) (N : Nat) (x2 x3 : Int) {h : zHp} {r0 : Int} {h0 : zHp} (hF : sh_Ox_blow_14 N x2 x3 h = some (r0, h0)) : zC l E d zm_Ox_blow [.inr (.inr 0), .inr (.inr 14), .inl x2, .inl x3] h (fun r1 h1 => r0 = r1 ∧ h0 = h1) :=
  zC_of zk_Ox_blow (by decide) rfl rfl (Nat.le_of_ble_eq_true rfl) (zw_Ox_blow_14 hd N _ _ hF ⟨rfl, rfl⟩)
