/-! the law's loop: by program (wip/whole/law.py) -/
def sh_La_case (N : Nat) (E : zE) (x3 : Int) (h : zHp) : Option (Int × zHp) := if zand (zsx E x3) 31 = 0 then sh_La_c0 N E x3 h else (if zand (zsx E x3) 31 = 1 then sh_La_c1 N E x3 h else (if zand (zsx E x3) 31 = 2 then sh_La_c2 N E x3 h else (if zand (zsx E x3) 31 = 3 then sh_La_c3 N E x3 h else (if zand (zsx E x3) 31 = 4 then sh_La_c4 N E x3 h else (if zand (zsx E x3) 31 = 5 then sh_La_c5 N E x3 h else (if zand (zsx E x3) 31 = 6 then sh_La_c6 N E x3 h else (if zand (zsx E x3) 31 = 7 then sh_La_c7 N E x3 h else (if zand (zsx E x3) 31 = 8 then sh_La_c8 N E x3 h else (if zand (zsx E x3) 31 = 9 then sh_La_c9 N E x3 h else (if zand (zsx E x3) 31 = 10 then sh_La_c10 N E x3 h else (if zand (zsx E x3) 31 = 11 then sh_La_c11 N E x3 h else (if zand (zsx E x3) 31 = 12 then sh_La_c12 N E x3 h else (if zand (zsx E x3) 31 = 13 then sh_La_c13 N E x3 h else (if zand (zsx E x3) 31 = 14 then sh_La_c14 N E x3 h else (if zand (zsx E x3) 31 = 15 then sh_La_c15 N E x3 h else (if zand (zsx E x3) 31 = 16 then sh_La_c16 N E x3 h else (if zand (zsx E x3) 31 = 17 then sh_La_c17 N E x3 h else (if zand (zsx E x3) 31 = 18 then sh_La_c18 N E x3 h else (if zand (zsx E x3) 31 = 19 then sh_La_c19 N E x3 h else (if zand (zsx E x3) 31 = 20 then sh_La_c20 N E x3 h else (if zand (zsx E x3) 31 = 21 then sh_La_c21 N E x3 h else (if zand (zsx E x3) 31 = 22 then sh_La_c22 N E x3 h else (if zand (zsx E x3) 31 = 23 then sh_La_c23 N E x3 h else (if zand (zsx E x3) 31 = 24 then sh_La_c24 N E x3 h else (if zand (zsx E x3) 31 = 25 then sh_La_c25 N E x3 h else (if zand (zsx E x3) 31 = 26 then sh_La_c26 N E x3 h else (if zand (zsx E x3) 31 = 27 then sh_La_c27 N E x3 h else (if zand (zsx E x3) 31 = 28 then sh_La_c28 N E x3 h else some (1, h)))))))))))))))))))))))))))))
set_option maxRecDepth 100000 in
set_option maxHeartbeats 4000000 in
theorem zw_La_case {l : Launch} {E : zE} {d : Nat} (hd : 116 ≤ d) (N : Nat) (x3 : Int) (hx0 : 0 ≤ x3) (hx1 : x3 + 7 ≤ ((zsc E).1 : Nat)) (hx2 : (zsc E).1 < 100000) (hz : ∀ a, zI32 (zsx E a)) {h : zHp} {Q : Int → zHp → Prop} {h0 : zHp} (hF : sh_La_case N E x3 h = some (1, h0)) (K : zW l E d zm_La_law 822 [.inr (.inr 1000), .inr (.inr 0), .inr (.inr 85), .inl x3] [] h0 Q) : zW l E d zm_La_law 16 [.inr (.inr 1000), .inr (.inr 0), .inr (.inr 85), .inl x3] [] h Q := by
  rw [sh_La_case] at hF
  refine z_aload rfl rfl rfl ?_
  refine z_iload rfl rfl ?_
  refine z_sld hz rfl (by omega) (by omega) (fun _ => ?_)
  refine z_const rfl ?_
  refine z_iand rfl ?_
  refine z_switch rfl (by unfold zI32; omega) (by decide) (fun c1 => ?_) (fun j t ht e => ?_)
  · simp only [List.length_cons, List.length_nil] at c1
    rw [if_neg (by omega), if_neg (by omega), if_neg (by omega), if_neg (by omega), if_neg (by omega), if_neg (by omega), if_neg (by omega), if_neg (by omega), if_neg (by omega), if_neg (by omega), if_neg (by omega), if_neg (by omega), if_neg (by omega), if_neg (by omega), if_neg (by omega), if_neg (by omega), if_neg (by omega), if_neg (by omega), if_neg (by omega), if_neg (by omega), if_neg (by omega), if_neg (by omega), if_neg (by omega), if_neg (by omega), if_neg (by omega), if_neg (by omega), if_neg (by omega), if_neg (by omega), if_neg (by omega)] at hF
    obtain ⟨-, rfl⟩ := zinj2 hF
    exact K
  · match j, ht, e with
    | 0, ht, e =>
      obtain rfl : 22 = t := Option.some.inj ht
      rw [if_pos (by omega)] at hF
      exact zw_La_c0 (by omega) N x3 hx0 hx1 hx2 hz hF K
    | 1, ht, e =>
      obtain rfl : 59 = t := Option.some.inj ht
      rw [if_neg (by omega), if_pos (by omega)] at hF
      exact zw_La_c1 (by omega) N x3 hx0 hx1 hx2 hz hF K
    | 2, ht, e =>
      obtain rfl : 106 = t := Option.some.inj ht
      rw [if_neg (by omega), if_neg (by omega), if_pos (by omega)] at hF
      exact zw_La_c2 (by omega) N x3 hx0 hx1 hx2 hz hF K
    | 3, ht, e =>
      obtain rfl : 153 = t := Option.some.inj ht
      rw [if_neg (by omega), if_neg (by omega), if_neg (by omega), if_pos (by omega)] at hF
      exact zw_La_c3 (by omega) N x3 hx0 hx1 hx2 hz hF K
    | 4, ht, e =>
      obtain rfl : 210 = t := Option.some.inj ht
      rw [if_neg (by omega), if_neg (by omega), if_neg (by omega), if_neg (by omega), if_pos (by omega)] at hF
      exact zw_La_c4 (by omega) N x3 hx0 hx1 hx2 hz hF K
    | 5, ht, e =>
      obtain rfl : 227 = t := Option.some.inj ht
      rw [if_neg (by omega), if_neg (by omega), if_neg (by omega), if_neg (by omega), if_neg (by omega), if_pos (by omega)] at hF
      exact zw_La_c5 (by omega) N x3 hx0 hx1 hx2 hz hF K
    | 6, ht, e =>
      obtain rfl : 234 = t := Option.some.inj ht
      rw [if_neg (by omega), if_neg (by omega), if_neg (by omega), if_neg (by omega), if_neg (by omega), if_neg (by omega), if_pos (by omega)] at hF
      exact zw_La_c6 (by omega) N x3 hx0 hx1 hx2 hz hF K
    | 7, ht, e =>
      obtain rfl : 251 = t := Option.some.inj ht
      rw [if_neg (by omega), if_neg (by omega), if_neg (by omega), if_neg (by omega), if_neg (by omega), if_neg (by omega), if_neg (by omega), if_pos (by omega)] at hF
      exact zw_La_c7 (by omega) N x3 hx0 hx1 hx2 hz hF K
    | 8, ht, e =>
      obtain rfl : 268 = t := Option.some.inj ht
      rw [if_neg (by omega), if_neg (by omega), if_neg (by omega), if_neg (by omega), if_neg (by omega), if_neg (by omega), if_neg (by omega), if_neg (by omega), if_pos (by omega)] at hF
      exact zw_La_c8 (by omega) N x3 hx0 hx1 hx2 hz hF K
    | 9, ht, e =>
      obtain rfl : 305 = t := Option.some.inj ht
      rw [if_neg (by omega), if_neg (by omega), if_neg (by omega), if_neg (by omega), if_neg (by omega), if_neg (by omega), if_neg (by omega), if_neg (by omega), if_neg (by omega), if_pos (by omega)] at hF
      exact zw_La_c9 (by omega) N x3 hx0 hx1 hx2 hz hF K
    | 10, ht, e =>
      obtain rfl : 322 = t := Option.some.inj ht
      rw [if_neg (by omega), if_neg (by omega), if_neg (by omega), if_neg (by omega), if_neg (by omega), if_neg (by omega), if_neg (by omega), if_neg (by omega), if_neg (by omega), if_neg (by omega), if_pos (by omega)] at hF
      exact zw_La_c10 (by omega) N x3 hx0 hx1 hx2 hz hF K
    | 11, ht, e =>
      obtain rfl : 349 = t := Option.some.inj ht
      rw [if_neg (by omega), if_neg (by omega), if_neg (by omega), if_neg (by omega), if_neg (by omega), if_neg (by omega), if_neg (by omega), if_neg (by omega), if_neg (by omega), if_neg (by omega), if_neg (by omega), if_pos (by omega)] at hF
      exact zw_La_c11 (by omega) N x3 hx0 hx1 hx2 hz hF K
    | 12, ht, e =>
      obtain rfl : 376 = t := Option.some.inj ht
      rw [if_neg (by omega), if_neg (by omega), if_neg (by omega), if_neg (by omega), if_neg (by omega), if_neg (by omega), if_neg (by omega), if_neg (by omega), if_neg (by omega), if_neg (by omega), if_neg (by omega), if_neg (by omega), if_pos (by omega)] at hF
      exact zw_La_c12 (by omega) N x3 hx0 hx1 hx2 hz hF K
    | 13, ht, e =>
      obtain rfl : 393 = t := Option.some.inj ht
      rw [if_neg (by omega), if_neg (by omega), if_neg (by omega), if_neg (by omega), if_neg (by omega), if_neg (by omega), if_neg (by omega), if_neg (by omega), if_neg (by omega), if_neg (by omega), if_neg (by omega), if_neg (by omega), if_neg (by omega), if_pos (by omega)] at hF
      exact zw_La_c13 (by omega) N x3 hx0 hx1 hx2 hz hF K
    | 14, ht, e =>
      obtain rfl : 400 = t := Option.some.inj ht
      rw [if_neg (by omega), if_neg (by omega), if_neg (by omega), if_neg (by omega), if_neg (by omega), if_neg (by omega), if_neg (by omega), if_neg (by omega), if_neg (by omega), if_neg (by omega), if_neg (by omega), if_neg (by omega), if_neg (by omega), if_neg (by omega), if_pos (by omega)] at hF
      exact zw_La_c14 (by omega) N x3 hx0 hx1 hx2 hz hF K
    | 15, ht, e =>
      obtain rfl : 407 = t := Option.some.inj ht
      rw [if_neg (by omega), if_neg (by omega), if_neg (by omega), if_neg (by omega), if_neg (by omega), if_neg (by omega), if_neg (by omega), if_neg (by omega), if_neg (by omega), if_neg (by omega), if_neg (by omega), if_neg (by omega), if_neg (by omega), if_neg (by omega), if_neg (by omega), if_pos (by omega)] at hF
      exact zw_La_c15 (by omega) N x3 hx0 hx1 hx2 hz hF K
    | 16, ht, e =>
      obtain rfl : 414 = t := Option.some.inj ht
      rw [if_neg (by omega), if_neg (by omega), if_neg (by omega), if_neg (by omega), if_neg (by omega), if_neg (by omega), if_neg (by omega), if_neg (by omega), if_neg (by omega), if_neg (by omega), if_neg (by omega), if_neg (by omega), if_neg (by omega), if_neg (by omega), if_neg (by omega), if_neg (by omega), if_pos (by omega)] at hF
      exact zw_La_c16 (by omega) N x3 hx0 hx1 hx2 hz hF K
    | 17, ht, e =>
      obtain rfl : 441 = t := Option.some.inj ht
      rw [if_neg (by omega), if_neg (by omega), if_neg (by omega), if_neg (by omega), if_neg (by omega), if_neg (by omega), if_neg (by omega), if_neg (by omega), if_neg (by omega), if_neg (by omega), if_neg (by omega), if_neg (by omega), if_neg (by omega), if_neg (by omega), if_neg (by omega), if_neg (by omega), if_neg (by omega), if_pos (by omega)] at hF
      exact zw_La_c17 (by omega) N x3 hx0 hx1 hx2 hz hF K
    | 18, ht, e =>
      obtain rfl : 506 = t := Option.some.inj ht
      rw [if_neg (by omega), if_neg (by omega), if_neg (by omega), if_neg (by omega), if_neg (by omega), if_neg (by omega), if_neg (by omega), if_neg (by omega), if_neg (by omega), if_neg (by omega), if_neg (by omega), if_neg (by omega), if_neg (by omega), if_neg (by omega), if_neg (by omega), if_neg (by omega), if_neg (by omega), if_neg (by omega), if_pos (by omega)] at hF
      exact zw_La_c18 (by omega) N x3 hx0 hx1 hx2 hz hF K
    | 19, ht, e =>
      obtain rfl : 533 = t := Option.some.inj ht
      rw [if_neg (by omega), if_neg (by omega), if_neg (by omega), if_neg (by omega), if_neg (by omega), if_neg (by omega), if_neg (by omega), if_neg (by omega), if_neg (by omega), if_neg (by omega), if_neg (by omega), if_neg (by omega), if_neg (by omega), if_neg (by omega), if_neg (by omega), if_neg (by omega), if_neg (by omega), if_neg (by omega), if_neg (by omega), if_pos (by omega)] at hF
      exact zw_La_c19 (by omega) N x3 hx0 hx1 hx2 hz hF K
    | 20, ht, e =>
      obtain rfl : 540 = t := Option.some.inj ht
      rw [if_neg (by omega), if_neg (by omega), if_neg (by omega), if_neg (by omega), if_neg (by omega), if_neg (by omega), if_neg (by omega), if_neg (by omega), if_neg (by omega), if_neg (by omega), if_neg (by omega), if_neg (by omega), if_neg (by omega), if_neg (by omega), if_neg (by omega), if_neg (by omega), if_neg (by omega), if_neg (by omega), if_neg (by omega), if_neg (by omega), if_pos (by omega)] at hF
      exact zw_La_c20 (by omega) N x3 hx0 hx1 hx2 hz hF K
    | 21, ht, e =>
      obtain rfl : 605 = t := Option.some.inj ht
      rw [if_neg (by omega), if_neg (by omega), if_neg (by omega), if_neg (by omega), if_neg (by omega), if_neg (by omega), if_neg (by omega), if_neg (by omega), if_neg (by omega), if_neg (by omega), if_neg (by omega), if_neg (by omega), if_neg (by omega), if_neg (by omega), if_neg (by omega), if_neg (by omega), if_neg (by omega), if_neg (by omega), if_neg (by omega), if_neg (by omega), if_neg (by omega), if_pos (by omega)] at hF
      exact zw_La_c21 (by omega) N x3 hx0 hx1 hx2 hz hF K
    | 22, ht, e =>
      obtain rfl : 632 = t := Option.some.inj ht
      rw [if_neg (by omega), if_neg (by omega), if_neg (by omega), if_neg (by omega), if_neg (by omega), if_neg (by omega), if_neg (by omega), if_neg (by omega), if_neg (by omega), if_neg (by omega), if_neg (by omega), if_neg (by omega), if_neg (by omega), if_neg (by omega), if_neg (by omega), if_neg (by omega), if_neg (by omega), if_neg (by omega), if_neg (by omega), if_neg (by omega), if_neg (by omega), if_neg (by omega), if_pos (by omega)] at hF
      exact zw_La_c22 (by omega) N x3 hx0 hx1 hx2 hz hF K
    | 23, ht, e =>
      obtain rfl : 659 = t := Option.some.inj ht
      rw [if_neg (by omega), if_neg (by omega), if_neg (by omega), if_neg (by omega), if_neg (by omega), if_neg (by omega), if_neg (by omega), if_neg (by omega), if_neg (by omega), if_neg (by omega), if_neg (by omega), if_neg (by omega), if_neg (by omega), if_neg (by omega), if_neg (by omega), if_neg (by omega), if_neg (by omega), if_neg (by omega), if_neg (by omega), if_neg (by omega), if_neg (by omega), if_neg (by omega), if_neg (by omega), if_pos (by omega)] at hF
      exact zw_La_c23 (by omega) N x3 hx0 hx1 hx2 hz hF K
    | 24, ht, e =>
      obtain rfl : 727 = t := Option.some.inj ht
      rw [if_neg (by omega), if_neg (by omega), if_neg (by omega), if_neg (by omega), if_neg (by omega), if_neg (by omega), if_neg (by omega), if_neg (by omega), if_neg (by omega), if_neg (by omega), if_neg (by omega), if_neg (by omega), if_neg (by omega), if_neg (by omega), if_neg (by omega), if_neg (by omega), if_neg (by omega), if_neg (by omega), if_neg (by omega), if_neg (by omega), if_neg (by omega), if_neg (by omega), if_neg (by omega), if_neg (by omega), if_pos (by omega)] at hF
      exact zw_La_c24 (by omega) N x3 hx0 hx1 hx2 hz hF K
    | 25, ht, e =>
      obtain rfl : 764 = t := Option.some.inj ht
      rw [if_neg (by omega), if_neg (by omega), if_neg (by omega), if_neg (by omega), if_neg (by omega), if_neg (by omega), if_neg (by omega), if_neg (by omega), if_neg (by omega), if_neg (by omega), if_neg (by omega), if_neg (by omega), if_neg (by omega), if_neg (by omega), if_neg (by omega), if_neg (by omega), if_neg (by omega), if_neg (by omega), if_neg (by omega), if_neg (by omega), if_neg (by omega), if_neg (by omega), if_neg (by omega), if_neg (by omega), if_neg (by omega), if_pos (by omega)] at hF
      exact zw_La_c25 (by omega) N x3 hx0 hx1 hx2 hz hF K
    | 26, ht, e =>
      obtain rfl : 791 = t := Option.some.inj ht
      rw [if_neg (by omega), if_neg (by omega), if_neg (by omega), if_neg (by omega), if_neg (by omega), if_neg (by omega), if_neg (by omega), if_neg (by omega), if_neg (by omega), if_neg (by omega), if_neg (by omega), if_neg (by omega), if_neg (by omega), if_neg (by omega), if_neg (by omega), if_neg (by omega), if_neg (by omega), if_neg (by omega), if_neg (by omega), if_neg (by omega), if_neg (by omega), if_neg (by omega), if_neg (by omega), if_neg (by omega), if_neg (by omega), if_neg (by omega), if_pos (by omega)] at hF
      exact zw_La_c26 (by omega) N x3 hx0 hx1 hx2 hz hF K
    | 27, ht, e =>
      obtain rfl : 798 = t := Option.some.inj ht
      rw [if_neg (by omega), if_neg (by omega), if_neg (by omega), if_neg (by omega), if_neg (by omega), if_neg (by omega), if_neg (by omega), if_neg (by omega), if_neg (by omega), if_neg (by omega), if_neg (by omega), if_neg (by omega), if_neg (by omega), if_neg (by omega), if_neg (by omega), if_neg (by omega), if_neg (by omega), if_neg (by omega), if_neg (by omega), if_neg (by omega), if_neg (by omega), if_neg (by omega), if_neg (by omega), if_neg (by omega), if_neg (by omega), if_neg (by omega), if_neg (by omega), if_pos (by omega)] at hF
      exact zw_La_c27 (by omega) N x3 hx0 hx1 hx2 hz hF K
    | 28, ht, e =>
      obtain rfl : 805 = t := Option.some.inj ht
      rw [if_neg (by omega), if_neg (by omega), if_neg (by omega), if_neg (by omega), if_neg (by omega), if_neg (by omega), if_neg (by omega), if_neg (by omega), if_neg (by omega), if_neg (by omega), if_neg (by omega), if_neg (by omega), if_neg (by omega), if_neg (by omega), if_neg (by omega), if_neg (by omega), if_neg (by omega), if_neg (by omega), if_neg (by omega), if_neg (by omega), if_neg (by omega), if_neg (by omega), if_neg (by omega), if_neg (by omega), if_neg (by omega), if_neg (by omega), if_neg (by omega), if_neg (by omega), if_pos (by omega)] at hF
      exact zw_La_c28 (by omega) N x3 hx0 hx1 hx2 hz hF K
    | j + 29, ht, e => cases ht
set_option maxRecDepth 100000 in
set_option maxHeartbeats 4000000 in
theorem zw_La_loop {l : Launch} {E : zE} {d : Nat} (hd : 116 ≤ d) (N : Nat) (hx2 : (zsc E).1 < 100000) (hz : ∀ a, zI32 (zsx E a)) (I : zHp → Prop) (hI : ∀ (x3 : Int) (h : zHp), 0 ≤ x3 → x3 + 7 ≤ ((zsc E).1 : Nat) → I h → ∃ h1, sh_La_case N E x3 h = some (1, h1) ∧ I h1) :
    ∀ (n : Nat) (x3 : Int) (h : zHp), I h → 0 ≤ x3 → x3 ≤ 100000 → ((zsc E).1 : Int) + 7 ≤ x3 + n → zW l E d zm_La_law 10 [.inr (.inr 1000), .inr (.inr 0), .inr (.inr 85), .inl x3] [] h (fun r _ => r = 1) := by
  intro n
  induction n with
  | zero =>
    intro x3 h hI1 h0 h1 hn
    refine z_iload rfl rfl ?_
    refine z_aload rfl rfl rfl ?_
    refine z_sln rfl hx2 ?_
    refine z_const rfl ?_
    refine z_isub rfl ?_
    refine z_cgt rfl (fun c1 => ?_) (fun c1 => ?_)
    · refine z_const rfl ?_
      exact z_zret rfl rfl (Or.inr rfl) rfl
    · rw [w32_i ⟨by omega, by omega⟩] at c1
      omega
  | succ n ih =>
    intro x3 h hI1 h0 h1 hn
    refine z_iload rfl rfl ?_
    refine z_aload rfl rfl rfl ?_
    refine z_sln rfl hx2 ?_
    refine z_const rfl ?_
    refine z_isub rfl ?_
    refine z_cgt rfl (fun c1 => ?_) (fun c1 => ?_)
    · refine z_const rfl ?_
      exact z_zret rfl rfl (Or.inr rfl) rfl
    · rw [w32_i ⟨by omega, by omega⟩] at c1
      obtain ⟨h2, e2, hI2⟩ := hI x3 h h0 (by omega) hI1
      refine zw_La_case hd N x3 h0 (by omega) hx2 hz e2 ?_
      refine z_iinc rfl rfl rfl ?_
      refine z_goto rfl ?_
      rw [w32_i ⟨by omega, by omega⟩]
      exact ih (x3 + 7) h2 hI2 (by omega) (by omega) (by omega)
theorem zk_La_law_0 : zchp zm_La_law 0 50 = true := by decide +kernel
theorem zk_La_law_1 : zchp zm_La_law 50 50 = true := by decide +kernel
theorem zk_La_law_2 : zchp zm_La_law 100 50 = true := by decide +kernel
theorem zk_La_law_3 : zchp zm_La_law 150 50 = true := by decide +kernel
theorem zk_La_law_4 : zchp zm_La_law 200 50 = true := by decide +kernel
theorem zk_La_law_5 : zchp zm_La_law 250 50 = true := by decide +kernel
theorem zk_La_law_6 : zchp zm_La_law 300 50 = true := by decide +kernel
theorem zk_La_law_7 : zchp zm_La_law 350 50 = true := by decide +kernel
theorem zk_La_law_8 : zchp zm_La_law 400 50 = true := by decide +kernel
theorem zk_La_law_9 : zchp zm_La_law 450 50 = true := by decide +kernel
theorem zk_La_law_10 : zchp zm_La_law 500 50 = true := by decide +kernel
theorem zk_La_law_11 : zchp zm_La_law 550 50 = true := by decide +kernel
theorem zk_La_law_12 : zchp zm_La_law 600 50 = true := by decide +kernel
theorem zk_La_law_13 : zchp zm_La_law 650 50 = true := by decide +kernel
theorem zk_La_law_14 : zchp zm_La_law 700 50 = true := by decide +kernel
theorem zk_La_law_15 : zchp zm_La_law 750 50 = true := by decide +kernel
theorem zk_La_law_16 : zchp zm_La_law 800 26 = true := by decide +kernel
theorem zk_La_law : zchk zm_La_law = true := zchk_of [(0, 50), (50, 50), (100, 50), (150, 50), (200, 50), (250, 50), (300, 50), (350, 50), (400, 50), (450, 50), (500, 50), (550, 50), (600, 50), (650, 50), (700, 50), (750, 50), (800, 26)] (by decide +kernel) (List.forall_mem_cons.mpr ⟨zk_La_law_0, List.forall_mem_cons.mpr ⟨zk_La_law_1, List.forall_mem_cons.mpr ⟨zk_La_law_2, List.forall_mem_cons.mpr ⟨zk_La_law_3, List.forall_mem_cons.mpr ⟨zk_La_law_4, List.forall_mem_cons.mpr ⟨zk_La_law_5, List.forall_mem_cons.mpr ⟨zk_La_law_6, List.forall_mem_cons.mpr ⟨zk_La_law_7, List.forall_mem_cons.mpr ⟨zk_La_law_8, List.forall_mem_cons.mpr ⟨zk_La_law_9, List.forall_mem_cons.mpr ⟨zk_La_law_10, List.forall_mem_cons.mpr ⟨zk_La_law_11, List.forall_mem_cons.mpr ⟨zk_La_law_12, List.forall_mem_cons.mpr ⟨zk_La_law_13, List.forall_mem_cons.mpr ⟨zk_La_law_14, List.forall_mem_cons.mpr ⟨zk_La_law_15, List.forall_mem_cons.mpr ⟨zk_La_law_16, fun _ h => absurd h List.not_mem_nil⟩⟩⟩⟩⟩⟩⟩⟩⟩⟩⟩⟩⟩⟩⟩⟩⟩)
