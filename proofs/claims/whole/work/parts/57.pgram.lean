/-! PURE: text, what a token is called; what the grammar says -/
theorem zlet_d {L : List Int} (h : (L.all fun c => decide (1 ≤ c ∧ c ≤ 255)) = true) : zlet L := fun c hc => of_decide_eq_true (List.all_eq_true.mp h c hc)
theorem zor_W {g : zHp} {b : zFn} {len p : Nat} (T : zTK g b len p) : (if g 85 9 = 2 then (if zcmp (g 85 11) 28530 = 0 then 1 else 0 : Int) else 0 : Int) = if zco b len p = 16 then 1 else 0 := zisW T 16 [111, 114] 28530 rfl (by decide) (by decide) (zlet_d (by decide)) (by decide)
theorem zand_W {g : zHp} {b : zFn} {len p : Nat} (T : zTK g b len p) : sh_Mo_isWord (sh_Mo_w3 97 110 100) g = if zco b len p = 17 then 1 else 0 := zisW T 17 [97, 110, 100] _ rfl (by decide) (by decide) (zlet_d (by decide)) (by decide +kernel)
theorem znot_W {g : zHp} {b : zFn} {len p : Nat} (T : zTK g b len p) : sh_Mo_isWord (sh_Mo_w3 110 111 116) g = if zco b len p = 18 then 1 else 0 := zisW T 18 [110, 111, 116] _ rfl (by decide) (by decide) (zlet_d (by decide)) (by decide +kernel)
theorem zsrt_r {g : zHp} {b : zFn} {len p : Nat} (T : zTK g b len p) : sh_Mo_sortOf g = if 11 ≤ zco b len p ∧ zco b len p ≤ 15 then zco b len p - 11 else -1 := by
  unfold sh_Mo_sortOf
  rw [zisW T 11 [104,101,101,100,115] _ rfl (by decide) (by decide) (zlet_d (by decide)) (by decide +kernel), zisW T 12 [115,101,99,111,110,100] _ rfl (by decide) (by decide) (zlet_d (by decide)) (by decide +kernel), zisW T 13 [115,108,105,112] _ rfl (by decide) (by decide) (zlet_d (by decide)) (by decide +kernel), zisW T 14 [99,97,108,108,115] _ rfl (by decide) (by decide) (zlet_d (by decide)) (by decide +kernel), zisW T 15 [119,111,114,107] _ rfl (by decide) (by decide) (zlet_d (by decide)) (by decide +kernel)]
  generalize zco b len p = k
  repeat' split
  all_goals omega
theorem zstr_r {g : zHp} {b : zFn} {len p : Nat} {N : Nat} (TP : zTp g b len) (hp : p ≤ len) (T : zTK g b len p) (h2 : g 85 9 = 2) : sh_Mo_isStrength N g = some (if zco b len p = 8 then 1 else 0) := by
  have hS := zTK_s T
  have hb := zne_b (b := b) (len := len) hp
  have hl := TP.2.1
  obtain ⟨⟨t7, t8⟩, hT⟩ := T
  obtain ⟨L, hL, hle, hk, -⟩ : ∃ L, L = zBy b (zne b len p - zPl2 b len p) (zPl2 b len p) ∧ zlet L ∧ zco b len p = zwx zWds 0 L ∧ g 85 11 = (if L.length ≤ 7 then (zpk L 0 : Int) else 0) := by
    rcases hT with ⟨-, q⟩ | ⟨-, q, -⟩ | ⟨-, q⟩ | hm
    · rw [h2] at q; exact absurd q (by decide)
    · rw [h2] at q; exact absurd q (by decide)
    · exact q
    · exfalso
      rw [h2] at hm
      simp [zSgn] at hm
  have hg := zwx_g zWds 0 L 8 zWd_n (by decide) (by decide)
  rw [← hk] at hg
  have hg' : zco b len p = 8 ↔ L = [115,116,114,101,110,103,116,104] := by
    constructor
    · intro q
      have := hg.mp (by rw [q]; rfl)
      exact (Option.some.inj this).symm
    · intro q
      have := hg.mpr (by rw [q]; rfl)
      rw [this]; rfl
  have hlen : L.length = zne b len p - zPl2 b len p := by rw [hL, zBy_l]
  generalize zPl2 b len p = s at *
  generalize zne b len p = e at *
  unfold sh_Mo_isStrength
  rw [t7, t8, w32_s (by omega) (by omega)]
  by_cases c8 : e - s = 8
  · rw [if_pos (by omega)]
    have hb8 : ∀ i, i < 8 → sh_Mo_byteAt N (((s + i : Nat) : Int)) g = some (b (s + i)) := fun i hi => by
      rw [zba_r TP]
      unfold zbA
      rw [if_neg (by omega)]
    have hw : ∀ i : Nat, i < 8 → w32 ((s : Int) + (i : Int)) = ((s + i : Nat) : Int) := fun i hi => by rw [w32_s (by omega) (by omega)]; omega
    have hL8 : L = [b s, b (s + 1), b (s + 2), b (s + 3), b (s + 4), b (s + 5), b (s + 6), b (s + 7)] := by rw [hL, c8]; rfl
    rw [show w32 ((s : Int) + 1) = ((s + 1 : Nat) : Int) from hw 1 (by decide), show w32 ((s : Int) + 2) = ((s + 2 : Nat) : Int) from hw 2 (by decide), show w32 ((s : Int) + 3) = ((s + 3 : Nat) : Int) from hw 3 (by decide), show w32 ((s : Int) + 4) = ((s + 4 : Nat) : Int) from hw 4 (by decide), show w32 ((s : Int) + 5) = ((s + 5 : Nat) : Int) from hw 5 (by decide), show w32 ((s : Int) + 6) = ((s + 6 : Nat) : Int) from hw 6 (by decide), show w32 ((s : Int) + 7) = ((s + 7 : Nat) : Int) from hw 7 (by decide)]
    rw [show sh_Mo_byteAt N (s : Int) g = some (b s) from hb8 0 (by decide), hb8 1 (by decide), hb8 2 (by decide), hb8 3 (by decide), hb8 4 (by decide), hb8 5 (by decide), hb8 6 (by decide), hb8 7 (by decide)]
    simp only [zb1_some]
    have hiff : zco b len p = 8 ↔ (b s = 115 ∧ b (s + 1) = 116 ∧ b (s + 2) = 114 ∧ b (s + 3) = 101 ∧ b (s + 4) = 110 ∧ b (s + 5) = 103 ∧ b (s + 6) = 116 ∧ b (s + 7) = 104) := by
      rw [hg', hL8]
      simp
    by_cases d : zco b len p = 8
    · obtain ⟨d0, d1, d2, d3, d4, d5, d6, d7⟩ := hiff.mp d
      rw [if_pos d0, if_pos d1, if_pos d2, if_pos d3, if_pos d4, if_pos d5, if_pos d6, if_pos d7, if_pos d]
    · rw [if_neg d]
      by_cases d0 : b s = 115
      case neg => rw [if_neg d0]
      rw [if_pos d0]
      by_cases d1 : b (s + 1) = 116
      case neg => rw [if_neg d1]
      rw [if_pos d1]
      by_cases d2 : b (s + 2) = 114
      case neg => rw [if_neg d2]
      rw [if_pos d2]
      by_cases d3 : b (s + 3) = 101
      case neg => rw [if_neg d3]
      rw [if_pos d3]
      by_cases d4 : b (s + 4) = 110
      case neg => rw [if_neg d4]
      rw [if_pos d4]
      by_cases d5 : b (s + 5) = 103
      case neg => rw [if_neg d5]
      rw [if_pos d5]
      by_cases d6 : b (s + 6) = 116
      case neg => rw [if_neg d6]
      rw [if_pos d6]
      by_cases d7 : b (s + 7) = 104
      case neg => rw [if_neg d7]
      exact absurd (hiff.mpr ⟨d0, d1, d2, d3, d4, d5, d6, d7⟩) d
  · rw [if_neg (by omega), if_neg (fun q => by rw [hg'.mp q] at hlen; exact c8 hlen.symm)]
theorem znm_r {g : zHp} {b : zFn} {len p : Nat} {N : Nat} (TP : zTp g b len) (hp : p ≤ len) (T : zTK g b len p) : sh_Mo_nameOf N g = some (if 0 ≤ zco b len p ∧ zco b len p ≤ 10 then zco b len p else -1) := by
  have hS := zTK_s T
  unfold sh_Mo_nameOf
  by_cases h2 : g 85 9 = 2
  · rw [if_pos h2]
    have q : ∀ (i : Nat) (w : List Int) (c : Int), zWds[i]? = some w → w.length ≤ 7 → w ≠ [] → zlet w → c = (zpk w 0 : Int) → (zcmp (g 85 11) c = 0) = (zco b len p = i) := by
      intro i w c h1 h2' h3 h4 h5
      apply propext
      rw [zcmp_eq, h5, ← zTK_w T i w h1 h2' h3 h4]
      exact ⟨fun r => ⟨h2, r⟩, fun r => r.2⟩
    simp only [q 0 [104,111,117,114] _ rfl (by decide) (by decide) (zlet_d (by decide)) (show sh_Mo_w4 104 111 117 114 = _ by decide +kernel), q 1 [112,105,116,99,104] _ rfl (by decide) (by decide) (zlet_d (by decide)) (show sh_Mo_w5 112 105 116 99 104 = _ by decide +kernel), q 2 [102,97,114,109] _ rfl (by decide) (by decide) (zlet_d (by decide)) (show sh_Mo_w4 102 97 114 109 = _ by decide +kernel), q 3 [101,97,114] _ rfl (by decide) (by decide) (zlet_d (by decide)) (show sh_Mo_w3 101 97 114 = _ by decide +kernel), q 4 [111,119,110] _ rfl (by decide) (by decide) (zlet_d (by decide)) (show sh_Mo_w3 111 119 110 = _ by decide +kernel), q 5 [102,97,114] _ rfl (by decide) (by decide) (zlet_d (by decide)) (show sh_Mo_w3 102 97 114 = _ by decide +kernel), q 6 [121,111,107,101,100] _ rfl (by decide) (by decide) (zlet_d (by decide)) (show sh_Mo_w5 121 111 107 101 100 = _ by decide +kernel), q 7 [111,120] _ rfl (by decide) (by decide) (zlet_d (by decide)) (show (28536 : Int) = _ by decide +kernel), q 9 [119,101,97,107,101,114] _ rfl (by decide) (by decide) (zlet_d (by decide)) (show sh_Mo_w6 119 101 97 107 101 114 = _ by decide +kernel), q 10 [115,111,105,108] _ rfl (by decide) (by decide) (zlet_d (by decide)) (show sh_Mo_w4 115 111 105 108 = _ by decide +kernel)]
    rw [zstr_r TP hp T h2]
    simp only [zb1_some]
    generalize zco b len p = k
    repeat' split
    all_goals first
      | rfl
      | (congr 1; omega)
      | (exfalso; omega)
  · rw [if_neg h2, if_neg (fun q => h2 (hS.2.2.2.2.2.2.2.2.2.2.2.2.2.2.2.2 (by omega)))]
/-! the grammar: a fault and its place, or the next place and the codes -/
abbrev zR : Type := (Int × Nat) ⊕ (Nat × List Int)
def zlpR (b : zFn) (len : Nat) (J : Int → Bool) (sub : Nat → zR) : Nat → Nat → List Int → zR
  | 0, p, acc => .inr (p, acc)
  | n + 1, p, acc => if J (zco b len p) = true then (match sub (zne b len p) with
    | .inl e => .inl e
    | .inr (p', l') => zlpR b len J sub n p' (acc ++ (l' ++ [20000 + zco b len p]))) else .inr (p, acc)
def zjnR (b : zFn) (len : Nat) (J : Int → Bool) (sub : Nat → zR) (p : Nat) : zR := match sub p with
  | .inl e => .inl e
  | .inr (p', l') => zlpR b len J sub len p' l'
def zJ2 (k : Int) : Bool := decide (k = 26 ∨ k = 27)
def zJ3 (k : Int) : Bool := decide (k = 24 ∨ k = 25)
def zJ1 (k : Int) : Bool := decide (k = 17)
def zJ0 (k : Int) : Bool := decide (k = 16)
def zprd (b : zFn) (len : Nat) (O : Nat → zR) (p : Nat) : zR := zjnR b len zJ2 O p
def zsmR (b : zFn) (len : Nat) (O : Nat → zR) (p : Nat) : zR := zjnR b len zJ3 (zprd b len O) p
def zone (b : zFn) (len : Nat) (cl : Int) : Nat → Nat → zR
  | 0, p => if zco b len p = 34 then (if znu b len p ≤ 9999 then .inr (zne b len p, [znu b len p]) else .inl (2, zPl2 b len p))
    else if 0 ≤ zco b len p ∧ zco b len p < 11 then (if zNok cl (zco b len p) = true then .inr (zne b len p, [10000 + zco b len p]) else .inl (5, zPl2 b len p))
    else if zco b len p = 25 then .inl (3, zPl2 b len p) else if zco b len p = 28 then .inl (3, zPl2 b len p) else .inl (1, zPl2 b len p)
  | d + 1, p => if zco b len p = 34 then (if znu b len p ≤ 9999 then .inr (zne b len p, [znu b len p]) else .inl (2, zPl2 b len p))
    else if 0 ≤ zco b len p ∧ zco b len p < 11 then (if zNok cl (zco b len p) = true then .inr (zne b len p, [10000 + zco b len p]) else .inl (5, zPl2 b len p))
    else if zco b len p = 25 then (match zone b len cl d (zne b len p) with
      | .inl e => .inl e
      | .inr (p', l) => .inr (p', l ++ [20033]))
    else if zco b len p = 28 then (match zsmR b len (zone b len cl d) (zne b len p) with
      | .inl e => .inl e
      | .inr (p', l) => if zco b len p' = 29 then .inr (zne b len p', l) else .inl (1, zPl2 b len p'))
    else .inl (1, zPl2 b len p)
def zcpn (k : Int) : Bool := decide ((20 ≤ k ∧ k ≤ 23) ∨ k = 31 ∨ k = 32)
def zask1 (b : zFn) (len : Nat) (cl : Int) (d p : Nat) : zR := match zsmR b len (zone b len cl d) p with
  | .inl e => .inl e
  | .inr (p1, l1) => if zcpn (zco b len p1) = true then (match zsmR b len (zone b len cl d) (zne b len p1) with
    | .inl e => .inl e
    | .inr (p2, l2) => .inr (p2, l1 ++ (l2 ++ [20000 + zco b len p1]))) else .inl (1, zPl2 b len p1)
def zask (b : zFn) (len : Nat) (cl : Int) : Nat → Nat → zR
  | 0, p => if zco b len p = 18 then .inl (3, zPl2 b len p) else zask1 b len cl 0 p
  | d + 1, p => if zco b len p = 18 then (match zask b len cl d (zne b len p) with
      | .inl e => .inl e
      | .inr (p', l) => .inr (p', l ++ [20018])) else zask1 b len cl (d + 1) p
def zbth (b : zFn) (len : Nat) (cl : Int) (p : Nat) : zR := zjnR b len zJ1 (zask b len cl 8) p
def zeit (b : zFn) (len : Nat) (cl : Int) (p : Nat) : zR := zjnR b len zJ0 (zbth b len cl) p
/-- codes are no more than bytes; a place ahead of the end; a fault is one -/
def zRG2 (len p : Nat) (r : zR) : Prop := match r with
  | .inl (k, q) => (1 ≤ k ∧ k ≤ 5) ∧ q ≤ len
  | .inr (p', l) => p + l.length ≤ p' ∧ p' ≤ len ∧ l ≠ []
