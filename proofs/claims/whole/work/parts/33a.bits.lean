/-! bits: rows pasted from the kit's laws, then this claim's -/
/-! ===== Int32 by its bits: bt x i ===== -/
def bt (x : Int32) (i : Nat) : Bool := x.toBitVec.getLsbD i
theorem b_ext {x y : Int32} (h : ∀ i, i < 32 → bt x i = bt y i) : x = y := Int32.toBitVec_inj.mp (BitVec.eq_of_getLsbD_eq (fun i hi => h i hi))
theorem b_or (x y : Int32) (i : Nat) : bt (x ||| y) i = (bt x i || bt y i) := by unfold bt; rw [Int32.toBitVec_or, BitVec.getLsbD_or]
theorem b_and (x y : Int32) (i : Nat) : bt (x &&& y) i = (bt x i && bt y i) := by unfold bt; rw [Int32.toBitVec_and, BitVec.getLsbD_and]
theorem b_xor (x y : Int32) (i : Nat) : bt (x ^^^ y) i = (bt x i ^^ bt y i) := by unfold bt; rw [Int32.toBitVec_xor, BitVec.getLsbD_xor]
theorem b_big {x : Int32} {i : Nat} (h : 32 ≤ i) : bt x i = false := BitVec.getLsbD_of_ge _ _ h
theorem b_255 (i : Nat) : bt 255 i = decide (i < 8) := by
  rcases Nat.lt_or_ge i 32 with h | h
  · exact (by decide +kernel : ∀ i, i < 32 → bt 255 i = decide (i < 8)) i h
  · rw [b_big h, decide_eq_false (by omega)]
theorem b_65535 (i : Nat) : bt 65535 i = decide (i < 16) := by
  rcases Nat.lt_or_ge i 32 with h | h
  · exact (by decide +kernel : ∀ i, i < 32 → bt 65535 i = decide (i < 16)) i h
  · rw [b_big h, decide_eq_false (by omega)]
theorem b_m1 : ∀ i, i < 32 → bt (-1) i = true := by decide +kernel
theorem b_0 (i : Nat) : bt 0 i = false := BitVec.getLsbD_zero
theorem s_l : ∀ n, n < 32 → ((nI n &&& 31).toBitVec.smod 32).toNat = n := by decide +kernel
theorem s_u : ∀ n, n < 32 → (((nI n).toUInt32 &&& Int32.toUInt32 31).toBitVec % 32).toNat = n := by decide +kernel
theorem b_shl (n : Nat) (hn : n < 32) (x : Int32) {i : Nat} (hi : i < 32) : bt (x <<< (nI n &&& 31)) i = (decide (n ≤ i) && bt x (i - n)) := by
  unfold bt
  rw [Int32.toBitVec_shiftLeft]
  show (x.toBitVec <<< ((nI n &&& 31).toBitVec.smod 32).toNat).getLsbD i = _
  rw [s_l n hn, BitVec.getLsbD_shiftLeft]
  rcases Nat.lt_or_ge i n with h | h
  · simp [h, Nat.not_le.mpr h]
  · simp [hi, h, Nat.not_lt.mpr h]
theorem b_ushr (n : Nat) (hn : n < 32) (x : Int32) (i : Nat) : bt ((x.toUInt32 >>> ((nI n).toUInt32 &&& Int32.toUInt32 31)).toInt32) i = bt x (n + i) := by
  show (x.toUInt32 >>> ((nI n).toUInt32 &&& Int32.toUInt32 31)).toBitVec.getLsbD i = x.toUInt32.toBitVec.getLsbD (n + i)
  rw [UInt32.toBitVec_shiftRight]
  show (x.toUInt32.toBitVec >>> (((nI n).toUInt32 &&& Int32.toUInt32 31).toBitVec % 32).toNat).getLsbD i = _
  rw [s_u n hn, BitVec.getLsbD_ushiftRight]
theorem b_sshr (n : Nat) (hn : n < 32) (x : Int32) {i : Nat} (hi : i < 32) : bt (x >>> (nI n &&& 31)) i = if n + i < 32 then bt x (n + i) else bt x 31 := by
  unfold bt
  rw [Int32.toBitVec_shiftRight]
  show (x.toBitVec.sshiftRight ((nI n &&& 31).toBitVec.smod 32).toNat).getLsbD i = _
  rw [s_l n hn, BitVec.getLsbD_sshiftRight, BitVec.msb_eq_getLsbD_last]
  simp [hi]
/-! this claim's -/
theorem zI_of (x : Int) : Int32.ofInt ((Int32.ofInt x).toInt) = Int32.ofInt x := Int32.ofInt_toInt _
theorem zand_t (x y : Int32) : zand x.toInt y.toInt = (x &&& y).toInt := by unfold zand; rw [Int32.ofInt_toInt, Int32.ofInt_toInt]
theorem zbyte (x : Int) (k : Nat) (hk : k ≤ 24) : zand (zushr x k) 255 = zand (zshr x k) 255 := by
  unfold zand zushr zshr
  rw [Int32.ofInt_toInt, Int32.ofInt_toInt]
  congr 1
  apply b_ext
  intro i hi
  rw [b_and, b_and]
  show (_ && bt (255 : Int32) i) = (_ && bt (255 : Int32) i)
  rw [b_255]
  by_cases h : i < 8
  · have e1 := b_ushr k (by omega) (Int32.ofInt x) i
    have e2 := b_sshr k (by omega) (Int32.ofInt x) hi
    rw [if_pos (by omega)] at e2
    have n1 : Int32.ofInt (k : Int) = nI k := rfl
    rw [n1, e1, e2]
  · rw [decide_eq_false h, Bool.and_false, Bool.and_false]
theorem zbyte_r (x : Int) : 0 ≤ zand x 255 ∧ zand x 255 ≤ 255 := by
  unfold zand
  have e : Int32.ofInt x &&& Int32.ofInt 255 = nI ((Int32.ofInt x &&& (255 : Int32)).toBitVec.toNat) := by
    apply Int32.toBitVec_inj.mp
    show (Int32.ofInt x &&& (255 : Int32)).toBitVec = BitVec.ofNat 32 _
    rw [BitVec.ofNat_toNat, BitVec.setWidth_eq]
  have hl : (Int32.ofInt x &&& (255 : Int32)).toBitVec.toNat ≤ 255 := by
    rw [Int32.toBitVec_and, BitVec.toNat_and]
    exact Nat.and_le_right
  rw [e]
  generalize (Int32.ofInt x &&& (255 : Int32)).toBitVec.toNat = n at hl ⊢
  have : (nI n).toInt = (n : Int) := by
    show (Int32.ofNat n).toInt = _
    exact w32_t (a := (n : Int)) ⟨by omega, by omega⟩
  rw [this]
  omega
/-- small sets -/
def zsb2 (s o : Nat) : Bool := s.testBit o
theorem zhas_8 : ∀ s : Nat, s < 256 → ∀ o : Nat, o < 8 → zand (zshr (s : Int) (o : Int)) 1 = if s.testBit o then 1 else 0 := by decide +kernel
theorem zbit_8 : ∀ o : Nat, o < 8 → zshl 1 (o : Int) = ((2 ^ o : Nat) : Int) := by decide +kernel
theorem zor_8 : ∀ s : Nat, s < 256 → ∀ t : Nat, t < 256 → zor (s : Int) (t : Int) = ((s ||| t : Nat) : Int) := by decide +kernel
theorem zand_8 : ∀ s : Nat, s < 256 → ∀ t : Nat, t < 256 → zand (s : Int) (t : Int) = ((s &&& t : Nat) : Int) := by decide +kernel
