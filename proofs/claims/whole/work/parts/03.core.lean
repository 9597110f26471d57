/-! THE JUDGEMENT zW: a method of the tables, at its k-th instruction, with whole numbers as locals, operands and cells, comes to an end with Q of its answer and of the cells then. Its rules stand behind it, one an instruction; nothing behind them speaks of the machine. -/
abbrev zHp : Type := Nat → Nat → Int
abbrev zV : Type := Int ⊕ Int ⊕ Nat
def zI32 (a : Int) : Prop := -2147483648 ≤ a ∧ a ≤ 2147483647
def zI64 (a : Int) : Prop := -9223372036854775808 ≤ a ∧ a ≤ 9223372036854775807
def w32 (a : Int) : Int := (Int32.ofInt a).toInt
def w64 (a : Int) : Int := (Int64.ofInt a).toInt
theorem w32_r (a : Int) : zI32 (w32 a) := by
  have h1 := Int32.le_toInt (Int32.ofInt a)
  have h2 := Int32.toInt_lt (Int32.ofInt a)
  unfold zI32 w32
  omega
theorem w64_r (a : Int) : zI64 (w64 a) := by
  have h1 := Int64.le_toInt (Int64.ofInt a)
  have h2 := Int64.toInt_lt (Int64.ofInt a)
  unfold zI64 w64
  omega
theorem w32_o (a : Int) : Int32.ofInt (w32 a) = Int32.ofInt a := Int32.ofInt_toInt _
theorem w64_o (a : Int) : Int64.ofInt (w64 a) = Int64.ofInt a := Int64.ofInt_toInt _
theorem w32_t {a : Int} (h : zI32 a) : (Int32.ofInt a).toInt = a := Int32.toInt_ofInt_of_le (by have := h.1; omega) (by have := h.2; omega)
theorem w64_t {a : Int} (h : zI64 a) : (Int64.ofInt a).toInt = a := Int64.toInt_ofInt_of_le (by have := h.1; omega) (by have := h.2; omega)
theorem w32_i {a : Int} (h : zI32 a) : w32 a = a := w32_t h
theorem w64_i {a : Int} (h : zI64 a) : w64 a = a := w64_t h
theorem zI32_d {a : Int} (h : decide (-2147483648 ≤ a ∧ a ≤ 2147483647) = true) : zI32 a := (of_decide_eq_true h : -2147483648 ≤ a ∧ a ≤ 2147483647)
theorem o32_eq {a b : Int} (ha : zI32 a) (hb : zI32 b) : Int32.ofInt a = Int32.ofInt b ↔ a = b := ⟨fun h => by rw [← w32_t ha, ← w32_t hb, h], fun h => by rw [h]⟩
theorem o32_lt {a b : Int} (ha : zI32 a) (hb : zI32 b) : Int32.ofInt a < Int32.ofInt b ↔ a < b := by rw [Int32.lt_iff_toInt_lt, w32_t ha, w32_t hb]
theorem o32_le {a b : Int} (ha : zI32 a) (hb : zI32 b) : Int32.ofInt a ≤ Int32.ofInt b ↔ a ≤ b := by rw [Int32.le_iff_toInt_le, w32_t ha, w32_t hb]
theorem o64_eq {a b : Int} (ha : zI64 a) (hb : zI64 b) : Int64.ofInt a = Int64.ofInt b ↔ a = b := ⟨fun h => by rw [← w64_t ha, ← w64_t hb, h], fun h => by rw [h]⟩
theorem o64_lt {a b : Int} (ha : zI64 a) (hb : zI64 b) : Int64.ofInt a < Int64.ofInt b ↔ a < b := by rw [Int64.lt_iff_toInt_lt, w64_t ha, w64_t hb]
/-- the bits' operations, by the machine's own -/
def zand (a b : Int) : Int := (Int32.ofInt a &&& Int32.ofInt b).toInt
def zor (a b : Int) : Int := (Int32.ofInt a ||| Int32.ofInt b).toInt
def zxor (a b : Int) : Int := (Int32.ofInt a ^^^ Int32.ofInt b).toInt
def zshl (a b : Int) : Int := (Int32.ofInt a <<< (Int32.ofInt b &&& 31)).toInt
def zshr (a b : Int) : Int := (Int32.ofInt a >>> (Int32.ofInt b &&& 31)).toInt
def zushr (a b : Int) : Int := (((Int32.ofInt a).toUInt32 >>> ((Int32.ofInt b).toUInt32 &&& Int32.toUInt32 31)).toInt32).toInt
def zland (a b : Int) : Int := (Int64.ofInt a &&& Int64.ofInt b).toInt
def zlor (a b : Int) : Int := (Int64.ofInt a ||| Int64.ofInt b).toInt
def zlshl (a b : Int) : Int := (Int64.ofInt a <<< ((Int32.ofInt b).toInt64 &&& 63)).toInt
def zcmp (a b : Int) : Int := if b < a then 1 else if a = b then 0 else -1
theorem zt32_r (x : Int32) : zI32 x.toInt := by
  have h1 := Int32.le_toInt x
  have h2 := Int32.toInt_lt x
  unfold zI32
  omega
theorem zt64_r (x : Int64) : zI64 x.toInt := by
  have h1 := Int64.le_toInt x
  have h2 := Int64.toInt_lt x
  unfold zI64
  omega
-- the world
abbrev zE : Type := va_G × (Nat → Nat) × (ClassId × ClassId × ClassId) × (Nat → Prop) × Value × (Nat × List Int)
abbrev zgD (E : zE) : va_G := E.1
abbrev zad (E : zE) : Nat → Nat := E.2.1
abbrev ztys (E : zE) : List (ClassId × FieldType) := [(E.2.2.1.1, .int), (E.2.2.1.2.1, .long), (E.2.2.1.2.2, .boolean)]
abbrev zA (E : zE) : Nat → Prop := E.2.2.2.1
abbrev zfm (E : zE) : Value := E.2.2.2.2.1
abbrev zsc (E : zE) : Nat × List Int := E.2.2.2.2.2
def zrf (E : zE) (k : Nat) : Value := if k = 1005 then zfm E else .ref (zad E k)
def zup (E : zE) : zV → Value
  | .inl a => .int (Int32.ofInt a)
  | .inr (.inl a) => .long (Int64.ofInt a)
  | .inr (.inr k) => zrf E k
def zrv : zV → Prop
  | .inl a => zI32 a
  | .inr (.inl a) => zI64 a
  | .inr (.inr _) => True
def zJk : zV := .inr (.inr 9999)
def zfv (E : zE) (h : zHp) (id k kd : Nat) : Value := if kd = 1 then .long (Int64.ofInt (h id k)) else if kd < 3 then .int (Int32.ofInt (h id k)) else .ref (zad E (kd - 3))
def zce (E : zE) (h : zHp) (id : Nat) : zDsc → va_E
  | .inl (ci, ks) => .inr (ci, ks.mapIdx (fun k kd => zfv E h id k kd))
  | .inr (kd, n) => if kd = 1 then .inl (E.2.2.1.2.1, n, .inr (.inl (fun i => Int64.ofInt (h id i)))) else .inl (if kd = 0 then E.2.2.1.1 else E.2.2.1.2.2, n, .inl (fun i => Int32.ofInt (h id i)))
def zwl (E : zE) (h : zHp) : va_W := zO.mapIdx (fun id d => (zad E id, zce E h id d))
def zst (h : zHp) (id k : Nat) (v : Int) : zHp := fun o j => if o = id ∧ j = k then v else h o j
def zlg (o i : Nat) : Bool := match zO[o]? with
  | some (.inl q) => q.2[i]? == some 1
  | some (.inr q) => q.1 == 1
  | none => false
def zbl (o i : Nat) : Bool := match zO[o]? with
  | some (.inl q) => q.2[i]? == some 2
  | some (.inr q) => q.1 == 2
  | none => false
def zRg (h : zHp) : Prop := ∀ o i, (if zlg o i = true then zI64 (h o i) else zI32 (h o i)) ∧ (zbl o i = true → h o i = 0 ∨ h o i = 1)
theorem zwl_at {E : zE} {h : zHp} {id : Nat} {d : zDsc} (hO : zO[id]? = some d) : (zwl E h)[id]? = some (zad E id, zce E h id d) := by
  unfold zwl
  rw [List.getElem?_mapIdx, hO]
  rfl
theorem zce_ne {E : zE} {h : zHp} {id k j : Nat} {v : Int} (d : zDsc) (hj : j ≠ id) : zce E (zst h id k v) j d = zce E h j d := by
  have e : ∀ i, zst h id k v j i = h j i := fun i => by unfold zst; rw [if_neg (fun q => hj q.1)]
  cases d with
  | inl q => simp only [zce, zfv, e]
  | inr q => simp only [zce, e]
theorem zwl_set {E : zE} {h : zHp} {id k : Nat} {v : Int} {d : zDsc} (hO : zO[id]? = some d) : (zwl E h).set id (zad E id, zce E (zst h id k v) id d) = zwl E (zst h id k v) := by
  apply List.ext_getElem?
  intro j
  rw [List.getElem?_set]
  by_cases hj : id = j
  · subst hj
    have : id < (zwl E h).length := by
      unfold zwl
      rw [List.length_mapIdx]
      exact (List.getElem?_eq_some_iff.mp hO).1
    rw [if_pos rfl, if_pos this]
    exact (zwl_at hO).symm
  · rw [if_neg hj]
    unfold zwl
    rw [List.getElem?_mapIdx, List.getElem?_mapIdx]
    cases hd : zO[j]? with
    | none => rfl
    | some d' => simp only [Option.map_some, zce_ne d' (Ne.symm hj)]
theorem zRg_st {h : zHp} {id k : Nat} {v : Int} (hr : zRg h) (hv : if zlg id k = true then zI64 v else zI32 v) (hb : zbl id k = true → v = 0 ∨ v = 1) : zRg (zst h id k v) := by
  intro o i
  unfold zst
  by_cases q : o = id ∧ i = k
  · obtain ⟨rfl, rfl⟩ := q
    simp only [and_self, if_true]
    exact ⟨hv, hb⟩
  · rw [if_neg q]
    exact hr o i
theorem zRg_i {h : zHp} {o i : Nat} (hr : zRg h) (hl : zlg o i = false) : zI32 (h o i) := by
  have := (hr o i).1
  rwa [hl, if_neg (by decide)] at this
theorem zRg_l {h : zHp} {o i : Nat} (hr : zRg h) (hl : zlg o i = true) : zI64 (h o i) := by
  have := (hr o i).1
  rwa [hl, if_pos rfl] at this
theorem zRg_b {h : zHp} {o i : Nat} (hr : zRg h) (hl : zbl o i = true) : h o i = 0 ∨ h o i = 1 := (hr o i).2 hl
-- methods
def zhd (M : zMeth) : zHdr := (zHd[M.1]?).getD (0, ⟨"", "", ""⟩, ⟨#[]⟩, 0, none, false, 0)
abbrev zny (M : zMeth) : MethodName := (zhd M).2.1
abbrev zby (M : zMeth) : ByteArray := (zhd M).2.2.1
abbrev zml (M : zMeth) : Nat := (zhd M).2.2.2.1
abbrev zrt (M : zMeth) : Option FieldType := (zhd M).2.2.2.2.1
abbrev zcn (n : Nat) : String := (zcns[n]?).getD ""
abbrev zcl (M : zMeth) : String := zcn (zhd M).1
def zpc (M : zMeth) (k : Nat) : Nat := ((M.2[k]?).map (·.1)).getD 0
def zop (M : zMeth) (k : Nat) : zI := ((M.2[k]?).map (·.2)).getD (999, 0, [])
def zdc (M : zMeth) (k n : Nat) (i : Instr) : Bool := decide (decode (zby M) (zpc M k) = .ok (i, n)) && decide (zpc M (k + 1) = zpc M k + n)
def zoff (M : zMeth) (k t : Nat) : Int := (zpc M t : Int) - (zpc M k : Int)
def zcnd : Nat → ClassFile.Cond
  | 0 => .eq | 1 => .ne | 2 => .lt | 3 => .ge | 4 => .gt | _ => .le
def zsim : Nat → Option Instr
  | 8 => some .iadd | 9 => some .isub | 10 => some .imul | 11 => some .idiv | 12 => some .irem | 13 => some .ineg
  | 14 => some .iand | 15 => some .ior | 16 => some .ixor | 17 => some .ishl | 18 => some .ishr | 19 => some .iushr
  | 20 => some .ladd | 21 => some .lsub | 22 => some .lmul | 23 => some .ldiv | 24 => some .lrem | 25 => some .lneg
  | 26 => some .land | 27 => some .lor | 28 => some .lshl | 29 => some .i2l | 30 => some .l2i | 32 => some .dup | 33 => some .dup2 | 34 => some .pop
  | 38 => some .lcmp | 42 => some .iaload | 43 => some .iastore | 44 => some .laload | 45 => some .lastore | 46 => some .baload | 47 => some .bastore | 48 => some .arraylength
  | _ => none
def zg (l : List Nat) (i : Nat) : Nat := (l[i]?).getD 0
def zhj (j : Nat) : zHdr := (zHd[j]?).getD (0, ⟨"", "", ""⟩, ⟨#[]⟩, 0, none, false, 0)
def zIok (j : Nat) : Bool := zCq.contains j && (zIq.contains j && (zEq.contains j && zNq.contains (zhj j).1))
def zSok (j : Nat) : Bool := zCq.contains j && (zSq.contains j && zNq.contains (zhj j).1)
def zck (o : zI) (M : zMeth) (k : Nat) : Bool :=
  match zsim o.1 with
  | some i => zdc M k 1 i
  | none => match o.1 with
    | 0 => decide (-2147483648 ≤ o.2.1 ∧ o.2.1 ≤ 2147483647) && (zdc M k 1 (.iconst o.2.1) || ((decide ((Int8.ofInt o.2.1).toInt32 = Int32.ofInt o.2.1) && zdc M k 2 (.bipush o.2.1)) || ((decide ((Int16.ofInt o.2.1).toInt32 = Int32.ofInt o.2.1) && zdc M k 3 (.sipush o.2.1)) ||
        (decide (Jvm.Cond.constant (zcl M) (zg o.2.2 0) (Int32.ofInt o.2.1) ∈ lw_tbl) && (zdc M k 2 (.ldc (zg o.2.2 0)) || zdc M k 3 (.ldc_w (zg o.2.2 0)))))))
    | 1 => zdc M k 2 (.iload (zg o.2.2 0)) || (decide (zg o.2.2 0 < 4) && zdc M k 1 (.iload_n (Fin.ofNat 4 (zg o.2.2 0))))
    | 2 => zdc M k 2 (.istore (zg o.2.2 0)) || (decide (zg o.2.2 0 < 4) && zdc M k 1 (.istore_n (Fin.ofNat 4 (zg o.2.2 0))))
    | 3 => zdc M k 2 (.aload (zg o.2.2 0)) || (decide (zg o.2.2 0 < 4) && zdc M k 1 (.aload_n (Fin.ofNat 4 (zg o.2.2 0))))
    | 4 => zdc M k 2 (.astore (zg o.2.2 0)) || (decide (zg o.2.2 0 < 4) && zdc M k 1 (.astore_n (Fin.ofNat 4 (zg o.2.2 0))))
    | 5 => zdc M k 2 (.lload (zg o.2.2 0)) || (decide (zg o.2.2 0 < 4) && zdc M k 1 (.lload_n (Fin.ofNat 4 (zg o.2.2 0))))
    | 6 => zdc M k 2 (.lstore (zg o.2.2 0)) || (decide (zg o.2.2 0 < 4) && zdc M k 1 (.lstore_n (Fin.ofNat 4 (zg o.2.2 0))))
    | 7 => zdc M k 3 (.iinc (zg o.2.2 0) o.2.1)
    | 31 => decide (-9223372036854775808 ≤ o.2.1 ∧ o.2.1 ≤ 9223372036854775807) && ((decide (o.2.1 = 0) && zdc M k 1 (.lconst 0)) || ((decide (o.2.1 = 1) && zdc M k 1 (.lconst 1)) || (decide (Jvm.Cond.constantLong (zcl M) (zg o.2.2 0) (Int64.ofInt o.2.1) ∈ lw_tbl) && zdc M k 3 (.ldc2_w (zg o.2.2 0)))))
    | 35 => zdc M k 3 (.if_icmp (zcnd (zg o.2.2 0)) (zoff M k (zg o.2.2 1)))
    | 36 => zdc M k 3 (.ifCond (zcnd (zg o.2.2 0)) (zoff M k (zg o.2.2 1)))
    | 37 => decide (decode (zby M) (zpc M k) = .ok (.goto (zoff M k (zg o.2.2 0)), 3))
    | 39 => decide (decode (zby M) (zpc M k) = .ok (.tableswitch (zoff M k (zg o.2.2 0)) o.2.1 (o.2.1 + (o.2.2.length : Int) - 2) ((o.2.2.drop 1).map (zoff M k)).toArray, zpc M (k + 1) - zpc M k))
    | 40 => zdc M k 3 (.getfield (zg o.2.2 0)) && (zFp.contains ((zhd M).1, zg o.2.2 0, zg o.2.2 1, zg o.2.2 2, false) || zFp.contains ((zhd M).1, zg o.2.2 0, zg o.2.2 1, zg o.2.2 2, true))
    | 41 => zdc M k 3 (.putfield (zg o.2.2 0)) && (zFp.contains ((zhd M).1, zg o.2.2 0, zg o.2.2 1, zg o.2.2 2, false) || zFp.contains ((zhd M).1, zg o.2.2 0, zg o.2.2 1, zg o.2.2 2, true))
    | 49 => zdc M k 3 (.invokevirtual (zg o.2.2 0)) && (zMp.contains ((zhd M).1, zg o.2.2 0, zg o.2.2 1, false) && zIok (zg o.2.2 1))
    | 50 => zdc M k 3 (.invokestatic (zg o.2.2 0)) && ((zMp.contains ((zhd M).1, zg o.2.2 0, zg o.2.2 1, false) || zMp.contains ((zhd M).1, zg o.2.2 0, zg o.2.2 1, true)) && zSok (zg o.2.2 1))
    | 51 => decide (decode (zby M) (zpc M k) = .ok (.ireturn, 1))
    | 52 => decide (decode (zby M) (zpc M k) = .ok (.lreturn, 1))
    | 53 => decide (decode (zby M) (zpc M k) = .ok (.return_, 1))
    | _ => true
def zchk (M : zMeth) : Bool := (List.range M.2.length).all (fun k => zck (zop M k) M k)
theorem zck_at {M : zMeth} {k : Nat} {o : zI} (hc : zchk M = true) (ho : zop M k = o) (h9 : o.1 ≠ 999) : zck o M k = true := by
  have hk : k < M.2.length := by
    rcases Nat.lt_or_ge k M.2.length with h | h
    · exact h
    · exact absurd (by rw [← ho]; unfold zop; rw [List.getElem?_eq_none h]; rfl) h9
  have := List.all_eq_true.mp hc k (List.mem_range.mpr hk)
  rwa [ho] at this
theorem zdc_at {M : zMeth} {k n : Nat} {i : Instr} (h : zdc M k n i = true) : decode (zby M) (zpc M k) = .ok (i, n) ∧ zpc M (k + 1) = zpc M k + n := by
  have h := (Bool.and_eq_true _ _).mp h
  exact ⟨of_decide_eq_true h.1, of_decide_eq_true h.2⟩
theorem zoff_at (M : zMeth) (k t : Nat) : (zpc M k : Int) + zoff M k t = (zpc M t : Int) := by
  unfold zoff
  omega
theorem zsim_at {M : zMeth} {k n : Nat} {i : Instr} (hc : zchk M = true) (ho : zop M k = (n, 0, [])) (h9 : n ≠ 999) (hi : zsim n = some i) : decode (zby M) (zpc M k) = .ok (i, 1) ∧ zpc M (k + 1) = zpc M k + 1 := by
  have h := zck_at hc ho h9
  unfold zck at h
  simp only [hi] at h
  exact zdc_at h
