/-! the strings at the start -/
def zba0 : List Int32 := [104, 111, 117, 114, 32, 112, 105, 116, 99, 104, 32, 102, 97, 114, 109, 32, 101, 97, 114, 32, 111, 119, 110, 32, 102, 97, 114, 32, 121, 111, 107, 101, 100, 32, 111, 120, 32, 115, 116, 114, 101, 110, 103, 116, 104, 32, 119, 101, 97, 107, 101, 114, 32, 115, 111, 105, 108, 32, 104, 101, 101, 100, 115, 32, 115, 101, 99, 111, 110, 100, 32, 115, 108, 105, 112, 32, 99, 97, 108, 108, 115, 32, 119, 111, 114, 107, 32, 111, 114, 32, 97, 110, 100, 32, 110, 111, 116, 32]
def zba1 : List Int32 := [60, 62, 61, 35, 43, 45, 42, 47, 40, 41, 59]
theorem zsb_eq : zsb = [zba0, zba1] := by decide +kernel
def ztm (i : Nat) : Term := if i = 0 then .string "OxenHome$Reader" 145 else .string "OxenHome$Reader" 161
def zpr : List Jvm.Cond := flatC (Jvm.Cond.and given_1 narrow_1)
theorem zpr_e0 : ∀ j, j < 98 → zpr[13 + j]? = some (Jvm.Cond.eq (.elem (.field (ztm 0) "java/lang/String" "value" "[B") (.int (Int32.ofNat j))) (.int (zba0.getD j 0))) := by decide +kernel
theorem zpr_e1 : ∀ j, j < 11 → zpr[115 + j]? = some (Jvm.Cond.eq (.elem (.field (ztm 1) "java/lang/String" "value" "[B") (.int (Int32.ofNat j))) (.int (zba1.getD j 0))) := by decide +kernel
theorem zpr_x0 : zpr[9]? = some (Jvm.Cond.exactly (ztm 0) "java/lang/String") := by decide +kernel
theorem zpr_x1 : zpr[111]? = some (Jvm.Cond.exactly (ztm 1) "java/lang/String") := by decide +kernel
theorem zpr_c0 : zpr[10]? = some (Jvm.Cond.eq (.field (ztm 0) "java/lang/String" "coder" "B") (.int 0)) := by decide +kernel
theorem zpr_c1 : zpr[112]? = some (Jvm.Cond.eq (.field (ztm 1) "java/lang/String" "coder" "B") (.int 0)) := by decide +kernel
theorem zpr_a0 : zpr[11]? = some (Jvm.Cond.arrayOf (.field (ztm 0) "java/lang/String" "value" "[B") .byte) := by decide +kernel
theorem zpr_a1 : zpr[113]? = some (Jvm.Cond.arrayOf (.field (ztm 1) "java/lang/String" "value" "[B") .byte) := by decide +kernel
theorem zpr_l0 : zpr[12]? = some (Jvm.Cond.eq (.length (.field (ztm 0) "java/lang/String" "value" "[B")) (.int (Int32.ofNat 98))) := by decide +kernel
theorem zpr_l1 : zpr[114]? = some (Jvm.Cond.eq (.length (.field (ztm 1) "java/lang/String" "value" "[B")) (.int (Int32.ofNat 11))) := by decide +kernel
theorem zpr_n : zpr[126]? = some (Jvm.Cond.not (Jvm.Cond.eq (ztm 0) (ztm 1))) := by decide +kernel
theorem zpr_s : zpr[4]? = some (Jvm.Cond.eq (Jvm.Term.static "java/lang/String" "COMPACT_STRINGS" "Z") (Jvm.Term.int 1)) := by decide +kernel
theorem zpr_f : zpr[5]? = some (Jvm.Cond.isRef (Jvm.Term.static "jdk/internal/util/Preconditions" "SIOOBE_FORMATTER" "Ljava/util/function/BiFunction;")) := by decide +kernel
theorem zst_S {args : Array Value} {s : State} {A : Nat → Prop} (hg : (Jvm.Cond.and given_1 narrow_1).before args s = true) (hA : ∀ a : Nat, a < s.heap.size → ¬ A a) : ∃ adK adV : Nat → Nat, vk_S 2 zsl zsb adK adV A s s.heap ∧ ∀ i : Nat, i < 2 → (ztm i).eval args s none [] s = some (.ref (adK i)) := by
  have hs := flat_of_before _ hg
  have at' : ∀ {k : Nat} {w : Jvm.Cond}, zpr[k]? = some w → w.before args s = true := fun h => hs _ (List.mem_of_getElem? h)
  rw [zsb_eq]
  refine vk_Sof (tm := ztm) (fun i hi => ?_) (fun i hi => ?_) (fun i hi => ?_) (fun i hi => ?_) (fun i hi => ?_) (fun i hi j hj => ?_) (fun i j hi hj hij => ?_) hA
  · rcases (show i = 0 ∨ i = 1 by omega) with rfl | rfl <;> decide
  · rcases (show i = 0 ∨ i = 1 by omega) with rfl | rfl
    · exact at' zpr_x0
    · exact at' zpr_x1
  · rcases (show i = 0 ∨ i = 1 by omega) with rfl | rfl
    · exact at' zpr_c0
    · exact at' zpr_c1
  · rcases (show i = 0 ∨ i = 1 by omega) with rfl | rfl
    · exact at' zpr_a0
    · exact at' zpr_a1
  · rcases (show i = 0 ∨ i = 1 by omega) with rfl | rfl
    · exact at' zpr_l0
    · exact at' zpr_l1
  · rcases (show i = 0 ∨ i = 1 by omega) with rfl | rfl
    · exact at' (zpr_e0 j hj)
    · exact at' (zpr_e1 j hj)
  · rcases (show (i = 0 ∧ j = 1) ∨ (i = 1 ∧ j = 0) by omega) with ⟨rfl, rfl⟩ | ⟨rfl, rfl⟩
    · exact Or.inl (at' zpr_n)
    · exact Or.inr (at' zpr_n)
theorem zst_C {args : Array Value} {s : State} {A : Nat → Prop} (hg : (Jvm.Cond.and given_1 narrow_1).before args s = true) (hts : ∀ w ∈ lw_tbl, w.before args s = true) (hA : ∀ a : Nat, a < s.heap.size → ¬ A a) : va_Z "java/lang/String" "COMPACT_STRINGS" "Z" (.int 1) A s s.heap :=
  va_Zof (hts _ (by decide +kernel : Jvm.Cond.laysStatic "java/lang/String" "COMPACT_STRINGS" "Z" ∈ lw_tbl)) (hts _ (by decide +kernel : Jvm.Cond.initialized "java/lang/String" ∈ lw_tbl)) (va_eqi (flat_of_before _ hg _ (List.mem_of_getElem? zpr_s))) hA
theorem zst_F {args : Array Value} {s : State} {A : Nat → Prop} (hg : (Jvm.Cond.and given_1 narrow_1).before args s = true) (hts : ∀ w ∈ lw_tbl, w.before args s = true) (hA : ∀ a : Nat, a < s.heap.size → ¬ A a) : ∃ v : Value, v.category = 1 ∧ va_Z "jdk/internal/util/Preconditions" "SIOOBE_FORMATTER" "Ljava/util/function/BiFunction;" v A s s.heap := by
  rcases va_Zqof (A := A) (hts _ (by decide +kernel : Jvm.Cond.laysStatic "jdk/internal/util/Preconditions" "SIOOBE_FORMATTER" "Ljava/util/function/BiFunction;" ∈ lw_tbl)) (hts _ (by decide +kernel : Jvm.Cond.initialized "jdk/internal/util/Preconditions" ∈ lw_tbl)) (flat_of_before _ hg _ (List.mem_of_getElem? zpr_f)) hA with h | ⟨t, h⟩
  · exact ⟨_, rfl, h⟩
  · exact ⟨_, rfl, h⟩
theorem zst_R {args : Array Value} {s : State} (hts : ∀ w ∈ lw_tbl, w.before args s = true) {a0 a1 : Nat} (h0 : (ztm 0).eval args s none [] s = some (.ref a0)) (h1 : (ztm 1).eval args s none [] s = some (.ref a1)) : vk_R "OxenHome$Reader" 145 "hour pitch farm ear own far yoked ox strength weaker soil heeds second slip calls work or and not " a0 s ∧ vk_R "OxenHome$Reader" 161 "<>=#+-*/();" a1 s :=
  ⟨vk_R.of (hts _ (by decide +kernel : Jvm.Cond.stringRef "OxenHome$Reader" 145 "hour pitch farm ear own far yoked ox strength weaker soil heeds second slip calls work or and not " ∈ lw_tbl)) h0, vk_R.of (hts _ (by decide +kernel : Jvm.Cond.stringRef "OxenHome$Reader" 161 "<>=#+-*/();" ∈ lw_tbl)) h1⟩
theorem zst_N {args : Array Value} {s : State} (hts : ∀ w ∈ lw_tbl, w.before args s = true) : ∀ w ∈ lw_tbl, zNw w = true → va_Nw w s := by
  intro w hw hn
  have h := hts w hw
  cases w with
  | fieldLinkNest a b c d e f => exact va_Nw.of rfl h
  | methodLinkNest a b c d => exact va_Nw.of rfl h
  | _ => cases hn
theorem zst_A1 {args : Array Value} {s : State} {ty : FieldType} (hty : ty = .int ∨ ty = .long ∨ ty = .boolean) (h : (Jvm.Cond.arrayClass ty).before args s = true) : ∃ cA : ClassId, ArrOfT s cA ty ∧ va_RA s cA ty := by
  obtain ⟨cA, kA, comp, h1, h2, h3⟩ := Cond.arrayClass_spec h
  rcases hty with rfl | rfl | rfl
  · exact ⟨cA, fun n z => ⟨fun k h => (by cases h), kA, h2, comp, h3⟩, h1⟩
  · exact ⟨cA, fun n z => ⟨fun k h => (by cases h), kA, h2, comp, h3⟩, h1⟩
  · exact ⟨cA, fun n z => ⟨fun k h => (by cases h), kA, h2, comp, h3⟩, h1⟩
theorem zst_I {ci : Nat} (h : ci < 13) : ∃ n, Jvm.Cond.instantiable (zcn ci) n ∈ lw_tbl := by
  match ci, h with
  | 0, _ => exact ⟨1, zw_ii (by decide +kernel)⟩
  | 1, _ => exact ⟨5, zw_ii (by decide +kernel)⟩
  | 2, _ => exact ⟨4, zw_ii (by decide +kernel)⟩
  | 3, _ => exact ⟨7, zw_ii (by decide +kernel)⟩
  | 4, _ => exact ⟨7, zw_ii (by decide +kernel)⟩
  | 5, _ => exact ⟨12, zw_ii (by decide +kernel)⟩
  | 6, _ => exact ⟨1, zw_ii (by decide +kernel)⟩
  | 7, _ => exact ⟨3, zw_ii (by decide +kernel)⟩
  | 8, _ => exact ⟨3, zw_ii (by decide +kernel)⟩
  | 9, _ => exact ⟨3, zw_ii (by decide +kernel)⟩
  | 10, _ => exact ⟨14, zw_ii (by decide +kernel)⟩
  | 11, _ => exact ⟨11, zw_ii (by decide +kernel)⟩
  | 12, _ => exact ⟨33, zw_ii (by decide +kernel)⟩
theorem zst_K {args : Array Value} {s : State} (hts : ∀ w ∈ lw_tbl, w.before args s = true) : ∃ (D : va_G) (cI cJ cZ : ClassId), va_K D vwCl [(cI, .int), (cJ, .long), (cZ, .boolean)] s := by
  obtain ⟨cI, hI⟩ := zst_A1 (Or.inl rfl) (hts _ (by decide +kernel : Jvm.Cond.arrayClass .int ∈ lw_tbl))
  obtain ⟨cJ, hJ⟩ := zst_A1 (Or.inr (Or.inl rfl)) (hts _ (by decide +kernel : Jvm.Cond.arrayClass .long ∈ lw_tbl))
  obtain ⟨cZ, hZ⟩ := zst_A1 (Or.inr (Or.inr rfl)) (hts _ (by decide +kernel : Jvm.Cond.arrayClass .boolean ∈ lw_tbl))
  have h0 : ∀ ci : Nat, ∃ x : ClassId × (Nat → Nat), ∀ r : vw_C, vwCl[ci]? = some r → u_Kn s r.1 r.2.1 r.2.2 x.1 x.2 := by
    intro ci
    cases hr : vwCl[ci]? with
    | none => exact ⟨(0, fun _ => 0), fun r h => by cases h⟩
    | some r =>
      have hw : ∀ w ∈ u_ws r.1 r.2.1 r.2.2, w ∈ lw_tbl := fun w hw => (lw_tblg_in w ((zcls_ok hr).2.2 w hw)).1
      have hi : ∃ n, Jvm.Cond.instantiable r.1 n ∈ lw_tbl := by
        have hci : ci < 13 := (List.getElem?_eq_some_iff.mp hr).1
        rw [zgnm_ok hr]
        exact zst_I hci
      obtain ⟨n, hi⟩ := hi
      obtain ⟨c, iS, h⟩ := u_known hts hw (hts _ hi)
      exact ⟨(c, iS), fun q hq => by cases hq; exact h⟩
  obtain ⟨f, hf⟩ := Classical.axiomOfChoice h0
  refine ⟨(fun c => (f c).1, fun c => (f c).2), cI, cJ, cZ, fun c q hq => hf c q hq, fun k q hk => ?_⟩
  match k, hk with
  | 0, hk => cases hk; exact hI
  | 1, hk => cases hk; exact hJ
  | 2, hk => cases hk; exact hZ
  | k + 3, hk => cases hk
