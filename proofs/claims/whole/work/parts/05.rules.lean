/-! the rules of zW, one an instruction; by program (wip/whole/rules.py) -/
section ZR
variable {l : Launch} {E : zE} {d : Nat} {M : zMeth} {k : Nat} {L S : List zV} {h : zHp} {Q : Int → zHp → Prop}
theorem z_sim {n : Nat} {i : Instr} {S' : List zV} (ho : zop M k = (n, 0, [])) (h9 : n ≠ 999) (hi : zsim n = some i)
    (st : ∀ (p : Program) (e : Env) (R : Room) (s : State) (m : MethodId) (args : Array Value) (below : List Frame) (meth : Method) (c : Code) (H : Heap) (locs : List Loc) (ls : Array Slot) (cells slots : Nat) (QQ : State → Prop),
      p.tables.exec = Jvm.exec → c.code = zby M → decode (zby M) (zpc M k) = .ok (i, 1) → (∀ v ∈ S, zrv v) → W p l e R s m args below meth c H locs cells slots QQ (F0 m (zpc M k + 1) ls (S'.map (zup E))) → W p l e R s m args below meth c H locs cells slots QQ (F0 m (zpc M k) ls (S.map (zup E))))
    (hr : (∀ v ∈ S, zrv v) → ∀ v ∈ S', zrv v) (kk : zW l E d M (k + 1) L S' h Q) : zW l E d M k L S h Q := by
  intro p e R s m args below meth c H locs ls cells slots QQ hX hE hS hL hv
  obtain ⟨hdg, hn⟩ := zsim_at hX.2.2.2.2.2.2.2.1 ho h9 hi
  have h1 := kk p e R s m args below meth c H locs ls cells slots QQ hX hE hS hL (hr hv)
  rw [hn] at h1
  exact st p e R s m args below meth c H locs ls cells slots QQ hX.1 hX.2.1 hdg hv h1
theorem zmin32 : Int32.minValue.toInt = -2147483648 := by decide
theorem zmax32 : Int32.maxValue.toInt = 2147483647 := by decide
theorem zmin64 : Int64.minValue.toInt = -9223372036854775808 := by decide
theorem zmax64 : Int64.maxValue.toInt = 9223372036854775807 := by decide
theorem zrv_c {v : zV} {S : List zV} (h : ∀ w ∈ (v :: S), zrv w) : zrv v ∧ ∀ w ∈ S, zrv w := ⟨h v List.mem_cons_self, fun w hw => h w (List.mem_cons_of_mem _ hw)⟩
theorem zrv_k {v : zV} {S : List zV} (h1 : zrv v) (h2 : ∀ w ∈ S, zrv w) : ∀ w ∈ (v :: S), zrv w := fun w hw => (List.mem_cons.mp hw).elim (fun e => by rw [e]; exact h1) (h2 w)
theorem zne0 {b : Int} (hb : zI32 b) (h : b ≠ 0) : ¬ Int32.ofInt b = 0 := fun q => h ((o32_eq hb (show zI32 0 by unfold zI32; omega)).mp q)
theorem zne0l {b : Int} (hb : zI64 b) (h : b ≠ 0) : ¬ Int64.ofInt b = 0 := fun q => h ((o64_eq hb (show zI64 0 by unfold zI64; omega)).mp q)
theorem z_iadd {a b : Int} (ho : zop M k = (8, 0, [])) (kk : zW l E d M (k + 1) L (.inl (w32 (a + b)) :: S) h Q) : zW l E d M k L (.inl b :: .inl a :: S) h Q := by
  refine z_sim ho (by decide) rfl (fun p e R s m args below meth c H locs ls cells slots QQ hx hb hdg hv h1 => ?_) (fun hv => zrv_k (v := .inl (w32 (a + b))) (w32_r _) (zrv_c (zrv_c hv).2).2) kk
  have hb0 := (zrv_c hv).1
  have ha0 := (zrv_c (zrv_c hv).2).1
  refine lv_iadd hx hb hdg ?_
  have e1 : Int32.ofInt a + Int32.ofInt b = Int32.ofInt (w32 (a + b)) := by rw [w32_o, Int32.ofInt_add]
  rw [e1]
  exact h1
theorem z_isub {a b : Int} (ho : zop M k = (9, 0, [])) (kk : zW l E d M (k + 1) L (.inl (w32 (a - b)) :: S) h Q) : zW l E d M k L (.inl b :: .inl a :: S) h Q := by
  refine z_sim ho (by decide) rfl (fun p e R s m args below meth c H locs ls cells slots QQ hx hb hdg hv h1 => ?_) (fun hv => zrv_k (v := .inl (w32 (a - b))) (w32_r _) (zrv_c (zrv_c hv).2).2) kk
  have hb0 := (zrv_c hv).1
  have ha0 := (zrv_c (zrv_c hv).2).1
  refine lv_isub hx hb hdg ?_
  have e1 : Int32.ofInt a - Int32.ofInt b = Int32.ofInt (w32 (a - b)) := by rw [w32_o, Int32.ofInt_sub]
  rw [e1]
  exact h1
theorem z_imul {a b : Int} (ho : zop M k = (10, 0, [])) (kk : zW l E d M (k + 1) L (.inl (w32 (a * b)) :: S) h Q) : zW l E d M k L (.inl b :: .inl a :: S) h Q := by
  refine z_sim ho (by decide) rfl (fun p e R s m args below meth c H locs ls cells slots QQ hx hb hdg hv h1 => ?_) (fun hv => zrv_k (v := .inl (w32 (a * b))) (w32_r _) (zrv_c (zrv_c hv).2).2) kk
  have hb0 := (zrv_c hv).1
  have ha0 := (zrv_c (zrv_c hv).2).1
  refine lv_imul hx hb hdg ?_
  have e1 : Int32.ofInt a * Int32.ofInt b = Int32.ofInt (w32 (a * b)) := by rw [w32_o, Int32.ofInt_mul]
  rw [e1]
  exact h1
theorem z_idiv {a b : Int} (ho : zop M k = (11, 0, [])) (hne : b ≠ 0) (kk : zW l E d M (k + 1) L (.inl (w32 (a.tdiv b)) :: S) h Q) : zW l E d M k L (.inl b :: .inl a :: S) h Q := by
  refine z_sim ho (by decide) rfl (fun p e R s m args below meth c H locs ls cells slots QQ hx hb hdg hv h1 => ?_) (fun hv => zrv_k (v := .inl (w32 (a.tdiv b))) (w32_r _) (zrv_c (zrv_c hv).2).2) kk
  have hb0 := (zrv_c hv).1
  have ha0 := (zrv_c (zrv_c hv).2).1
  refine lv_idiv hx hb hdg (zne0 hb0 hne) ?_
  have e1 : Int32.ofInt a / Int32.ofInt b = Int32.ofInt (w32 (a.tdiv b)) := by rw [w32_o, Int32.ofInt_tdiv (by rw [zmin32]; exact ha0.1) (by rw [zmax32]; exact ha0.2) (by rw [zmin32]; exact hb0.1) (by rw [zmax32]; exact hb0.2)]
  rw [e1]
  exact h1
theorem z_irem {a b : Int} (ho : zop M k = (12, 0, [])) (hne : b ≠ 0) (kk : zW l E d M (k + 1) L (.inl (w32 (a.tmod b)) :: S) h Q) : zW l E d M k L (.inl b :: .inl a :: S) h Q := by
  refine z_sim ho (by decide) rfl (fun p e R s m args below meth c H locs ls cells slots QQ hx hb hdg hv h1 => ?_) (fun hv => zrv_k (v := .inl (w32 (a.tmod b))) (w32_r _) (zrv_c (zrv_c hv).2).2) kk
  have hb0 := (zrv_c hv).1
  have ha0 := (zrv_c (zrv_c hv).2).1
  refine lv_irem hx hb hdg (zne0 hb0 hne) ?_
  have e1 : Int32.ofInt a - Int32.ofInt a / Int32.ofInt b * Int32.ofInt b = Int32.ofInt (w32 (a.tmod b)) := by rw [w32_o, ← Int32.ofInt_tdiv (by rw [zmin32]; exact ha0.1) (by rw [zmax32]; exact ha0.2) (by rw [zmin32]; exact hb0.1) (by rw [zmax32]; exact hb0.2), ← Int32.ofInt_mul, ← Int32.ofInt_sub]; congr 1; have := Int.tmod_add_tdiv_mul a b; omega
  rw [e1]
  exact h1
theorem z_iand {a b : Int} (ho : zop M k = (14, 0, [])) (kk : zW l E d M (k + 1) L (.inl (zand a b) :: S) h Q) : zW l E d M k L (.inl b :: .inl a :: S) h Q := by
  refine z_sim ho (by decide) rfl (fun p e R s m args below meth c H locs ls cells slots QQ hx hb hdg hv h1 => ?_) (fun hv => zrv_k (v := .inl (zand a b)) (zt32_r _) (zrv_c (zrv_c hv).2).2) kk
  have hb0 := (zrv_c hv).1
  have ha0 := (zrv_c (zrv_c hv).2).1
  refine lv_iand hx hb hdg ?_
  have e1 : Int32.ofInt a &&& Int32.ofInt b = Int32.ofInt (zand a b) := (Int32.ofInt_toInt _).symm
  rw [e1]
  exact h1
theorem z_ior {a b : Int} (ho : zop M k = (15, 0, [])) (kk : zW l E d M (k + 1) L (.inl (zor a b) :: S) h Q) : zW l E d M k L (.inl b :: .inl a :: S) h Q := by
  refine z_sim ho (by decide) rfl (fun p e R s m args below meth c H locs ls cells slots QQ hx hb hdg hv h1 => ?_) (fun hv => zrv_k (v := .inl (zor a b)) (zt32_r _) (zrv_c (zrv_c hv).2).2) kk
  have hb0 := (zrv_c hv).1
  have ha0 := (zrv_c (zrv_c hv).2).1
  refine lv_ior hx hb hdg ?_
  have e1 : Int32.ofInt a ||| Int32.ofInt b = Int32.ofInt (zor a b) := (Int32.ofInt_toInt _).symm
  rw [e1]
  exact h1
theorem z_ixor {a b : Int} (ho : zop M k = (16, 0, [])) (kk : zW l E d M (k + 1) L (.inl (zxor a b) :: S) h Q) : zW l E d M k L (.inl b :: .inl a :: S) h Q := by
  refine z_sim ho (by decide) rfl (fun p e R s m args below meth c H locs ls cells slots QQ hx hb hdg hv h1 => ?_) (fun hv => zrv_k (v := .inl (zxor a b)) (zt32_r _) (zrv_c (zrv_c hv).2).2) kk
  have hb0 := (zrv_c hv).1
  have ha0 := (zrv_c (zrv_c hv).2).1
  refine lv_ixor hx hb hdg ?_
  have e1 : Int32.ofInt a ^^^ Int32.ofInt b = Int32.ofInt (zxor a b) := (Int32.ofInt_toInt _).symm
  rw [e1]
  exact h1
theorem z_ishl {a b : Int} (ho : zop M k = (17, 0, [])) (kk : zW l E d M (k + 1) L (.inl (zshl a b) :: S) h Q) : zW l E d M k L (.inl b :: .inl a :: S) h Q := by
  refine z_sim ho (by decide) rfl (fun p e R s m args below meth c H locs ls cells slots QQ hx hb hdg hv h1 => ?_) (fun hv => zrv_k (v := .inl (zshl a b)) (zt32_r _) (zrv_c (zrv_c hv).2).2) kk
  have hb0 := (zrv_c hv).1
  have ha0 := (zrv_c (zrv_c hv).2).1
  refine lv_ishl hx hb hdg ?_
  have e1 : Int32.ofInt a <<< (Int32.ofInt b &&& 31) = Int32.ofInt (zshl a b) := (Int32.ofInt_toInt _).symm
  rw [e1]
  exact h1
theorem z_ishr {a b : Int} (ho : zop M k = (18, 0, [])) (kk : zW l E d M (k + 1) L (.inl (zshr a b) :: S) h Q) : zW l E d M k L (.inl b :: .inl a :: S) h Q := by
  refine z_sim ho (by decide) rfl (fun p e R s m args below meth c H locs ls cells slots QQ hx hb hdg hv h1 => ?_) (fun hv => zrv_k (v := .inl (zshr a b)) (zt32_r _) (zrv_c (zrv_c hv).2).2) kk
  have hb0 := (zrv_c hv).1
  have ha0 := (zrv_c (zrv_c hv).2).1
  refine lv_ishr hx hb hdg ?_
  have e1 : Int32.ofInt a >>> (Int32.ofInt b &&& 31) = Int32.ofInt (zshr a b) := (Int32.ofInt_toInt _).symm
  rw [e1]
  exact h1
theorem z_iushr {a b : Int} (ho : zop M k = (19, 0, [])) (kk : zW l E d M (k + 1) L (.inl (zushr a b) :: S) h Q) : zW l E d M k L (.inl b :: .inl a :: S) h Q := by
  refine z_sim ho (by decide) rfl (fun p e R s m args below meth c H locs ls cells slots QQ hx hb hdg hv h1 => ?_) (fun hv => zrv_k (v := .inl (zushr a b)) (zt32_r _) (zrv_c (zrv_c hv).2).2) kk
  have hb0 := (zrv_c hv).1
  have ha0 := (zrv_c (zrv_c hv).2).1
  refine lv_iushr hx hb hdg rfl ?_
  have e1 : ((Int32.ofInt a).toUInt32 >>> ((Int32.ofInt b).toUInt32 &&& Int32.toUInt32 31)).toInt32 = Int32.ofInt (zushr a b) := (Int32.ofInt_toInt _).symm
  rw [e1]
  exact h1
theorem z_ladd {a b : Int} (ho : zop M k = (20, 0, [])) (kk : zW l E d M (k + 1) L (.inr (.inl (w64 (a + b))) :: S) h Q) : zW l E d M k L (.inr (.inl b) :: .inr (.inl a) :: S) h Q := by
  refine z_sim ho (by decide) rfl (fun p e R s m args below meth c H locs ls cells slots QQ hx hb hdg hv h1 => ?_) (fun hv => zrv_k (v := .inr (.inl (w64 (a + b)))) (w64_r _) (zrv_c (zrv_c hv).2).2) kk
  have hb0 := (zrv_c hv).1
  have ha0 := (zrv_c (zrv_c hv).2).1
  refine lv_ladd hx hb hdg ?_
  have e1 : Int64.ofInt a + Int64.ofInt b = Int64.ofInt (w64 (a + b)) := by rw [w64_o, Int64.ofInt_add]
  rw [e1]
  exact h1
theorem z_lsub {a b : Int} (ho : zop M k = (21, 0, [])) (kk : zW l E d M (k + 1) L (.inr (.inl (w64 (a - b))) :: S) h Q) : zW l E d M k L (.inr (.inl b) :: .inr (.inl a) :: S) h Q := by
  refine z_sim ho (by decide) rfl (fun p e R s m args below meth c H locs ls cells slots QQ hx hb hdg hv h1 => ?_) (fun hv => zrv_k (v := .inr (.inl (w64 (a - b)))) (w64_r _) (zrv_c (zrv_c hv).2).2) kk
  have hb0 := (zrv_c hv).1
  have ha0 := (zrv_c (zrv_c hv).2).1
  refine lv_lsub hx hb hdg ?_
  have e1 : Int64.ofInt a - Int64.ofInt b = Int64.ofInt (w64 (a - b)) := by rw [w64_o, Int64.ofInt_sub]
  rw [e1]
  exact h1
theorem z_lmul {a b : Int} (ho : zop M k = (22, 0, [])) (kk : zW l E d M (k + 1) L (.inr (.inl (w64 (a * b))) :: S) h Q) : zW l E d M k L (.inr (.inl b) :: .inr (.inl a) :: S) h Q := by
  refine z_sim ho (by decide) rfl (fun p e R s m args below meth c H locs ls cells slots QQ hx hb hdg hv h1 => ?_) (fun hv => zrv_k (v := .inr (.inl (w64 (a * b)))) (w64_r _) (zrv_c (zrv_c hv).2).2) kk
  have hb0 := (zrv_c hv).1
  have ha0 := (zrv_c (zrv_c hv).2).1
  refine lv_lmul hx hb hdg ?_
  have e1 : Int64.ofInt a * Int64.ofInt b = Int64.ofInt (w64 (a * b)) := by rw [w64_o, Int64.ofInt_mul]
  rw [e1]
  exact h1
theorem z_ldiv {a b : Int} (ho : zop M k = (23, 0, [])) (hne : b ≠ 0) (kk : zW l E d M (k + 1) L (.inr (.inl (w64 (a.tdiv b))) :: S) h Q) : zW l E d M k L (.inr (.inl b) :: .inr (.inl a) :: S) h Q := by
  refine z_sim ho (by decide) rfl (fun p e R s m args below meth c H locs ls cells slots QQ hx hb hdg hv h1 => ?_) (fun hv => zrv_k (v := .inr (.inl (w64 (a.tdiv b)))) (w64_r _) (zrv_c (zrv_c hv).2).2) kk
  have hb0 := (zrv_c hv).1
  have ha0 := (zrv_c (zrv_c hv).2).1
  refine lv_ldiv hx hb hdg (zne0l hb0 hne) ?_
  have e1 : Int64.ofInt a / Int64.ofInt b = Int64.ofInt (w64 (a.tdiv b)) := by rw [w64_o, Int64.ofInt_tdiv (by rw [zmin64]; exact ha0.1) (by rw [zmax64]; exact ha0.2) (by rw [zmin64]; exact hb0.1) (by rw [zmax64]; exact hb0.2)]
  rw [e1]
  exact h1
theorem z_lrem {a b : Int} (ho : zop M k = (24, 0, [])) (hne : b ≠ 0) (kk : zW l E d M (k + 1) L (.inr (.inl (w64 (a.tmod b))) :: S) h Q) : zW l E d M k L (.inr (.inl b) :: .inr (.inl a) :: S) h Q := by
  refine z_sim ho (by decide) rfl (fun p e R s m args below meth c H locs ls cells slots QQ hx hb hdg hv h1 => ?_) (fun hv => zrv_k (v := .inr (.inl (w64 (a.tmod b)))) (w64_r _) (zrv_c (zrv_c hv).2).2) kk
  have hb0 := (zrv_c hv).1
  have ha0 := (zrv_c (zrv_c hv).2).1
  refine lv_lrem hx hb hdg (zne0l hb0 hne) ?_
  have e1 : Int64.ofInt a - Int64.ofInt a / Int64.ofInt b * Int64.ofInt b = Int64.ofInt (w64 (a.tmod b)) := by rw [w64_o, ← Int64.ofInt_tdiv (by rw [zmin64]; exact ha0.1) (by rw [zmax64]; exact ha0.2) (by rw [zmin64]; exact hb0.1) (by rw [zmax64]; exact hb0.2), ← Int64.ofInt_mul, ← Int64.ofInt_sub]; congr 1; have := Int.tmod_add_tdiv_mul a b; omega
  rw [e1]
  exact h1
theorem z_land {a b : Int} (ho : zop M k = (26, 0, [])) (kk : zW l E d M (k + 1) L (.inr (.inl (zland a b)) :: S) h Q) : zW l E d M k L (.inr (.inl b) :: .inr (.inl a) :: S) h Q := by
  refine z_sim ho (by decide) rfl (fun p e R s m args below meth c H locs ls cells slots QQ hx hb hdg hv h1 => ?_) (fun hv => zrv_k (v := .inr (.inl (zland a b))) (zt64_r _) (zrv_c (zrv_c hv).2).2) kk
  have hb0 := (zrv_c hv).1
  have ha0 := (zrv_c (zrv_c hv).2).1
  refine lv_land hx hb hdg ?_
  have e1 : Int64.ofInt a &&& Int64.ofInt b = Int64.ofInt (zland a b) := (Int64.ofInt_toInt _).symm
  rw [e1]
  exact h1
theorem z_lor {a b : Int} (ho : zop M k = (27, 0, [])) (kk : zW l E d M (k + 1) L (.inr (.inl (zlor a b)) :: S) h Q) : zW l E d M k L (.inr (.inl b) :: .inr (.inl a) :: S) h Q := by
  refine z_sim ho (by decide) rfl (fun p e R s m args below meth c H locs ls cells slots QQ hx hb hdg hv h1 => ?_) (fun hv => zrv_k (v := .inr (.inl (zlor a b))) (zt64_r _) (zrv_c (zrv_c hv).2).2) kk
  have hb0 := (zrv_c hv).1
  have ha0 := (zrv_c (zrv_c hv).2).1
  refine lv_lor hx hb hdg ?_
  have e1 : Int64.ofInt a ||| Int64.ofInt b = Int64.ofInt (zlor a b) := (Int64.ofInt_toInt _).symm
  rw [e1]
  exact h1
theorem z_lshl {a b : Int} (ho : zop M k = (28, 0, [])) (kk : zW l E d M (k + 1) L (.inr (.inl (zlshl a b)) :: S) h Q) : zW l E d M k L (.inl b :: .inr (.inl a) :: S) h Q := by
  refine z_sim ho (by decide) rfl (fun p e R s m args below meth c H locs ls cells slots QQ hx hb hdg hv h1 => ?_) (fun hv => zrv_k (v := .inr (.inl (zlshl a b))) (zt64_r _) (zrv_c (zrv_c hv).2).2) kk
  refine lv_lshl hx hb hdg rfl ?_
  have e1 : Int64.ofInt a <<< ((Int32.ofInt b).toInt64 &&& 63) = Int64.ofInt (zlshl a b) := (Int64.ofInt_toInt _).symm
  rw [e1]
  exact h1
theorem z_ineg {a : Int} (ho : zop M k = (13, 0, [])) (kk : zW l E d M (k + 1) L (.inl (w32 (-a)) :: S) h Q) : zW l E d M k L (.inl a :: S) h Q := by
  refine z_sim ho (by decide) rfl (fun p e R s m args below meth c H locs ls cells slots QQ hx hb hdg hv h1 => ?_) (fun hv => zrv_k (v := .inl (w32 (-a))) (w32_r _) (zrv_c hv).2) kk
  refine lv_ineg hx hb hdg ?_
  have e1 : -Int32.ofInt a = Int32.ofInt (w32 (-a)) := by rw [w32_o, Int32.ofInt_neg]
  rw [e1]
  exact h1
theorem z_lneg {a : Int} (ho : zop M k = (25, 0, [])) (kk : zW l E d M (k + 1) L (.inr (.inl (w64 (-a))) :: S) h Q) : zW l E d M k L (.inr (.inl a) :: S) h Q := by
  refine z_sim ho (by decide) rfl (fun p e R s m args below meth c H locs ls cells slots QQ hx hb hdg hv h1 => ?_) (fun hv => zrv_k (v := .inr (.inl (w64 (-a)))) (w64_r _) (zrv_c hv).2) kk
  refine lv_lneg hx hb hdg ?_
  have e1 : -Int64.ofInt a = Int64.ofInt (w64 (-a)) := by rw [w64_o, Int64.ofInt_neg]
  rw [e1]
  exact h1
theorem z_i2l {a : Int} (ho : zop M k = (29, 0, [])) (kk : zW l E d M (k + 1) L (.inr (.inl a) :: S) h Q) : zW l E d M k L (.inl a :: S) h Q := by
  refine z_sim ho (by decide) rfl (fun p e R s m args below meth c H locs ls cells slots QQ hx hb hdg hv h1 => ?_) (fun hv => zrv_k (v := .inr (.inl a)) (by have := (zrv_c hv).1; exact ⟨by have := this.1; omega, by have := this.2; omega⟩) (zrv_c hv).2) kk
  have ha : zI32 a := (zrv_c hv).1
  refine lv_i2l hx hb hdg (v := Int64.ofInt a) (Int64.toInt_inj.mp ?_) h1
  rw [Int32.toInt_toInt64, w32_t ha, w64_t ⟨by have := ha.1; omega, by have := ha.2; omega⟩]
theorem z_l2i {a : Int} (ho : zop M k = (30, 0, [])) (kk : zW l E d M (k + 1) L (.inl (w32 a) :: S) h Q) : zW l E d M k L (.inr (.inl a) :: S) h Q := by
  refine z_sim ho (by decide) rfl (fun p e R s m args below meth c H locs ls cells slots QQ hx hb hdg hv h1 => ?_) (fun hv => zrv_k (v := .inl (w32 a)) (w32_r _) (zrv_c hv).2) kk
  refine lv_l2i hx hb hdg (v := Int32.ofInt (w32 a)) (by rw [w32_o]; exact Int64.toInt32_ofInt) h1
theorem z_lcmp {a b : Int} (ho : zop M k = (38, 0, [])) (kk : zW l E d M (k + 1) L (.inl (zcmp a b) :: S) h Q) : zW l E d M k L (.inr (.inl b) :: .inr (.inl a) :: S) h Q := by
  refine z_sim ho (by decide) rfl (fun p e R s m args below meth c H locs ls cells slots QQ hx hb hdg hv h1 => ?_) (fun hv => zrv_k (v := .inl (zcmp a b)) (by show zI32 (zcmp a b); unfold zcmp zI32; split <;> (try split) <;> omega) (zrv_c (zrv_c hv).2).2) kk
  have hb0 : zI64 b := (zrv_c hv).1
  have ha0 : zI64 a := (zrv_c (zrv_c hv).2).1
  refine W.lcmp hx hb hdg ?_
  have e1 : lg_cmp (Int64.ofInt a) (Int64.ofInt b) = Int32.ofInt (zcmp a b) := by
    unfold lg_cmp zcmp
    by_cases q : b < a
    · rw [if_pos q, if_pos (show Int64.ofInt b < Int64.ofInt a from (o64_lt hb0 ha0).mpr q)]; rfl
    · rw [if_neg q, if_neg (fun z => q ((o64_lt hb0 ha0).mp z))]
      by_cases q2 : a = b
      · rw [if_pos q2, if_pos (by rw [q2])]; rfl
      · rw [if_neg q2, if_neg (fun z => q2 ((o64_eq ha0 hb0).mp z))]; rfl
  rw [e1]
  exact h1
theorem zup_c1 {E : zE} {a : Int} : (zup E (.inl a)).category = 1 := rfl
theorem zup_c2 {E : zE} {i : Nat} (hi : i ≠ 1005) : (zup E (.inr (.inr i))).category = 1 := by
  show (zrf E i).category = 1
  unfold zrf
  rw [if_neg hi]
  rfl
def zc1 : zV → Bool
  | .inl _ => true
  | .inr (.inl _) => false
  | .inr (.inr i) => decide (i ≠ 1005)
theorem zup_c {E : zE} {v : zV} (h : zc1 v = true) : (zup E v).category = 1 := by
  match v, h with
  | .inl a, _ => rfl
  | .inr (.inr i), h => exact zup_c2 (of_decide_eq_true h)
theorem z_dup {v : zV} (ho : zop M k = (32, 0, [])) (hc : zc1 v = true) (kk : zW l E d M (k + 1) L (v :: v :: S) h Q) : zW l E d M k L (v :: S) h Q := by
  refine z_sim ho (by decide) rfl (fun p e R s m args below meth c H locs ls cells slots QQ hx hb hdg hv h1 => ?_) (fun hv => zrv_k (zrv_c hv).1 hv) kk
  exact lv_dup hx hb hdg (zup_c hc) h1
theorem z_dup2 {v w : zV} (ho : zop M k = (33, 0, [])) (hc : zc1 v = true) (hd : zc1 w = true) (kk : zW l E d M (k + 1) L (v :: w :: v :: w :: S) h Q) : zW l E d M k L (v :: w :: S) h Q := by
  refine z_sim ho (by decide) rfl (fun p e R s m args below meth c H locs ls cells slots QQ hx hb hdg hv h1 => ?_) (fun hv => zrv_k (zrv_c hv).1 (zrv_k (zrv_c (zrv_c hv).2).1 hv)) kk
  exact lv_dup2_11 hx hb hdg (zup_c hc) (zup_c hd) h1
theorem z_pop {v : zV} (ho : zop M k = (34, 0, [])) (hc : zc1 v = true) (kk : zW l E d M (k + 1) L S h Q) : zW l E d M k L (v :: S) h Q := by
  refine z_sim ho (by decide) rfl (fun p e R s m args below meth c H locs ls cells slots QQ hx hb hdg hv h1 => ?_) (fun hv => (zrv_c hv).2) kk
  exact lv_pop hx hb hdg (zup_c hc) h1
theorem z_const {a : Int} {ix : List Nat} (ho : zop M k = (0, a, ix)) (kk : zW l E d M (k + 1) L (.inl a :: S) h Q) : zW l E d M k L S h Q := by
  intro p e R s m args below meth c H locs ls cells slots QQ hX hE hS hL hv
  have hck : ((decide (-2147483648 ≤ a ∧ a ≤ 2147483647)) && (zdc M k 1 (.iconst a) || ((decide ((Int8.ofInt a).toInt32 = Int32.ofInt a) && zdc M k 2 (.bipush a)) || ((decide ((Int16.ofInt a).toInt32 = Int32.ofInt a) && zdc M k 3 (.sipush a)) || (decide (Jvm.Cond.constant (zcl M) (zg ix 0) (Int32.ofInt a) ∈ lw_tbl) && (zdc M k 2 (.ldc (zg ix 0)) || zdc M k 3 (.ldc_w (zg ix 0)))))))) = true := zck_at hX.2.2.2.2.2.2.2.1 ho (by decide : (0 : Nat) ≠ 999)
  obtain ⟨hr, hck⟩ := (Bool.and_eq_true _ _).mp hck
  have hr : zI32 a := zI32_d hr
  have h1 := kk p e R s m args below meth c H locs ls cells slots QQ hX hE hS hL (zrv_k hr hv)
  rcases (Bool.or_eq_true _ _).mp hck with q | q
  · obtain ⟨hdg, hn⟩ := zdc_at q
    rw [hn] at h1
    exact lv_iconst hX.1 hX.2.1 hdg rfl h1
  · rcases (Bool.or_eq_true _ _).mp q with q | q
    · obtain ⟨q1, q⟩ := (Bool.and_eq_true _ _).mp q
      obtain ⟨hdg, hn⟩ := zdc_at q
      rw [hn] at h1
      exact lv_bipush hX.1 hX.2.1 hdg (of_decide_eq_true q1) h1
    · rcases (Bool.or_eq_true _ _).mp q with q | q
      · obtain ⟨q1, q⟩ := (Bool.and_eq_true _ _).mp q
        obtain ⟨hdg, hn⟩ := zdc_at q
        rw [hn] at h1
        exact lv_sipush hX.1 hX.2.1 hdg (of_decide_eq_true q1) h1
      · obtain ⟨q1, q⟩ := (Bool.and_eq_true _ _).mp q
        have hc := hX.2.2.2.2.1 _ (List.mem_filter.mpr ⟨of_decide_eq_true q1, rfl⟩)
        rcases (Bool.or_eq_true _ _).mp q with q | q
        · obtain ⟨hdg, hn⟩ := zdc_at q
          rw [hn] at h1
          exact lv_ldc hX.1 hX.2.1 hX.2.2.2.1 hc hdg h1
        · obtain ⟨hdg, hn⟩ := zdc_at q
          rw [hn] at h1
          exact lv_ldcw hX.1 hX.2.1 hX.2.2.2.1 hc hdg h1
theorem z_lconst {a : Int} {ix : List Nat} (ho : zop M k = (31, a, ix)) (kk : zW l E d M (k + 1) L (.inr (.inl a) :: S) h Q) : zW l E d M k L S h Q := by
  intro p e R s m args below meth c H locs ls cells slots QQ hX hE hS hL hv
  have hck : (decide (-9223372036854775808 ≤ a ∧ a ≤ 9223372036854775807) && ((decide (a = 0) && zdc M k 1 (.lconst 0)) || ((decide (a = 1) && zdc M k 1 (.lconst 1)) || (decide (Jvm.Cond.constantLong (zcl M) (zg ix 0) (Int64.ofInt a) ∈ lw_tbl) && zdc M k 3 (.ldc2_w (zg ix 0)))))) = true := zck_at hX.2.2.2.2.2.2.2.1 ho (by decide : (31 : Nat) ≠ 999)
  obtain ⟨hr, hck⟩ := (Bool.and_eq_true _ _).mp hck
  have hr : zI64 a := (of_decide_eq_true hr : -9223372036854775808 ≤ a ∧ a ≤ 9223372036854775807)
  have h1 := kk p e R s m args below meth c H locs ls cells slots QQ hX hE hS hL (zrv_k hr hv)
  rcases (Bool.or_eq_true _ _).mp hck with q | q
  · obtain ⟨q1, q⟩ := (Bool.and_eq_true _ _).mp q
    obtain ⟨hdg, hn⟩ := zdc_at q
    rw [hn] at h1
    exact lv_lconst hX.1 hX.2.1 hdg (by rw [of_decide_eq_true q1]; rfl) h1
  · rcases (Bool.or_eq_true _ _).mp q with q | q
    · obtain ⟨q1, q⟩ := (Bool.and_eq_true _ _).mp q
      obtain ⟨hdg, hn⟩ := zdc_at q
      rw [hn] at h1
      exact lv_lconst hX.1 hX.2.1 hdg (by rw [of_decide_eq_true q1]; rfl) h1
    · obtain ⟨q1, q⟩ := (Bool.and_eq_true _ _).mp q
      have hc := hX.2.2.2.2.1 _ (List.mem_filter.mpr ⟨of_decide_eq_true q1, rfl⟩)
      obtain ⟨hdg, hn⟩ := zdc_at q
      rw [hn] at h1
      exact lv_ldc2 hX.1 hX.2.1 hX.2.2.2.1 hc hdg h1
theorem zLs_at {n j : Nat} {ls : Array Slot} {v : zV} (hL : zLs E n L ls) (hj : L[j]? = some v) (hv : v ≠ zJk) : ls[j]? = some (.val (zup E v)) ∧ zrv v := by
  obtain ⟨-, hr, lv, h1, h2⟩ := hL
  exact ⟨h1.2.2 _ (h2 j v hj hv), hr v (List.mem_of_getElem? hj)⟩
theorem zfin {j : Nat} (h : j < 4) : ((Fin.ofNat 4 j : Fin 4) : Nat) = j := Nat.mod_eq_of_lt h
theorem z_iload {j : Nat} {a : Int} (ho : zop M k = (1, 0, [j])) (hj : L[j]? = some (.inl a)) (kk : zW l E d M (k + 1) L (.inl a :: S) h Q) : zW l E d M k L S h Q := by
  intro p e R s m args below meth c H locs ls cells slots QQ hX hE hS hL hv
  have hck : (zdc M k 2 (.iload j) || (decide (j < 4) && zdc M k 1 (.iload_n (Fin.ofNat 4 j)))) = true := zck_at hX.2.2.2.2.2.2.2.1 ho (by decide : (1 : Nat) ≠ 999)
  obtain ⟨hl, hr⟩ := zLs_at hL hj (fun q => by cases q)
  have h1 := kk p e R s m args below meth c H locs ls cells slots QQ hX hE hS hL (zrv_k hr hv)
  rcases (Bool.or_eq_true _ _).mp hck with q | q
  · obtain ⟨hdg, hn⟩ := zdc_at q
    rw [hn] at h1
    exact lv_iload hX.1 hX.2.1 hdg hl h1
  · obtain ⟨q1, q⟩ := (Bool.and_eq_true _ _).mp q
    obtain ⟨hdg, hn⟩ := zdc_at q
    rw [hn] at h1
    exact lv_iload_n hX.1 hX.2.1 hdg (zfin (of_decide_eq_true q1)) hl h1
theorem z_lload {j : Nat} {a : Int} (ho : zop M k = (5, 0, [j])) (hj : L[j]? = some (.inr (.inl a))) (kk : zW l E d M (k + 1) L (.inr (.inl a) :: S) h Q) : zW l E d M k L S h Q := by
  intro p e R s m args below meth c H locs ls cells slots QQ hX hE hS hL hv
  have hck : (zdc M k 2 (.lload j) || (decide (j < 4) && zdc M k 1 (.lload_n (Fin.ofNat 4 j)))) = true := zck_at hX.2.2.2.2.2.2.2.1 ho (by decide : (5 : Nat) ≠ 999)
  obtain ⟨hl, hr⟩ := zLs_at hL hj (fun q => by cases q)
  have h1 := kk p e R s m args below meth c H locs ls cells slots QQ hX hE hS hL (zrv_k hr hv)
  rcases (Bool.or_eq_true _ _).mp hck with q | q
  · obtain ⟨hdg, hn⟩ := zdc_at q
    rw [hn] at h1
    exact lv_lload hX.1 hX.2.1 hdg hl h1
  · obtain ⟨q1, q⟩ := (Bool.and_eq_true _ _).mp q
    obtain ⟨hdg, hn⟩ := zdc_at q
    rw [hn] at h1
    exact lv_lload_n hX.1 hX.2.1 hdg (zfin (of_decide_eq_true q1)) hl h1
theorem z_aload {j i : Nat} (ho : zop M k = (3, 0, [j])) (hj : L[j]? = some (.inr (.inr i))) (hi : decide (i < 1005) = true) (kk : zW l E d M (k + 1) L (.inr (.inr i) :: S) h Q) : zW l E d M k L S h Q := by
  intro p e R s m args below meth c H locs ls cells slots QQ hX hE hS hL hv
  have hck : (zdc M k 2 (.aload j) || (decide (j < 4) && zdc M k 1 (.aload_n (Fin.ofNat 4 j)))) = true := zck_at hX.2.2.2.2.2.2.2.1 ho (by decide : (3 : Nat) ≠ 999)
  have hi := of_decide_eq_true hi
  obtain ⟨hl, hr⟩ := zLs_at hL hj (fun q => by cases q; omega)
  have e0 : zup E (.inr (.inr i)) = .ref (zad E i) := by show zrf E i = _; unfold zrf; rw [if_neg (by omega)]
  rw [e0] at hl
  have h1 := kk p e R s m args below meth c H locs ls cells slots QQ hX hE hS hL (zrv_k hr hv)
  rw [List.map_cons, e0] at h1
  rcases (Bool.or_eq_true _ _).mp hck with q | q
  · obtain ⟨hdg, hn⟩ := zdc_at q
    rw [hn] at h1
    exact lv_aload hX.1 hX.2.1 hdg hl h1
  · obtain ⟨q1, q⟩ := (Bool.and_eq_true _ _).mp q
    obtain ⟨hdg, hn⟩ := zdc_at q
    rw [hn] at h1
    exact lv_aload_n hX.1 hX.2.1 hdg (zfin (of_decide_eq_true q1)) hl h1
/-- the place ahead holds no long -/
def zpl (L : List zV) : Nat → Bool
  | 0 => true
  | j + 1 => match L[j]? with
    | some (.inr (.inl _)) => false
    | _ => true
theorem zpl_at {lv : List (Nat × Value)} {L : List zV} {j i : Nat} {v : zV} (hp : zpl L j = true) (hi : L[i]? = some v) (hf : (zfm E).category = 1) : (i + 1 == j && (zup E v).category == 2) = false := by
  by_cases q : i + 1 = j
  · subst q
    have h1 : (match L[i]? with | some (.inr (.inl _)) => false | _ => true) = true := hp
    rw [hi] at h1
    rw [zup_cat1 E hf]
    match v, h1 with
    | .inl a, _ => simp
    | .inr (.inr a), _ => simp
  · simp [q]
theorem zfm_cat {E : zE} {s : State} (h : zStr E s) (hf : zfm E = .null ∨ ∃ t, zfm E = .ref t) : (zfm E).category = 1 := by
  rcases hf with q | ⟨t, q⟩ <;> rw [q] <;> rfl
theorem zLs_st1 {n j : Nat} {ls' : Array Slot} {v : zV} {lv : List (Nat × Value)} (hf : (zfm E).category = 1) (hlen : L.length = n) (hr : ∀ w ∈ L, zrv w) (h2 : ∀ (j : Nat) (v : zV), L[j]? = some v → v ≠ zJk → (j, zup E v) ∈ lv) (hp : zpl L j = true) (hv : zrv v)
    (h3 : lv_has ls' n ((j, zup E v) :: lv.filter (fun q => !(q.1 == j) && !(q.1 + 1 == j && q.2.category == 2)))) : zLs E n (L.set j v) ls' := by
  refine ⟨by rw [List.length_set]; exact hlen, fun w hw => ?_, _, h3, fun i w hi hw => ?_⟩
  · rcases List.mem_or_eq_of_mem_set hw with q | q
    · exact hr w q
    · rw [q]; exact hv
  · rw [List.getElem?_set] at hi
    by_cases q : j = i
    · subst q
      rw [if_pos rfl] at hi
      split at hi
      · cases hi
        exact List.mem_cons_self
      · cases hi
    · rw [if_neg q] at hi
      refine List.mem_cons_of_mem _ (List.mem_filter.mpr ⟨h2 i w hi hw, ?_⟩)
      have := zpl_at (lv := lv) hp hi hf
      simp only [Bool.and_eq_true, Bool.not_eq_true', this, beq_eq_false_iff_ne, ne_eq]
      exact ⟨fun z => q z.symm, trivial⟩
theorem zLs_st2 {n j : Nat} {ls' : Array Slot} {a : Int} {lv : List (Nat × Value)} (hf : (zfm E).category = 1) (hlen : L.length = n) (hr : ∀ w ∈ L, zrv w) (h2 : ∀ (j : Nat) (v : zV), L[j]? = some v → v ≠ zJk → (j, zup E v) ∈ lv) (hp : zpl L j = true) (hv : zI64 a)
    (h3 : lv_has ls' n ((j, .long (Int64.ofInt a)) :: lv.filter (fun q => !(q.1 == j) && (!(q.1 == j + 1) && !(q.1 + 1 == j && q.2.category == 2))))) : zLs E n ((L.set j (.inr (.inl a))).set (j + 1) zJk) ls' := by
  refine ⟨by rw [List.length_set, List.length_set]; exact hlen, fun w hw => ?_, _, h3, fun i w hi hw => ?_⟩
  · rcases List.mem_or_eq_of_mem_set hw with q | q
    · rcases List.mem_or_eq_of_mem_set q with q | q
      · exact hr w q
      · rw [q]; exact hv
    · rw [q]; trivial
  · rw [List.getElem?_set] at hi
    by_cases q : j + 1 = i
    · subst q
      rw [if_pos rfl] at hi
      split at hi
      · cases hi
        exact absurd rfl hw
      · cases hi
    · rw [if_neg q, List.getElem?_set] at hi
      by_cases q2 : j = i
      · subst q2
        rw [if_pos rfl] at hi
        split at hi
        · cases hi
          exact List.mem_cons_self
        · cases hi
      · rw [if_neg q2] at hi
        refine List.mem_cons_of_mem _ (List.mem_filter.mpr ⟨h2 i w hi hw, ?_⟩)
        have := zpl_at (lv := lv) hp hi hf
        simp only [Bool.and_eq_true, Bool.not_eq_true', this, beq_eq_false_iff_ne, ne_eq]
        exact ⟨fun z => q2 z.symm, fun z => q z.symm, trivial⟩
theorem z_istore {j : Nat} {a : Int} (ho : zop M k = (2, 0, [j])) (hn : decide (j < L.length) = true) (hp : zpl L j = true) (kk : zW l E d M (k + 1) (L.set j (.inl a)) S h Q) : zW l E d M k L (.inl a :: S) h Q := by
  intro p e R s m args below meth c H locs ls cells slots QQ hX hE hS hL hv
  have hck : (zdc M k 2 (.istore j) || (decide (j < 4) && zdc M k 1 (.istore_n (Fin.ofNat 4 j)))) = true := zck_at hX.2.2.2.2.2.2.2.1 ho (by decide : (2 : Nat) ≠ 999)
  obtain ⟨hr, hv⟩ := zrv_c hv
  obtain ⟨hlen, hrr, lv, hh, h2⟩ := hL
  have hn : j < zml M := by rw [← hlen]; exact of_decide_eq_true hn
  rcases (Bool.or_eq_true _ _).mp hck with q | q
  · obtain ⟨hdg, hpc⟩ := zdc_at q
    refine lv_istore hX.1 hX.2.1 hdg hh hn rfl (fun ls' h3 => ?_)
    rw [← hpc]
    exact kk p e R s m args below meth c H locs ls' cells slots QQ hX hE hS (zLs_st1 hX.2.2.2.2.2.2.2.2.2.2.2 hlen hrr h2 hp hr h3) hv
  · obtain ⟨q1, q⟩ := (Bool.and_eq_true _ _).mp q
    obtain ⟨hdg, hpc⟩ := zdc_at q
    refine lv_istore_n hX.1 hX.2.1 hdg (zfin (of_decide_eq_true q1)) hh hn rfl (fun ls' h3 => ?_)
    rw [← hpc]
    exact kk p e R s m args below meth c H locs ls' cells slots QQ hX hE hS (zLs_st1 hX.2.2.2.2.2.2.2.2.2.2.2 hlen hrr h2 hp hr h3) hv
theorem z_astore {j i : Nat} (ho : zop M k = (4, 0, [j])) (hi : decide (i < 1005) = true) (hn : decide (j < L.length) = true) (hp : zpl L j = true) (kk : zW l E d M (k + 1) (L.set j (.inr (.inr i))) S h Q) : zW l E d M k L (.inr (.inr i) :: S) h Q := by
  intro p e R s m args below meth c H locs ls cells slots QQ hX hE hS hL hv
  have hck : (zdc M k 2 (.astore j) || (decide (j < 4) && zdc M k 1 (.astore_n (Fin.ofNat 4 j)))) = true := zck_at hX.2.2.2.2.2.2.2.1 ho (by decide : (4 : Nat) ≠ 999)
  have hi := of_decide_eq_true hi
  have e0 : zup E (.inr (.inr i)) = .ref (zad E i) := by show zrf E i = _; unfold zrf; rw [if_neg (by omega)]
  obtain ⟨hr, hv⟩ := zrv_c hv
  obtain ⟨hlen, hrr, lv, hh, h2⟩ := hL
  have hn : j < zml M := by rw [← hlen]; exact of_decide_eq_true hn
  rw [List.map_cons, e0]
  rcases (Bool.or_eq_true _ _).mp hck with q | q
  · obtain ⟨hdg, hpc⟩ := zdc_at q
    refine lv_astore hX.1 hX.2.1 hdg hh hn rfl (fun ls' h3 => ?_)
    rw [← hpc]
    rw [← e0] at h3
    exact kk p e R s m args below meth c H locs ls' cells slots QQ hX hE hS (zLs_st1 hX.2.2.2.2.2.2.2.2.2.2.2 hlen hrr h2 hp hr h3) hv
  · obtain ⟨q1, q⟩ := (Bool.and_eq_true _ _).mp q
    obtain ⟨hdg, hpc⟩ := zdc_at q
    refine lv_astore_n hX.1 hX.2.1 hdg (zfin (of_decide_eq_true q1)) hh hn rfl (fun ls' h3 => ?_)
    rw [← hpc]
    rw [← e0] at h3
    exact kk p e R s m args below meth c H locs ls' cells slots QQ hX hE hS (zLs_st1 hX.2.2.2.2.2.2.2.2.2.2.2 hlen hrr h2 hp hr h3) hv
theorem z_lstore {j : Nat} {a : Int} (ho : zop M k = (6, 0, [j])) (hn : decide (j + 1 < L.length) = true) (hp : zpl L j = true) (kk : zW l E d M (k + 1) ((L.set j (.inr (.inl a))).set (j + 1) zJk) S h Q) : zW l E d M k L (.inr (.inl a) :: S) h Q := by
  intro p e R s m args below meth c H locs ls cells slots QQ hX hE hS hL hv
  have hck : (zdc M k 2 (.lstore j) || (decide (j < 4) && zdc M k 1 (.lstore_n (Fin.ofNat 4 j)))) = true := zck_at hX.2.2.2.2.2.2.2.1 ho (by decide : (6 : Nat) ≠ 999)
  obtain ⟨hr, hv⟩ := zrv_c hv
  obtain ⟨hlen, hrr, lv, hh, h2⟩ := hL
  have hn : j + 1 < zml M := by rw [← hlen]; exact of_decide_eq_true hn
  rcases (Bool.or_eq_true _ _).mp hck with q | q
  · obtain ⟨hdg, hpc⟩ := zdc_at q
    refine lv_lstore hX.1 hX.2.1 hdg hh hn rfl (fun ls' h3 => ?_)
    rw [← hpc]
    exact kk p e R s m args below meth c H locs ls' cells slots QQ hX hE hS (zLs_st2 hX.2.2.2.2.2.2.2.2.2.2.2 hlen hrr h2 hp hr h3) hv
  · obtain ⟨q1, q⟩ := (Bool.and_eq_true _ _).mp q
    obtain ⟨hdg, hpc⟩ := zdc_at q
    refine lv_lstore_n hX.1 hX.2.1 hdg (zfin (of_decide_eq_true q1)) hh hn rfl (fun ls' h3 => ?_)
    rw [← hpc]
    exact kk p e R s m args below meth c H locs ls' cells slots QQ hX hE hS (zLs_st2 hX.2.2.2.2.2.2.2.2.2.2.2 hlen hrr h2 hp hr h3) hv
theorem z_iinc {j : Nat} {a n : Int} (ho : zop M k = (7, n, [j])) (hj : L[j]? = some (.inl a)) (hp : zpl L j = true) (kk : zW l E d M (k + 1) (L.set j (.inl (w32 (a + n)))) S h Q) : zW l E d M k L S h Q := by
  intro p e R s m args below meth c H locs ls cells slots QQ hX hE hS hL hv
  have hck : zdc M k 3 (.iinc j n) = true := zck_at hX.2.2.2.2.2.2.2.1 ho (by decide : (7 : Nat) ≠ 999)
  obtain ⟨hlen, hrr, lv, hh, h2⟩ := hL
  have hn : j < zml M := by rw [← hlen]; exact (List.getElem?_eq_some_iff.mp hj).1
  obtain ⟨hdg, hpc⟩ := zdc_at hck
  obtain ⟨q0, hq0⟩ := List.getElem?_of_mem (h2 j _ hj (fun q => by cases q))
  refine lv_iinc (k := q0) (v := Int32.ofInt (w32 (a + n))) hX.1 hX.2.1 hdg hh hq0 (by rw [w32_o, Int32.ofInt_add]) hn rfl (fun ls' h3 => ?_)
  rw [← hpc]
  exact kk p e R s m args below meth c H locs ls' cells slots QQ hX hE hS (zLs_st1 (v := .inl (w32 (a + n))) hX.2.2.2.2.2.2.2.2.2.2.2 hlen hrr h2 hp (w32_r _) h3) hv
theorem z_goto {t : Nat} (ho : zop M k = (37, 0, [t])) (kk : zW l E d M t L S h Q) : zW l E d M k L S h Q := by
  intro p e R s m args below meth c H locs ls cells slots QQ hX hE hS hL hv
  have hck : decide (decode (zby M) (zpc M k) = .ok (.goto (zoff M k t), 3)) = true := zck_at hX.2.2.2.2.2.2.2.1 ho (by decide : (37 : Nat) ≠ 999)
  exact lv_goto hX.1 hX.2.1 (of_decide_eq_true hck) (zoff_at M k t) (kk p e R s m args below meth c H locs ls cells slots QQ hX hE hS hL hv)
theorem z_ceq {a b : Int} {t : Nat} (ho : zop M k = (35, 0, [0, t])) (kt : a = b → zW l E d M t L S h Q) (kf : ¬ (a = b) → zW l E d M (k + 1) L S h Q) : zW l E d M k L (.inl b :: .inl a :: S) h Q := by
  intro p e R s m args below meth c H locs ls cells slots QQ hX hE hS hL hv
  have hck : zdc M k 3 (.if_icmp .eq (zoff M k t)) = true := zck_at hX.2.2.2.2.2.2.2.1 ho (by decide : (35 : Nat) ≠ 999)
  obtain ⟨hdg, hn⟩ := zdc_at hck
  have hb0 : zI32 b := (zrv_c hv).1
  have ha0 : zI32 a := (zrv_c (zrv_c hv).2).1
  have hv := (zrv_c (zrv_c hv).2).2
  have e1 := o32_eq ha0 hb0
  have e2 := o32_lt ha0 hb0
  have e3 := o32_lt hb0 ha0
  have e4 := o32_le ha0 hb0
  have e5 := o32_le hb0 ha0
  refine lv_icmp_eq hX.1 hX.2.1 hdg (zoff_at M k t) (fun q => ?_) (fun q => ?_)
  · exact kt (by simp only [ge_iff_le, gt_iff_lt, e1, e2, e3, e4, e5, ne_eq] at q; first | exact q | omega) p e R s m args below meth c H locs ls cells slots QQ hX hE hS hL hv
  · rw [← hn]
    exact kf (by simp only [ge_iff_le, gt_iff_lt, e1, e2, e3, e4, e5, ne_eq] at q; first | exact q | omega) p e R s m args below meth c H locs ls cells slots QQ hX hE hS hL hv
theorem z_zeq {a : Int} {t : Nat} (ho : zop M k = (36, 0, [0, t])) (kt : a = 0 → zW l E d M t L S h Q) (kf : ¬ (a = 0) → zW l E d M (k + 1) L S h Q) : zW l E d M k L (.inl a :: S) h Q := by
  intro p e R s m args below meth c H locs ls cells slots QQ hX hE hS hL hv
  have hck : zdc M k 3 (.ifCond .eq (zoff M k t)) = true := zck_at hX.2.2.2.2.2.2.2.1 ho (by decide : (36 : Nat) ≠ 999)
  obtain ⟨hdg, hn⟩ := zdc_at hck
  have ha0 : zI32 a := (zrv_c hv).1
  have hv := (zrv_c hv).2
  have hb0 : zI32 0 := by unfold zI32; omega
  have e1 : Int32.ofInt a = 0 ↔ a = 0 := o32_eq ha0 hb0
  have e2 : Int32.ofInt a < 0 ↔ a < 0 := o32_lt ha0 hb0
  have e3 : 0 < Int32.ofInt a ↔ 0 < a := o32_lt hb0 ha0
  have e4 : Int32.ofInt a ≤ 0 ↔ a ≤ 0 := o32_le ha0 hb0
  have e5 : 0 ≤ Int32.ofInt a ↔ 0 ≤ a := o32_le hb0 ha0
  refine lv_if_eq hX.1 hX.2.1 hdg (zoff_at M k t) (fun q => ?_) (fun q => ?_)
  · exact kt (by simp only [ge_iff_le, gt_iff_lt, e1, e2, e3, e4, e5, ne_eq] at q; first | exact q | omega) p e R s m args below meth c H locs ls cells slots QQ hX hE hS hL hv
  · rw [← hn]
    exact kf (by simp only [ge_iff_le, gt_iff_lt, e1, e2, e3, e4, e5, ne_eq] at q; first | exact q | omega) p e R s m args below meth c H locs ls cells slots QQ hX hE hS hL hv
theorem z_cne {a b : Int} {t : Nat} (ho : zop M k = (35, 0, [1, t])) (kt : ¬ a = b → zW l E d M t L S h Q) (kf : a = b → zW l E d M (k + 1) L S h Q) : zW l E d M k L (.inl b :: .inl a :: S) h Q := by
  intro p e R s m args below meth c H locs ls cells slots QQ hX hE hS hL hv
  have hck : zdc M k 3 (.if_icmp .ne (zoff M k t)) = true := zck_at hX.2.2.2.2.2.2.2.1 ho (by decide : (35 : Nat) ≠ 999)
  obtain ⟨hdg, hn⟩ := zdc_at hck
  have hb0 : zI32 b := (zrv_c hv).1
  have ha0 : zI32 a := (zrv_c (zrv_c hv).2).1
  have hv := (zrv_c (zrv_c hv).2).2
  have e1 := o32_eq ha0 hb0
  have e2 := o32_lt ha0 hb0
  have e3 := o32_lt hb0 ha0
  have e4 := o32_le ha0 hb0
  have e5 := o32_le hb0 ha0
  refine lv_icmp_ne hX.1 hX.2.1 hdg (zoff_at M k t) (fun q => ?_) (fun q => ?_)
  · exact kt (by simp only [ge_iff_le, gt_iff_lt, e1, e2, e3, e4, e5, ne_eq] at q; first | exact q | omega) p e R s m args below meth c H locs ls cells slots QQ hX hE hS hL hv
  · rw [← hn]
    exact kf (by simp only [ge_iff_le, gt_iff_lt, e1, e2, e3, e4, e5, ne_eq] at q; first | exact q | omega) p e R s m args below meth c H locs ls cells slots QQ hX hE hS hL hv
theorem z_zne {a : Int} {t : Nat} (ho : zop M k = (36, 0, [1, t])) (kt : ¬ a = 0 → zW l E d M t L S h Q) (kf : a = 0 → zW l E d M (k + 1) L S h Q) : zW l E d M k L (.inl a :: S) h Q := by
  intro p e R s m args below meth c H locs ls cells slots QQ hX hE hS hL hv
  have hck : zdc M k 3 (.ifCond .ne (zoff M k t)) = true := zck_at hX.2.2.2.2.2.2.2.1 ho (by decide : (36 : Nat) ≠ 999)
  obtain ⟨hdg, hn⟩ := zdc_at hck
  have ha0 : zI32 a := (zrv_c hv).1
  have hv := (zrv_c hv).2
  have hb0 : zI32 0 := by unfold zI32; omega
  have e1 : Int32.ofInt a = 0 ↔ a = 0 := o32_eq ha0 hb0
  have e2 : Int32.ofInt a < 0 ↔ a < 0 := o32_lt ha0 hb0
  have e3 : 0 < Int32.ofInt a ↔ 0 < a := o32_lt hb0 ha0
  have e4 : Int32.ofInt a ≤ 0 ↔ a ≤ 0 := o32_le ha0 hb0
  have e5 : 0 ≤ Int32.ofInt a ↔ 0 ≤ a := o32_le hb0 ha0
  refine lv_if_ne hX.1 hX.2.1 hdg (zoff_at M k t) (fun q => ?_) (fun q => ?_)
  · exact kt (by simp only [ge_iff_le, gt_iff_lt, e1, e2, e3, e4, e5, ne_eq] at q; first | exact q | omega) p e R s m args below meth c H locs ls cells slots QQ hX hE hS hL hv
  · rw [← hn]
    exact kf (by simp only [ge_iff_le, gt_iff_lt, e1, e2, e3, e4, e5, ne_eq] at q; first | exact q | omega) p e R s m args below meth c H locs ls cells slots QQ hX hE hS hL hv
theorem z_clt {a b : Int} {t : Nat} (ho : zop M k = (35, 0, [2, t])) (kt : a < b → zW l E d M t L S h Q) (kf : ¬ (a < b) → zW l E d M (k + 1) L S h Q) : zW l E d M k L (.inl b :: .inl a :: S) h Q := by
  intro p e R s m args below meth c H locs ls cells slots QQ hX hE hS hL hv
  have hck : zdc M k 3 (.if_icmp .lt (zoff M k t)) = true := zck_at hX.2.2.2.2.2.2.2.1 ho (by decide : (35 : Nat) ≠ 999)
  obtain ⟨hdg, hn⟩ := zdc_at hck
  have hb0 : zI32 b := (zrv_c hv).1
  have ha0 : zI32 a := (zrv_c (zrv_c hv).2).1
  have hv := (zrv_c (zrv_c hv).2).2
  have e1 := o32_eq ha0 hb0
  have e2 := o32_lt ha0 hb0
  have e3 := o32_lt hb0 ha0
  have e4 := o32_le ha0 hb0
  have e5 := o32_le hb0 ha0
  refine lv_icmp_lt hX.1 hX.2.1 hdg (zoff_at M k t) (fun q => ?_) (fun q => ?_)
  · exact kt (by simp only [ge_iff_le, gt_iff_lt, e1, e2, e3, e4, e5, ne_eq] at q; first | exact q | omega) p e R s m args below meth c H locs ls cells slots QQ hX hE hS hL hv
  · rw [← hn]
    exact kf (by simp only [ge_iff_le, gt_iff_lt, e1, e2, e3, e4, e5, ne_eq] at q; first | exact q | omega) p e R s m args below meth c H locs ls cells slots QQ hX hE hS hL hv
theorem z_zlt {a : Int} {t : Nat} (ho : zop M k = (36, 0, [2, t])) (kt : a < 0 → zW l E d M t L S h Q) (kf : ¬ (a < 0) → zW l E d M (k + 1) L S h Q) : zW l E d M k L (.inl a :: S) h Q := by
  intro p e R s m args below meth c H locs ls cells slots QQ hX hE hS hL hv
  have hck : zdc M k 3 (.ifCond .lt (zoff M k t)) = true := zck_at hX.2.2.2.2.2.2.2.1 ho (by decide : (36 : Nat) ≠ 999)
  obtain ⟨hdg, hn⟩ := zdc_at hck
  have ha0 : zI32 a := (zrv_c hv).1
  have hv := (zrv_c hv).2
  have hb0 : zI32 0 := by unfold zI32; omega
  have e1 : Int32.ofInt a = 0 ↔ a = 0 := o32_eq ha0 hb0
  have e2 : Int32.ofInt a < 0 ↔ a < 0 := o32_lt ha0 hb0
  have e3 : 0 < Int32.ofInt a ↔ 0 < a := o32_lt hb0 ha0
  have e4 : Int32.ofInt a ≤ 0 ↔ a ≤ 0 := o32_le ha0 hb0
  have e5 : 0 ≤ Int32.ofInt a ↔ 0 ≤ a := o32_le hb0 ha0
  refine lv_if_lt hX.1 hX.2.1 hdg (zoff_at M k t) (fun q => ?_) (fun q => ?_)
  · exact kt (by simp only [ge_iff_le, gt_iff_lt, e1, e2, e3, e4, e5, ne_eq] at q; first | exact q | omega) p e R s m args below meth c H locs ls cells slots QQ hX hE hS hL hv
  · rw [← hn]
    exact kf (by simp only [ge_iff_le, gt_iff_lt, e1, e2, e3, e4, e5, ne_eq] at q; first | exact q | omega) p e R s m args below meth c H locs ls cells slots QQ hX hE hS hL hv
theorem z_cge {a b : Int} {t : Nat} (ho : zop M k = (35, 0, [3, t])) (kt : b ≤ a → zW l E d M t L S h Q) (kf : ¬ (b ≤ a) → zW l E d M (k + 1) L S h Q) : zW l E d M k L (.inl b :: .inl a :: S) h Q := by
  intro p e R s m args below meth c H locs ls cells slots QQ hX hE hS hL hv
  have hck : zdc M k 3 (.if_icmp .ge (zoff M k t)) = true := zck_at hX.2.2.2.2.2.2.2.1 ho (by decide : (35 : Nat) ≠ 999)
  obtain ⟨hdg, hn⟩ := zdc_at hck
  have hb0 : zI32 b := (zrv_c hv).1
  have ha0 : zI32 a := (zrv_c (zrv_c hv).2).1
  have hv := (zrv_c (zrv_c hv).2).2
  have e1 := o32_eq ha0 hb0
  have e2 := o32_lt ha0 hb0
  have e3 := o32_lt hb0 ha0
  have e4 := o32_le ha0 hb0
  have e5 := o32_le hb0 ha0
  refine lv_icmp_ge hX.1 hX.2.1 hdg (zoff_at M k t) (fun q => ?_) (fun q => ?_)
  · exact kt (by simp only [ge_iff_le, gt_iff_lt, e1, e2, e3, e4, e5, ne_eq] at q; first | exact q | omega) p e R s m args below meth c H locs ls cells slots QQ hX hE hS hL hv
  · rw [← hn]
    exact kf (by simp only [ge_iff_le, gt_iff_lt, e1, e2, e3, e4, e5, ne_eq] at q; first | exact q | omega) p e R s m args below meth c H locs ls cells slots QQ hX hE hS hL hv
theorem z_zge {a : Int} {t : Nat} (ho : zop M k = (36, 0, [3, t])) (kt : 0 ≤ a → zW l E d M t L S h Q) (kf : ¬ (0 ≤ a) → zW l E d M (k + 1) L S h Q) : zW l E d M k L (.inl a :: S) h Q := by
  intro p e R s m args below meth c H locs ls cells slots QQ hX hE hS hL hv
  have hck : zdc M k 3 (.ifCond .ge (zoff M k t)) = true := zck_at hX.2.2.2.2.2.2.2.1 ho (by decide : (36 : Nat) ≠ 999)
  obtain ⟨hdg, hn⟩ := zdc_at hck
  have ha0 : zI32 a := (zrv_c hv).1
  have hv := (zrv_c hv).2
  have hb0 : zI32 0 := by unfold zI32; omega
  have e1 : Int32.ofInt a = 0 ↔ a = 0 := o32_eq ha0 hb0
  have e2 : Int32.ofInt a < 0 ↔ a < 0 := o32_lt ha0 hb0
  have e3 : 0 < Int32.ofInt a ↔ 0 < a := o32_lt hb0 ha0
  have e4 : Int32.ofInt a ≤ 0 ↔ a ≤ 0 := o32_le ha0 hb0
  have e5 : 0 ≤ Int32.ofInt a ↔ 0 ≤ a := o32_le hb0 ha0
  refine lv_if_ge hX.1 hX.2.1 hdg (zoff_at M k t) (fun q => ?_) (fun q => ?_)
  · exact kt (by simp only [ge_iff_le, gt_iff_lt, e1, e2, e3, e4, e5, ne_eq] at q; first | exact q | omega) p e R s m args below meth c H locs ls cells slots QQ hX hE hS hL hv
  · rw [← hn]
    exact kf (by simp only [ge_iff_le, gt_iff_lt, e1, e2, e3, e4, e5, ne_eq] at q; first | exact q | omega) p e R s m args below meth c H locs ls cells slots QQ hX hE hS hL hv
theorem z_cgt {a b : Int} {t : Nat} (ho : zop M k = (35, 0, [4, t])) (kt : b < a → zW l E d M t L S h Q) (kf : ¬ (b < a) → zW l E d M (k + 1) L S h Q) : zW l E d M k L (.inl b :: .inl a :: S) h Q := by
  intro p e R s m args below meth c H locs ls cells slots QQ hX hE hS hL hv
  have hck : zdc M k 3 (.if_icmp .gt (zoff M k t)) = true := zck_at hX.2.2.2.2.2.2.2.1 ho (by decide : (35 : Nat) ≠ 999)
  obtain ⟨hdg, hn⟩ := zdc_at hck
  have hb0 : zI32 b := (zrv_c hv).1
  have ha0 : zI32 a := (zrv_c (zrv_c hv).2).1
  have hv := (zrv_c (zrv_c hv).2).2
  have e1 := o32_eq ha0 hb0
  have e2 := o32_lt ha0 hb0
  have e3 := o32_lt hb0 ha0
  have e4 := o32_le ha0 hb0
  have e5 := o32_le hb0 ha0
  refine lv_icmp_gt hX.1 hX.2.1 hdg (zoff_at M k t) (fun q => ?_) (fun q => ?_)
  · exact kt (by simp only [ge_iff_le, gt_iff_lt, e1, e2, e3, e4, e5, ne_eq] at q; first | exact q | omega) p e R s m args below meth c H locs ls cells slots QQ hX hE hS hL hv
  · rw [← hn]
    exact kf (by simp only [ge_iff_le, gt_iff_lt, e1, e2, e3, e4, e5, ne_eq] at q; first | exact q | omega) p e R s m args below meth c H locs ls cells slots QQ hX hE hS hL hv
theorem z_zgt {a : Int} {t : Nat} (ho : zop M k = (36, 0, [4, t])) (kt : 0 < a → zW l E d M t L S h Q) (kf : ¬ (0 < a) → zW l E d M (k + 1) L S h Q) : zW l E d M k L (.inl a :: S) h Q := by
  intro p e R s m args below meth c H locs ls cells slots QQ hX hE hS hL hv
  have hck : zdc M k 3 (.ifCond .gt (zoff M k t)) = true := zck_at hX.2.2.2.2.2.2.2.1 ho (by decide : (36 : Nat) ≠ 999)
  obtain ⟨hdg, hn⟩ := zdc_at hck
  have ha0 : zI32 a := (zrv_c hv).1
  have hv := (zrv_c hv).2
  have hb0 : zI32 0 := by unfold zI32; omega
  have e1 : Int32.ofInt a = 0 ↔ a = 0 := o32_eq ha0 hb0
  have e2 : Int32.ofInt a < 0 ↔ a < 0 := o32_lt ha0 hb0
  have e3 : 0 < Int32.ofInt a ↔ 0 < a := o32_lt hb0 ha0
  have e4 : Int32.ofInt a ≤ 0 ↔ a ≤ 0 := o32_le ha0 hb0
  have e5 : 0 ≤ Int32.ofInt a ↔ 0 ≤ a := o32_le hb0 ha0
  refine lv_if_gt hX.1 hX.2.1 hdg (zoff_at M k t) (fun q => ?_) (fun q => ?_)
  · exact kt (by simp only [ge_iff_le, gt_iff_lt, e1, e2, e3, e4, e5, ne_eq] at q; first | exact q | omega) p e R s m args below meth c H locs ls cells slots QQ hX hE hS hL hv
  · rw [← hn]
    exact kf (by simp only [ge_iff_le, gt_iff_lt, e1, e2, e3, e4, e5, ne_eq] at q; first | exact q | omega) p e R s m args below meth c H locs ls cells slots QQ hX hE hS hL hv
theorem z_cle {a b : Int} {t : Nat} (ho : zop M k = (35, 0, [5, t])) (kt : a ≤ b → zW l E d M t L S h Q) (kf : ¬ (a ≤ b) → zW l E d M (k + 1) L S h Q) : zW l E d M k L (.inl b :: .inl a :: S) h Q := by
  intro p e R s m args below meth c H locs ls cells slots QQ hX hE hS hL hv
  have hck : zdc M k 3 (.if_icmp .le (zoff M k t)) = true := zck_at hX.2.2.2.2.2.2.2.1 ho (by decide : (35 : Nat) ≠ 999)
  obtain ⟨hdg, hn⟩ := zdc_at hck
  have hb0 : zI32 b := (zrv_c hv).1
  have ha0 : zI32 a := (zrv_c (zrv_c hv).2).1
  have hv := (zrv_c (zrv_c hv).2).2
  have e1 := o32_eq ha0 hb0
  have e2 := o32_lt ha0 hb0
  have e3 := o32_lt hb0 ha0
  have e4 := o32_le ha0 hb0
  have e5 := o32_le hb0 ha0
  refine lv_icmp_le hX.1 hX.2.1 hdg (zoff_at M k t) (fun q => ?_) (fun q => ?_)
  · exact kt (by simp only [ge_iff_le, gt_iff_lt, e1, e2, e3, e4, e5, ne_eq] at q; first | exact q | omega) p e R s m args below meth c H locs ls cells slots QQ hX hE hS hL hv
  · rw [← hn]
    exact kf (by simp only [ge_iff_le, gt_iff_lt, e1, e2, e3, e4, e5, ne_eq] at q; first | exact q | omega) p e R s m args below meth c H locs ls cells slots QQ hX hE hS hL hv
theorem z_zle {a : Int} {t : Nat} (ho : zop M k = (36, 0, [5, t])) (kt : a ≤ 0 → zW l E d M t L S h Q) (kf : ¬ (a ≤ 0) → zW l E d M (k + 1) L S h Q) : zW l E d M k L (.inl a :: S) h Q := by
  intro p e R s m args below meth c H locs ls cells slots QQ hX hE hS hL hv
  have hck : zdc M k 3 (.ifCond .le (zoff M k t)) = true := zck_at hX.2.2.2.2.2.2.2.1 ho (by decide : (36 : Nat) ≠ 999)
  obtain ⟨hdg, hn⟩ := zdc_at hck
  have ha0 : zI32 a := (zrv_c hv).1
  have hv := (zrv_c hv).2
  have hb0 : zI32 0 := by unfold zI32; omega
  have e1 : Int32.ofInt a = 0 ↔ a = 0 := o32_eq ha0 hb0
  have e2 : Int32.ofInt a < 0 ↔ a < 0 := o32_lt ha0 hb0
  have e3 : 0 < Int32.ofInt a ↔ 0 < a := o32_lt hb0 ha0
  have e4 : Int32.ofInt a ≤ 0 ↔ a ≤ 0 := o32_le ha0 hb0
  have e5 : 0 ≤ Int32.ofInt a ↔ 0 ≤ a := o32_le hb0 ha0
  refine lv_if_le hX.1 hX.2.1 hdg (zoff_at M k t) (fun q => ?_) (fun q => ?_)
  · exact kt (by simp only [ge_iff_le, gt_iff_lt, e1, e2, e3, e4, e5, ne_eq] at q; first | exact q | omega) p e R s m args below meth c H locs ls cells slots QQ hX hE hS hL hv
  · rw [← hn]
    exact kf (by simp only [ge_iff_le, gt_iff_lt, e1, e2, e3, e4, e5, ne_eq] at q; first | exact q | omega) p e R s m args below meth c H locs ls cells slots QQ hX hE hS hL hv
end ZR
