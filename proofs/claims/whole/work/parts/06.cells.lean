/-! the rules of zW: cells, switches, calls, ends; by program (wip/whole/rules2.py) -/
section ZM
variable {l : Launch} {E : zE} {d : Nat} {M : zMeth} {k : Nat} {L S : List zV} {h : zHp} {Q : Int → zHp → Prop}
theorem zsim_x {n : Nat} {i : Instr} {p : Program} {R : Room} {s : State} {m : MethodId} {args : Array Value} {c : Code} {cells slots : Nat} (hX : zX E d M p R s m args c cells slots) (ho : zop M k = (n, 0, [])) (h9 : n ≠ 999) (hi : zsim n = some i) : decode (zby M) (zpc M k) = .ok (i, 1) ∧ zpc M (k + 1) = zpc M k + 1 := zsim_at hX.2.2.2.2.2.2.2.1 ho h9 hi
theorem zvp {a : Int} {n : Nat} (ha : zI32 a) (h0 : 0 ≤ a) (h1 : a < n) : vp_in (Int32.ofInt a) n := vp_in_iff.mpr (by rw [w32_t ha]; exact ⟨h0, h1⟩)
theorem zcl_nat {a : Int} (ha : zI32 a) : (Int32.ofInt a).toNatClampNeg = a.toNat := by
  show (Int32.ofInt a).toInt.toNat = a.toNat
  rw [w32_t ha]
theorem zrf_r {i : Nat} (hi : i < 1005) : zup E (.inr (.inr i)) = .ref (zad E i) := by show zrf E i = _; unfold zrf; rw [if_neg (by omega)]
theorem zOlen : zO.length < 1000 := by decide
theorem zO_lt {i : Nat} {dd : zDsc} (hO : zO[i]? = some dd) : i < 1005 := by
  have h1 := (List.getElem?_eq_some_iff.mp hO).1
  have h2 := zOlen
  omega
theorem zlg_a {i n kd : Nat} (hO : zO[i]? = some (.inr (kd, n))) (j : Nat) : zlg i j = (kd == 1) := by unfold zlg; rw [hO]
theorem zbl_a {i n kd : Nat} (hO : zO[i]? = some (.inr (kd, n))) (j : Nat) : zbl i j = (kd == 2) := by unfold zbl; rw [hO]
theorem zbl_f {i ci f kd : Nat} {ks : List Nat} (hO : zO[i]? = some (.inl (ci, ks))) (hf : ks[f]? = some kd) : zbl i f = (kd == 2) := by
  unfold zbl
  rw [hO]
  show (ks[f]? == some 2) = _
  rw [hf]
  simp
theorem zlg_f {i ci f kd : Nat} {ks : List Nat} (hO : zO[i]? = some (.inl (ci, ks))) (hf : ks[f]? = some kd) : zlg i f = (kd == 1) := by
  unfold zlg
  rw [hO]
  show (ks[f]? == some 1) = _
  rw [hf]
  simp
theorem z_iald {i n : Nat} {a : Int} (ho : zop M k = (42, 0, [])) (hO : zO[i]? = some (.inr (0, n))) (h0 : 0 ≤ a) (h1 : a < n) (kk : zW l E d M (k + 1) L (.inl (h i a.toNat) :: S) h Q) : zW l E d M k L (.inl a :: .inr (.inr i) :: S) h Q := by
  intro p e R s m args below meth c H locs ls cells slots QQ hX hE hS hL hv
  obtain ⟨hdg, hn⟩ := zsim_x hX ho (by decide) rfl
  have ha : zI32 a := (zrv_c hv).1
  have hv2 := (zrv_c (zrv_c hv).2).2
  have hg : zI32 (h i a.toNat) := zRg_i hS.1 (by rw [zlg_a hO]; rfl)
  have k1 := kk p e R s m args below meth c H locs ls cells slots QQ hX hE hS hL (zrv_k (v := .inl (h i a.toNat)) hg hv2)
  rw [List.map_cons, List.map_cons, zrf_r (zO_lt hO)]
  refine va_iald hX.1 hX.2.1 hX.2.2.2.2.2.1 hS.2.1 i 0 (zwl_at hO) rfl (zvp ha h0 h1) hdg ?_
  rw [zcl_nat ha, ← hn]
  exact k1
theorem z_lald {i n : Nat} {a : Int} (ho : zop M k = (44, 0, [])) (hO : zO[i]? = some (.inr (1, n))) (h0 : 0 ≤ a) (h1 : a < n) (kk : zW l E d M (k + 1) L (.inr (.inl (h i a.toNat)) :: S) h Q) : zW l E d M k L (.inl a :: .inr (.inr i) :: S) h Q := by
  intro p e R s m args below meth c H locs ls cells slots QQ hX hE hS hL hv
  obtain ⟨hdg, hn⟩ := zsim_x hX ho (by decide) rfl
  have ha : zI32 a := (zrv_c hv).1
  have hv2 := (zrv_c (zrv_c hv).2).2
  have hg : zI64 (h i a.toNat) := zRg_l hS.1 (by rw [zlg_a hO]; rfl)
  have k1 := kk p e R s m args below meth c H locs ls cells slots QQ hX hE hS hL (zrv_k (v := .inr (.inl (h i a.toNat))) hg hv2)
  rw [List.map_cons, List.map_cons, zrf_r (zO_lt hO)]
  refine va_lald hX.1 hX.2.1 hX.2.2.2.2.2.1 hS.2.1 i 1 (zwl_at hO) rfl (zvp ha h0 h1) hdg ?_
  rw [zcl_nat ha, ← hn]
  exact k1
theorem z_bald {i n : Nat} {a : Int} (ho : zop M k = (46, 0, [])) (hO : zO[i]? = some (.inr (2, n))) (h0 : 0 ≤ a) (h1 : a < n) (kk : (h i a.toNat = 0 ∨ h i a.toNat = 1) → zW l E d M (k + 1) L (.inl (h i a.toNat) :: S) h Q) : zW l E d M k L (.inl a :: .inr (.inr i) :: S) h Q := by
  intro p e R s m args below meth c H locs ls cells slots QQ hX hE hS hL hv
  obtain ⟨hdg, hn⟩ := zsim_x hX ho (by decide) rfl
  have ha : zI32 a := (zrv_c hv).1
  have hv2 := (zrv_c (zrv_c hv).2).2
  have hg : zI32 (h i a.toNat) := zRg_i hS.1 (by rw [zlg_a hO]; rfl)
  have k1 := kk (zRg_b hS.1 (by rw [zbl_a hO]; rfl)) p e R s m args below meth c H locs ls cells slots QQ hX hE hS hL (zrv_k (v := .inl (h i a.toNat)) hg hv2)
  rw [List.map_cons, List.map_cons, zrf_r (zO_lt hO)]
  refine va_zald hX.1 hX.2.1 hX.2.2.2.2.2.1 hS.2.1 i 2 (zwl_at hO) rfl (zvp ha h0 h1) hdg ?_
  rw [zcl_nat ha, ← hn]
  exact k1
theorem z_iast {i n : Nat} {a b : Int} (ho : zop M k = (43, 0, [])) (hO : zO[i]? = some (.inr (0, n))) (h0 : 0 ≤ a) (h1 : a < n) (kk : zW l E d M (k + 1) L S (zst h i a.toNat b) Q) : zW l E d M k L (.inl b :: .inl a :: .inr (.inr i) :: S) h Q := by
  intro p e R s m args below meth c H locs ls cells slots QQ hX hE hS hL hv
  obtain ⟨hdg, hn⟩ := zsim_x hX ho (by decide) rfl
  have hb : zI32 b := (zrv_c hv).1
  have ha : zI32 a := (zrv_c (zrv_c hv).2).1
  have hv2 := (zrv_c (zrv_c (zrv_c hv).2).2).2
  have hg : zRg (zst h i a.toNat b) := zRg_st hS.1 (by rw [zlg_a hO]; exact hb) (fun q => by rw [zbl_a hO] at q; cases q)
  rw [List.map_cons, List.map_cons, List.map_cons, zrf_r (zO_lt hO)]
  refine va_iast hX.1 hX.2.1 hX.2.2.2.2.2.1 hS.2.1 (hX.2.2.2.2.2.2.1 h) hS.2.2 i 0 (zwl_at hO) rfl (zvp ha h0 h1) hdg (fun H1 locs1 hP hD hS1 => ?_)
  rw [← hn]
  refine kk p e R s m args below meth c H1 locs1 ls cells slots QQ hX hE ⟨hg, ?_, hS1⟩ hL hv2
  rw [← zwl_set hO]
  rw [zcl_nat ha] at hP
  have e1 : zce E (zst h i a.toNat b) i (.inr (0, n)) = .inl (E.2.2.1.1, n, .inl (upd (fun q => Int32.ofInt (h i q)) a.toNat (Int32.ofInt b))) := by
    have e2 : (fun q => Int32.ofInt (zst h i a.toNat b i q)) = upd (fun q => Int32.ofInt (h i q)) a.toNat (Int32.ofInt b) := by
      funext q
      unfold zst
      by_cases hq : q = a.toNat
      · subst hq; simp [upd, vp_updL]
      · simp [upd, vp_updL, hq]
    rw [← e2]
    rfl
  rw [e1]
  exact hP
theorem z_last {i n : Nat} {a b : Int} (ho : zop M k = (45, 0, [])) (hO : zO[i]? = some (.inr (1, n))) (h0 : 0 ≤ a) (h1 : a < n) (kk : zW l E d M (k + 1) L S (zst h i a.toNat b) Q) : zW l E d M k L (.inr (.inl b) :: .inl a :: .inr (.inr i) :: S) h Q := by
  intro p e R s m args below meth c H locs ls cells slots QQ hX hE hS hL hv
  obtain ⟨hdg, hn⟩ := zsim_x hX ho (by decide) rfl
  have hb : zI64 b := (zrv_c hv).1
  have ha : zI32 a := (zrv_c (zrv_c hv).2).1
  have hv2 := (zrv_c (zrv_c (zrv_c hv).2).2).2
  have hg : zRg (zst h i a.toNat b) := zRg_st hS.1 (by rw [zlg_a hO]; exact hb) (fun q => by rw [zbl_a hO] at q; cases q)
  rw [List.map_cons, List.map_cons, List.map_cons, zrf_r (zO_lt hO)]
  refine va_last hX.1 hX.2.1 hX.2.2.2.2.2.1 hS.2.1 (hX.2.2.2.2.2.2.1 h) hS.2.2 i 1 (zwl_at hO) rfl (zvp ha h0 h1) hdg (fun H1 locs1 hP hD hS1 => ?_)
  rw [← hn]
  refine kk p e R s m args below meth c H1 locs1 ls cells slots QQ hX hE ⟨hg, ?_, hS1⟩ hL hv2
  rw [← zwl_set hO]
  rw [zcl_nat ha] at hP
  have e1 : zce E (zst h i a.toNat b) i (.inr (1, n)) = .inl (E.2.2.1.2.1, n, .inr (.inl (vp_updL (fun q => Int64.ofInt (h i q)) a.toNat (Int64.ofInt b)))) := by
    have e2 : (fun q => Int64.ofInt (zst h i a.toNat b i q)) = vp_updL (fun q => Int64.ofInt (h i q)) a.toNat (Int64.ofInt b) := by
      funext q
      unfold zst
      by_cases hq : q = a.toNat
      · subst hq; simp [upd, vp_updL]
      · simp [upd, vp_updL, hq]
    rw [← e2]
    rfl
  rw [e1]
  exact hP
theorem z_bast {i n : Nat} {a b : Int} (ho : zop M k = (47, 0, [])) (hO : zO[i]? = some (.inr (2, n))) (h0 : 0 ≤ a) (h1 : a < n) (hz : b = 0 ∨ b = 1) (kk : zW l E d M (k + 1) L S (zst h i a.toNat b) Q) : zW l E d M k L (.inl b :: .inl a :: .inr (.inr i) :: S) h Q := by
  intro p e R s m args below meth c H locs ls cells slots QQ hX hE hS hL hv
  obtain ⟨hdg, hn⟩ := zsim_x hX ho (by decide) rfl
  have hb : zI32 b := (zrv_c hv).1
  have ha : zI32 a := (zrv_c (zrv_c hv).2).1
  have hv2 := (zrv_c (zrv_c (zrv_c hv).2).2).2
  have hg : zRg (zst h i a.toNat b) := zRg_st hS.1 (by rw [zlg_a hO]; exact hb) (fun q => by rw [zbl_a hO] at q; exact hz)
  rw [List.map_cons, List.map_cons, List.map_cons, zrf_r (zO_lt hO)]
  refine va_zast hX.1 hX.2.1 hX.2.2.2.2.2.1 hS.2.1 (hX.2.2.2.2.2.2.1 h) hS.2.2 i 2 (zwl_at hO) rfl (zvp ha h0 h1) hdg (fun H1 locs1 hP hD hS1 => ?_)
  rw [← hn]
  refine kk p e R s m args below meth c H1 locs1 ls cells slots QQ hX hE ⟨hg, ?_, hS1⟩ hL hv2
  rw [← zwl_set hO]
  rw [zcl_nat ha] at hP
  have e0 : vp_nar .boolean (Int32.ofInt b) = Int32.ofInt b := by rcases hz with rfl | rfl <;> rfl
  rw [e0] at hP
  have e1 : zce E (zst h i a.toNat b) i (.inr (2, n)) = .inl (E.2.2.1.2.2, n, .inl (upd (fun q => Int32.ofInt (h i q)) a.toNat (Int32.ofInt b))) := by
    have e2 : (fun q => Int32.ofInt (zst h i a.toNat b i q)) = upd (fun q => Int32.ofInt (h i q)) a.toNat (Int32.ofInt b) := by
      funext q
      unfold zst
      by_cases hq : q = a.toNat
      · subst hq; simp [upd, vp_updL]
      · simp [upd, vp_updL, hq]
    rw [← e2]
    rfl
  rw [e1]
  exact hP
theorem z_alen {i n kd : Nat} (ho : zop M k = (48, 0, [])) (hO : zO[i]? = some (.inr (kd, n))) (hkd : kd < 3) (kk : zW l E d M (k + 1) L (.inl n :: S) h Q) : zW l E d M k L (.inr (.inr i) :: S) h Q := by
  intro p e R s m args below meth c H locs ls cells slots QQ hX hE hS hL hv
  obtain ⟨hdg, hn⟩ := zsim_x hX ho (by decide) rfl
  have hv2 := (zrv_c hv).2
  have hn0 : zI32 (n : Int) := by
    have h1 : zO.all (fun q => match q with | .inl _ => true | .inr q => decide (q.2 < 100000)) = true := by decide
    have h2 : n < 100000 := of_decide_eq_true (List.all_eq_true.mp h1 _ (List.mem_of_getElem? hO))
    unfold zI32
    omega
  have k1 := kk p e R s m args below meth c H locs ls cells slots QQ hX hE hS hL (zrv_k (v := .inl n) hn0 hv2)
  rw [List.map_cons, zrf_r (zO_lt hO)]
  rw [hn] at k1
  have h3 := zwl_at (E := E) (h := h) hO
  have e1 : Int32.ofNat n = Int32.ofInt (n : Int) := Int32.ofInt_eq_ofNat.symm
  rcases (by omega : kd = 0 ∨ kd = 1 ∨ kd = 2) with rfl | rfl | rfl
  · exact va_alen hX.1 hX.2.1 hX.2.2.2.2.2.1 hS.2.1 i 0 h3 rfl e1 hdg k1
  · exact va_alen hX.1 hX.2.1 hX.2.2.2.2.2.1 hS.2.1 i 1 h3 rfl e1 hdg k1
  · exact va_alen hX.1 hX.2.1 hX.2.2.2.2.2.1 hS.2.1 i 2 h3 rfl e1 hdg k1
/-- the classes' fields: types -/
def zTy : Nat → Nat → FieldType := fun ci => match ci with
  | 0 => tyX0
  | 1 => tyX1
  | 2 => tyX2
  | 3 => tyX3
  | 4 => tyX4
  | 5 => tyX5
  | 6 => tyX6
  | 7 => tyX7
  | 8 => tyX8
  | 9 => tyX9
  | 10 => tyX10
  | 11 => tyX11
  | _ => tyX12
theorem zcls_ok {ci : Nat} {q : vw_C} (hc : vwCl[ci]? = some q) : (∀ k, k < q.2.2 → parseFieldDescriptor (q.2.1 k).2.2.1 = some (zTy ci k)) ∧ (∀ a, a < q.2.2 → ∀ b, b < q.2.2 → a ≠ b → (q.2.1 a).2.1 ≠ (q.2.1 b).2.1) ∧ (∀ w ∈ u_ws q.1 q.2.1 q.2.2, w ∈ lw_tblg) := by
  match ci, hc with
  | 0, hc => cases hc; exact ⟨tyX0_ok, nmX0, fun w hw => List.mem_filter.mpr ⟨inX0 w hw, List.all_eq_true.mp (by decide +kernel : (u_ws RX0 TX0 1).all goodWord = true) w hw⟩⟩
  | 1, hc => cases hc; exact ⟨tyX1_ok, nmX1, fun w hw => List.mem_filter.mpr ⟨inX1 w hw, List.all_eq_true.mp (by decide +kernel : (u_ws RX1 TX1 5).all goodWord = true) w hw⟩⟩
  | 2, hc => cases hc; exact ⟨tyX2_ok, nmX2, fun w hw => List.mem_filter.mpr ⟨inX2 w hw, List.all_eq_true.mp (by decide +kernel : (u_ws RX2 TX2 4).all goodWord = true) w hw⟩⟩
  | 3, hc => cases hc; exact ⟨tyX3_ok, nmX3, fun w hw => List.mem_filter.mpr ⟨inX3 w hw, List.all_eq_true.mp (by decide +kernel : (u_ws RX3 TX3 7).all goodWord = true) w hw⟩⟩
  | 4, hc => cases hc; exact ⟨tyX4_ok, nmX4, fun w hw => List.mem_filter.mpr ⟨inX4 w hw, List.all_eq_true.mp (by decide +kernel : (u_ws RX4 TX4 7).all goodWord = true) w hw⟩⟩
  | 5, hc => cases hc; exact ⟨tyX5_ok, nmX5, fun w hw => List.mem_filter.mpr ⟨inX5 w hw, List.all_eq_true.mp (by decide +kernel : (u_ws RX5 TX5 12).all goodWord = true) w hw⟩⟩
  | 6, hc => cases hc; exact ⟨tyX6_ok, nmX6, fun w hw => List.mem_filter.mpr ⟨inX6 w hw, List.all_eq_true.mp (by decide +kernel : (u_ws RX6 TX6 1).all goodWord = true) w hw⟩⟩
  | 7, hc => cases hc; exact ⟨tyX7_ok, nmX7, fun w hw => List.mem_filter.mpr ⟨inX7 w hw, List.all_eq_true.mp (by decide +kernel : (u_ws RX7 TX7 3).all goodWord = true) w hw⟩⟩
  | 8, hc => cases hc; exact ⟨tyX8_ok, nmX8, fun w hw => List.mem_filter.mpr ⟨inX8 w hw, List.all_eq_true.mp (by decide +kernel : (u_ws RX8 TX8 3).all goodWord = true) w hw⟩⟩
  | 9, hc => cases hc; exact ⟨tyX9_ok, nmX9, fun w hw => List.mem_filter.mpr ⟨inX9 w hw, List.all_eq_true.mp (by decide +kernel : (u_ws RX9 TX9 3).all goodWord = true) w hw⟩⟩
  | 10, hc => cases hc; exact ⟨tyX10_ok, nmX10, fun w hw => List.mem_filter.mpr ⟨inX10 w hw, List.all_eq_true.mp (by decide +kernel : (u_ws RX10 TX10 14).all goodWord = true) w hw⟩⟩
  | 11, hc => cases hc; exact ⟨tyX11_ok, nmX11, fun w hw => List.mem_filter.mpr ⟨inX11 w hw, List.all_eq_true.mp (by decide +kernel : (u_ws RX11 TX11 11).all goodWord = true) w hw⟩⟩
  | 12, hc => cases hc; exact ⟨tyX12_ok, nmX12, fun w hw => List.mem_filter.mpr ⟨inX12 w hw, List.all_eq_true.mp (by decide +kernel : (u_ws RX12 TX12 33).all goodWord = true) w hw⟩⟩
/-- a field's word -/
def zfw (q : Nat × Nat × Nat × Nat × Bool) : Bool := match vwCl[q.2.2.1]? with
  | some r => decide (q.2.2.2.1 < r.2.2) && decide ((r.2.1 q.2.2.2.1).1 = r.1) && (if q.2.2.2.2 = true then decide (Jvm.Cond.fieldLinkNest (zcn q.1) q.2.1 r.1 (r.2.1 q.2.2.2.1).2.1 (r.2.1 q.2.2.2.1).2.2.1 "OxenHome" ∈ lw_tbl) else decide (Jvm.Cond.fieldLink (zcn q.1) q.2.1 r.1 (r.2.1 q.2.2.2.1).2.1 (r.2.1 q.2.2.2.1).2.2.1 ∈ lw_tbl))
  | none => false
theorem zFp_ok : zFp.all zfw = true := by decide +kernel
theorem zwl_rd {i ci f kd : Nat} {ks : List Nat} (hf : ks[f]? = some kd) : (ks.mapIdx (fun k kd => zfv E h i k kd))[f]? = some (zfv E h i f kd) := by
  rw [List.getElem?_mapIdx, hf]
  rfl
theorem z_getf0 {ix ci f i kd : Nat} {ks : List Nat} {v : zV} (ho : zop M k = (40, 0, [ix, ci, f])) (hO : zO[i]? = some (.inl (ci, ks))) (hf : ks[f]? = some kd) (hr : zRg h → zrv v) (hz : zfv E h i f kd = zup E v) (kk : zW l E d M (k + 1) L (v :: S) h Q) : zW l E d M k L (.inr (.inr i) :: S) h Q := by
  intro p e R s m args below meth c H locs ls cells slots QQ hX hE hS hL hv
  have hck : (zdc M k 3 (.getfield ix) && (zFp.contains ((zhd M).1, ix, ci, f, false) || zFp.contains ((zhd M).1, ix, ci, f, true))) = true := zck_at hX.2.2.2.2.2.2.2.1 ho (by decide : (40 : Nat) ≠ 999)
  obtain ⟨hck, hfp⟩ := (Bool.and_eq_true _ _).mp hck
  obtain ⟨hdg, hn⟩ := zdc_at hck
  have hv2 := (zrv_c hv).2
  have k1 := kk p e R s m args below meth c H locs ls cells slots QQ hX hE hS hL (zrv_k (hr hS.1) hv2)
  rw [List.map_cons, zrf_r (zO_lt hO)]
  rw [hn, List.map_cons, ← hz] at k1
  have h3 := zwl_at (E := E) (h := h) hO
  rcases (Bool.or_eq_true _ _).mp hfp with q | q
  · have hw := List.all_eq_true.mp zFp_ok _ (List.contains_iff_mem.mp q)
    unfold zfw at hw
    cases hc : vwCl[ci]? with
    | none => simp only [hc] at hw; cases hw
    | some r =>
      simp only [hc, Bool.false_eq_true, if_false, Bool.and_eq_true, decide_eq_true_eq] at hw
      obtain ⟨t1, t2, t3⟩ := zcls_ok hc
      exact va_get (C := r.1) (T := r.2.1) (N := r.2.2) (ref := r.1) hX.1 hX.2.1 hX.2.2.2.2.1 t3 hX.2.2.2.1 hX.2.2.2.2.2.1 hS.2.1 i h3 hc f hw.1.1 (hX.2.2.2.2.1 _ (List.mem_filter.mpr ⟨hw.2, rfl⟩)) (fun x hx => by rw [hw.1.2] at hx; exact hx) (zwl_rd (ci := ci) hf) hdg k1
  · have hw := List.all_eq_true.mp zFp_ok _ (List.contains_iff_mem.mp q)
    unfold zfw at hw
    cases hc : vwCl[ci]? with
    | none => simp only [hc] at hw; cases hw
    | some r =>
      simp only [hc, if_true, Bool.and_eq_true, decide_eq_true_eq] at hw
      obtain ⟨t1, t2, t3⟩ := zcls_ok hc
      exact va_getN (C := r.1) (T := r.2.1) (N := r.2.2) (ref := r.1) (host := "OxenHome") hX.1 hX.2.1 hX.2.2.2.2.1 t3 hX.2.2.2.1 hX.2.2.2.2.2.1 hS.2.1 i h3 hc f hw.1.1 (zNw_use rfl (hX.2.2.2.2.2.2.2.2.2.2.1.2.2.2.2.2.2.2.2 _ hw.2 rfl)) (fun x hx => by rw [hw.1.2] at hx; exact hx) (zwl_rd (ci := ci) hf) hdg k1
theorem z_geti {ix ci f i kd : Nat} {ks : List Nat} (ho : zop M k = (40, 0, [ix, ci, f])) (hO : zO[i]? = some (.inl (ci, ks))) (hf : ks[f]? = some kd) (hk : (decide (kd < 3) && decide (kd ≠ 1)) = true) (kk : zW l E d M (k + 1) L (.inl (h i f) :: S) h Q) : zW l E d M k L (.inr (.inr i) :: S) h Q := by
  simp only [Bool.and_eq_true, decide_eq_true_eq] at hk
  exact z_getf0 (v := .inl (h i f)) ho hO hf (fun hr => zRg_i hr (by rw [zlg_f hO hf]; simp [hk.2])) (by unfold zfv; rw [if_neg hk.2, if_pos hk.1]; rfl) kk
theorem z_getl {ix ci f i : Nat} {ks : List Nat} (ho : zop M k = (40, 0, [ix, ci, f])) (hO : zO[i]? = some (.inl (ci, ks))) (hf : ks[f]? = some 1) (kk : zW l E d M (k + 1) L (.inr (.inl (h i f)) :: S) h Q) : zW l E d M k L (.inr (.inr i) :: S) h Q :=
  z_getf0 (v := .inr (.inl (h i f))) ho hO hf (fun hr => zRg_l hr (by rw [zlg_f hO hf]; rfl)) (by unfold zfv; rw [if_pos rfl]; rfl) kk
theorem z_getr {ix ci f i r : Nat} {ks : List Nat} (ho : zop M k = (40, 0, [ix, ci, f])) (hO : zO[i]? = some (.inl (ci, ks))) (hf : ks[f]? = some (3 + r)) (hr : decide (r < 1005) = true) (kk : zW l E d M (k + 1) L (.inr (.inr r) :: S) h Q) : zW l E d M k L (.inr (.inr i) :: S) h Q :=
  z_getf0 (v := .inr (.inr r)) ho hO hf (fun _ => trivial) (by have := of_decide_eq_true hr; unfold zfv; rw [if_neg (by omega), if_neg (by omega), zrf_r this]; congr 2; omega) kk
theorem zwl_wr {i ci f : Nat} {ks : List Nat} {v : Int} {kd : Nat} (hf : ks[f]? = some kd) : (ks.mapIdx (fun k kd => zfv E h i k kd)).set f (zfv E (zst h i f v) i f kd) = ks.mapIdx (fun k kd => zfv E (zst h i f v) i k kd) := by
  apply List.ext_getElem?
  intro j
  rw [List.getElem?_set, List.getElem?_mapIdx, List.getElem?_mapIdx]
  by_cases hj : f = j
  · subst hj
    have h1 := (List.getElem?_eq_some_iff.mp hf).1
    rw [if_pos rfl, if_pos (by rw [List.length_mapIdx]; exact h1), hf]
    rfl
  · rw [if_neg hj]
    have e : zst h i f v i j = h i j := by unfold zst; rw [if_neg (fun q => hj q.2.symm)]
    simp only [zfv, e]
theorem z_putf0 {ix ci f i kd : Nat} {ks : List Nat} {a : Int} {v : zV} (ty : FieldType) (ho : zop M k = (41, 0, [ix, ci, f])) (hO : zO[i]? = some (.inl (ci, ks))) (hf : ks[f]? = some kd) (hfin : ∀ r, vwCl[ci]? = some r → (r.2.1 f).2.2.2 = false ∧ zTy ci f = ty) (hr : zrv v → zRg h → zRg (zst h i f a)) (hz : zfv E (zst h i f a) i f kd = zup E v)
    (hnar : zrv v → narrow ty (zup E v) = zup E v ∧ fits ty (zup E v) = true) (kk : zW l E d M (k + 1) L S (zst h i f a) Q) : zW l E d M k L (v :: .inr (.inr i) :: S) h Q := by
  intro p e R s m args below meth c H locs ls cells slots QQ hX hE hS hL hv
  have hck : (zdc M k 3 (.putfield ix) && (zFp.contains ((zhd M).1, ix, ci, f, false) || zFp.contains ((zhd M).1, ix, ci, f, true))) = true := zck_at hX.2.2.2.2.2.2.2.1 ho (by decide : (41 : Nat) ≠ 999)
  obtain ⟨hck, hfp⟩ := (Bool.and_eq_true _ _).mp hck
  obtain ⟨hdg, hn⟩ := zdc_at hck
  have hv1 := (zrv_c hv).1
  have hv2 := (zrv_c (zrv_c hv).2).2
  obtain ⟨n1, n2⟩ := hnar hv1
  rw [List.map_cons, List.map_cons, zrf_r (zO_lt hO)]
  have h3 := zwl_at (E := E) (h := h) hO
  have hlen : f < (ks.mapIdx (fun k kd => zfv E h i k kd)).length := by rw [List.length_mapIdx]; exact (List.getElem?_eq_some_iff.mp hf).1
  have fin : ∀ (H1 : Heap) (locs1 : List Loc), va_P (zgD E) vwCl ((zwl E h).set i (zad E i, .inr (ci, (ks.mapIdx (fun k kd => zfv E h i k kd)).set f (zup E v)))) H1 → va_S (zA E) s.heap H1 locs1 → W p l e R s m args below meth c H1 locs1 cells slots QQ (F0 m (zpc M k + 3) ls (S.map (zup E))) := by
    intro H1 locs1 hP hS1
    rw [← hn]
    refine kk p e R s m args below meth c H1 locs1 ls cells slots QQ hX hE ⟨hr hv1 hS.1, ?_, hS1⟩ hL hv2
    rw [← zwl_set hO]
    have e1 : zce E (zst h i f a) i (.inl (ci, ks)) = .inr (ci, (ks.mapIdx (fun k kd => zfv E h i k kd)).set f (zup E v)) := by
      rw [← hz, zwl_wr (ci := ci) hf]
      rfl
    rw [e1]
    exact hP
  rcases (Bool.or_eq_true _ _).mp hfp with q | q
  · have hw := List.all_eq_true.mp zFp_ok _ (List.contains_iff_mem.mp q)
    unfold zfw at hw
    cases hc : vwCl[ci]? with
    | none => simp only [hc] at hw; cases hw
    | some r =>
      simp only [hc, Bool.false_eq_true, if_false, Bool.and_eq_true, decide_eq_true_eq] at hw
      obtain ⟨t1, t2, t3⟩ := zcls_ok hc
      obtain ⟨f1, f2⟩ := hfin r hc
      exact va_put (C := r.1) (T := r.2.1) (N := r.2.2) (ref := r.1) hX.1 hX.2.1 hX.2.2.2.2.1 t3 (zTy ci) t1 t2 hX.2.2.2.1 hX.2.2.2.2.2.1 hS.2.1 (hX.2.2.2.2.2.2.1 h) hS.2.2 i h3 hc f hw.1.1 (hX.2.2.2.2.1 _ (List.mem_filter.mpr ⟨hw.2, rfl⟩)) (fun x hx => by rw [hw.1.2] at hx; exact hx) f1 (ty := ty) (by rw [← f2]; exact t1 f hw.1.1) n1 n2 hlen hdg (fun H1 locs1 hP hD hS1 => fin H1 locs1 hP hS1)
  · have hw := List.all_eq_true.mp zFp_ok _ (List.contains_iff_mem.mp q)
    unfold zfw at hw
    cases hc : vwCl[ci]? with
    | none => simp only [hc] at hw; cases hw
    | some r =>
      simp only [hc, if_true, Bool.and_eq_true, decide_eq_true_eq] at hw
      obtain ⟨t1, t2, t3⟩ := zcls_ok hc
      obtain ⟨f1, f2⟩ := hfin r hc
      exact va_putN (C := r.1) (T := r.2.1) (N := r.2.2) (ref := r.1) (host := "OxenHome") hX.1 hX.2.1 hX.2.2.2.2.1 t3 (zTy ci) t1 t2 hX.2.2.2.1 hX.2.2.2.2.2.1 hS.2.1 (hX.2.2.2.2.2.2.1 h) hS.2.2 i h3 hc f hw.1.1 (zNw_use rfl (hX.2.2.2.2.2.2.2.2.2.2.1.2.2.2.2.2.2.2.2 _ hw.2 rfl)) (fun x hx => by rw [hw.1.2] at hx; exact hx) f1 (ty := ty) (by rw [← f2]; exact t1 f hw.1.1) n1 n2 hlen hdg (fun H1 locs1 hP hD hS1 => fin H1 locs1 hP hS1)
/-- a field that may be written: its kind is its type's -/
def zfk (ci f kd : Nat) : Bool := match vwCl[ci]? with
  | some r => decide ((r.2.1 f).2.2.2 = false) && decide (zTy ci f = (if kd = 0 then .int else if kd = 1 then .long else .boolean))
  | none => false
theorem zfk_at {ci f kd : Nat} (hk : zfk ci f kd = true) : ∀ r, vwCl[ci]? = some r → (r.2.1 f).2.2.2 = false ∧ zTy ci f = (if kd = 0 then .int else if kd = 1 then .long else .boolean) := by
  intro r hr
  unfold zfk at hk
  simp only [hr, Bool.and_eq_true, decide_eq_true_eq] at hk
  exact hk
theorem z_puti {ix ci f i : Nat} {ks : List Nat} {a : Int} (ho : zop M k = (41, 0, [ix, ci, f])) (hO : zO[i]? = some (.inl (ci, ks))) (hf : ks[f]? = some 0) (hk : zfk ci f 0 = true) (kk : zW l E d M (k + 1) L S (zst h i f a) Q) : zW l E d M k L (.inl a :: .inr (.inr i) :: S) h Q :=
  z_putf0 .int ho hO hf (zfk_at hk) (fun hv hr => zRg_st hr (by rw [zlg_f hO hf]; exact hv) (fun q => by rw [zbl_f hO hf] at q; cases q)) (by unfold zfv; rw [if_neg (by decide), if_pos (by decide)]; simp [zst, zup]) (fun _ => ⟨rfl, rfl⟩) kk
theorem z_putl {ix ci f i : Nat} {ks : List Nat} {a : Int} (ho : zop M k = (41, 0, [ix, ci, f])) (hO : zO[i]? = some (.inl (ci, ks))) (hf : ks[f]? = some 1) (hk : zfk ci f 1 = true) (kk : zW l E d M (k + 1) L S (zst h i f a) Q) : zW l E d M k L (.inr (.inl a) :: .inr (.inr i) :: S) h Q :=
  z_putf0 .long ho hO hf (zfk_at hk) (fun hv hr => zRg_st hr (by rw [zlg_f hO hf]; exact hv) (fun q => by rw [zbl_f hO hf] at q; cases q)) (by unfold zfv; rw [if_pos (by decide)]; simp [zst, zup]) (fun _ => ⟨rfl, rfl⟩) kk
theorem z_putz {ix ci f i : Nat} {ks : List Nat} {a : Int} (ho : zop M k = (41, 0, [ix, ci, f])) (hO : zO[i]? = some (.inl (ci, ks))) (hf : ks[f]? = some 2) (hk : zfk ci f 2 = true) (hz : a = 0 ∨ a = 1) (kk : zW l E d M (k + 1) L S (zst h i f a) Q) : zW l E d M k L (.inl a :: .inr (.inr i) :: S) h Q :=
  z_putf0 .boolean ho hO hf (zfk_at hk) (fun hv hr => zRg_st hr (by rw [zlg_f hO hf]; exact hv) (fun _ => hz)) (by unfold zfv; rw [if_neg (by decide), if_pos (by decide)]; simp [zst, zup]) (fun _ => by rcases hz with rfl | rfl <;> exact ⟨rfl, rfl⟩) kk
theorem z_switch {a lo : Int} {ts : List Nat} (ho : zop M k = (39, lo, ts)) (hlo : zI32 lo) (hn : 1 ≤ ts.length)
    (kd : a < lo ∨ lo + ts.length - 2 < a → zW l E d M (zg ts 0) L S h Q) (kt : ∀ j t : Nat, (ts.drop 1)[j]? = some t → a = lo + j → zW l E d M t L S h Q) : zW l E d M k L (.inl a :: S) h Q := by
  intro p e R s m args below meth c H locs ls cells slots QQ hX hE hS hL hv
  have hck : decide (decode (zby M) (zpc M k) = .ok (.tableswitch (zoff M k (zg ts 0)) lo (lo + (ts.length : Int) - 2) ((ts.drop 1).map (zoff M k)).toArray, zpc M (k + 1) - zpc M k)) = true := zck_at hX.2.2.2.2.2.2.2.1 ho (by decide : (39 : Nat) ≠ 999)
  have hdg := of_decide_eq_true hck
  have ha : zI32 a := (zrv_c hv).1
  have hv2 := (zrv_c hv).2
  have e1 : (Int32.ofInt a).toInt = a := w32_t ha
  by_cases q : a < lo ∨ lo + ts.length - 2 < a
  · exact lv_tableOut hX.1 hX.2.1 hdg (by rw [e1]; exact q) (zoff_at M k _) (kd q p e R s m args below meth c H locs ls cells slots QQ hX hE hS hL hv2)
  · have q1 : ¬ a < lo := fun z => q (Or.inl z)
    have q2 : ¬ lo + ts.length - 2 < a := fun z => q (Or.inr z)
    have hj : (a - lo).toNat < (ts.drop 1).length := by rw [List.length_drop]; omega
    obtain ⟨t, ht⟩ : ∃ t, (ts.drop 1)[(a - lo).toNat]? = some t := ⟨_, List.getElem?_eq_getElem hj⟩
    refine lv_tableIn (off := zoff M k t) hX.1 hX.2.1 hdg (by rw [e1]; exact q1) (by rw [e1]; exact q2) ?_ (zoff_at M k t) (kt (a - lo).toNat t ht (by omega) p e R s m args below meth c H locs ls cells slots QQ hX hE hS hL hv2)
    rw [e1, List.getElem?_toArray, List.getElem?_map, ht]
    rfl
theorem zret0 (hi : ∀ (p : Program) (R : Room) (s : State) (m : MethodId) (args : Array Value) (c : Code) (cells slots : Nat), zX E d M p R s m args c cells slots → decode (zby M) (zpc M k) = .ok (zri M, 1)) {r : Int} (hr : (∀ v ∈ S, zrv v) → zRr M r) (hs : S.map (zup E) = zrs M r) (hq : Q r h) : zW l E d M k L S h Q := by
  intro p e R s m args below meth c H locs ls cells slots QQ hX hE hS hL hv
  rw [hs]
  exact hE r h H locs _ ls hS (hr hv) hq (hi p R s m args c cells slots hX)
theorem z_ret {r : Int} {M : zMeth} (ho : zop M k = (53, 0, [])) (ht : zrt M = none) (hr : r = 0) (hq : Q r h) : zW l E d M k L [] h Q :=
  zret0 (fun p R s m args c cells slots hX => by
    have hck : decide (decode (zby M) (zpc M k) = .ok (.return_, 1)) = true := zck_at hX.2.2.2.2.2.2.2.1 ho (by decide : (53 : Nat) ≠ 999)
    unfold zri; rw [ht]; exact of_decide_eq_true hck) (fun _ => by unfold zRr; rw [ht]; exact hr) (by unfold zrs; rw [ht]; rfl) hq
theorem z_lret {r : Int} {M : zMeth} (ho : zop M k = (52, 0, [])) (ht : zrt M = some .long) (hq : Q r h) : zW l E d M k L [.inr (.inl r)] h Q :=
  zret0 (fun p R s m args c cells slots hX => by
    have hck : decide (decode (zby M) (zpc M k) = .ok (.lreturn, 1)) = true := zck_at hX.2.2.2.2.2.2.2.1 ho (by decide : (52 : Nat) ≠ 999)
    unfold zri; rw [ht]; exact of_decide_eq_true hck) (fun hv => by unfold zRr; rw [ht]; exact (zrv_c hv).1) (by unfold zrs; rw [ht]; rfl) hq
theorem z_iret {r : Int} {M : zMeth} (ho : zop M k = (51, 0, [])) (ht : zrt M = some .int) (hq : Q r h) : zW l E d M k L [.inl r] h Q :=
  zret0 (fun p R s m args c cells slots hX => by
    have hck : decide (decode (zby M) (zpc M k) = .ok (.ireturn, 1)) = true := zck_at hX.2.2.2.2.2.2.2.1 ho (by decide : (51 : Nat) ≠ 999)
    unfold zri; rw [ht]; exact of_decide_eq_true hck) (fun hv => by unfold zRr; rw [ht]; exact ⟨(zrv_c hv).1, rfl⟩) (by unfold zrs; rw [ht]; rfl) hq
theorem z_zret {r : Int} {M : zMeth} (ho : zop M k = (51, 0, [])) (ht : zrt M = some .boolean) (hz : r = 0 ∨ r = 1) (hq : Q r h) : zW l E d M k L [.inl r] h Q :=
  zret0 (fun p R s m args c cells slots hX => by
    have hck : decide (decode (zby M) (zpc M k) = .ok (.ireturn, 1)) = true := zck_at hX.2.2.2.2.2.2.2.1 ho (by decide : (51 : Nat) ≠ 999)
    unfold zri; rw [ht]; exact of_decide_eq_true hck) (fun hv => by unfold zRr; rw [ht]; exact ⟨(zrv_c hv).1, by rcases hz with rfl | rfl <;> rfl⟩) (by unfold zrs; rw [ht]; rfl) hq
theorem zRr_z {M : zMeth} {r : Int} (ht : zrt M = some .boolean) (h : zRr M r) : r = 0 ∨ r = 1 := by
  unfold zRr at h
  rw [ht] at h
  obtain ⟨hr, hn⟩ := h
  have h1 : narrow .boolean (.int (Int32.ofInt r)) = .int (Int32.ofInt r &&& 1) := rfl
  rw [h1] at hn
  have h2 : Int32.ofInt r &&& 1 = Int32.ofInt r := by injection hn
  obtain ⟨j, hj, e⟩ := pk_andE (Int32.ofInt r) (m := 1) 1 rfl
  rw [h2] at e
  have h3 : r = (j : Int) := by
    have : (Int32.ofInt r).toInt = (nI j).toInt := by rw [e]
    rwa [w32_t hr, nI_toInt (by omega)] at this
  omega
end ZM
