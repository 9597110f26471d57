/-! the constructors' steps on cells -/
def zgR1 (c : zGc) : Prop := match c with
  | .inl q => ∀ v, some v ∈ q.2 → zrv v
  | .inr q => q.2.1 < 100000 ∧ ∀ x ∈ q.2.2, zI32 x.2
def zgR (g : List zGc) : Prop := (∀ c ∈ g, zgR1 c) ∧ ∀ c ∈ g, zgwc g.length c = true
def zgJ (E : zE) (as : List Nat) (g : List zGc) (s : State) (H : Heap) (locs : List Loc) : Prop := (as.length = g.length ∧ zgR g) ∧ va_P (zgD E) vwCl (zgwl (zEa E as) g) H ∧ va_D (zA E) (zgwl (zEa E as) g) ∧ va_S (zA E) s.heap H locs
def zgck2 (o : zI) (M : zMeth) : Bool := match o.1 with
  | 40 => zFp.contains ((zhd M).1, zg o.2.2 0, zg o.2.2 1, zg o.2.2 2, false)
  | 41 => zFp.contains ((zhd M).1, zg o.2.2 0, zg o.2.2 1, zg o.2.2 2, false) && (zhd M).1 == zg o.2.2 1
  | _ => true
theorem zgc2_ok : zGm.all (fun M => (List.range M.2.length).all (fun k => zgck2 (zop M k) M)) = true := by decide +kernel
def zfkd : FieldType → Nat
  | .int => 0
  | .long => 1
  | .boolean => 2
  | .object _ => 3
  | .array _ => 3
  | _ => 9
theorem zgt_ok : (List.range 13).all (fun ci => (List.range ((zGn[ci]?).getD []).length).all (fun z => zfkd (zTy ci z) == zg ((zGn[ci]?).getD []) z)) = true := by decide +kernel
theorem zgt_at {ci z : Nat} (h : ci < 13) (hz : z < ((zGn[ci]?).getD []).length) : zfkd (zTy ci z) = zg ((zGn[ci]?).getD []) z := by
  have h1 := List.all_eq_true.mp zgt_ok ci (List.mem_range.mpr h)
  exact beq_iff_eq.mp (List.all_eq_true.mp h1 z (List.mem_range.mpr hz))
theorem zgn_ok {ci : Nat} (h : ci < 13) : (vwCl[ci]?).map (fun r => r.2.2) = some ((zGn[ci]?).getD []).length := by
  match ci, h with
  | 0, _ | 1, _ | 2, _ | 3, _ | 4, _ | 5, _ | 6, _ | 7, _ | 8, _ | 9, _ | 10, _ | 11, _ | 12, _ => rfl
theorem zgnm_ok {ci : Nat} {r : vw_C} (hc : vwCl[ci]? = some r) : r.1 = zcn ci := by
  have h8 : ∀ ci, ci < 13 → (vwCl[ci]?).map (·.1) = zcns[ci]? := by
    intro ci hci
    match ci, hci with
    | 0, _ | 1, _ | 2, _ | 3, _ | 4, _ | 5, _ | 6, _ | 7, _ | 8, _ | 9, _ | 10, _ | 11, _ | 12, _ => rfl
  have h2 := h8 ci (by have := (List.getElem?_eq_some_iff.mp hc).1; exact this)
  rw [hc] at h2
  unfold zcn
  rw [← h2]
  rfl
section ZG
variable {p : Program} {l : Launch} {e : Env} {R : Room} {s : State} {m : MethodId} {args : Array Value} {below : List Frame} {meth : Method} {c : Code} {H : Heap} {locs : List Loc} {cells slots : Nat} {QQ : State → Prop} {M : zMeth} {k : Nat} {ls : Array Slot} {st : List Value} {n : Int} {ix : List Nat} {E : zE} {as : List Nat} {g : List zGc}
theorem g_get {r ci z : Nat} {fs : List zGf} {v : zV} (hx : p.tables.exec = Jvm.exec) (hb : c.code = zby M) (hc : zchk M = true) (hw : ∀ w ∈ lw_tblg, w.before args s = true) (hown : s.vm.findClass (zcl M) = some m.cls) (hK : va_K (zgD E) vwCl (ztys E) s) (hJ : zgJ E as g s H locs) (ho : zop M k = (40, n, ix)) (hF : zFp.contains ((zhd M).1, zg ix 0, zg ix 1, zg ix 2, false) = true) (hg : g[r]? = some (.inl (zg ix 1, fs))) (hf : fs[zg ix 2]? = some (some v)) (h1 : W p l e R s m args below meth c H locs cells slots QQ (F0 m (zpc M (k + 1)) ls (zup (zEa E as) v :: st))) : W p l e R s m args below meth c H locs cells slots QQ (F0 m (zpc M k) ls (.ref (zad (zEa E as) r) :: st)) := by
  have hck : (zdc M k 3 (.getfield (zg ix 0)) && (zFp.contains ((zhd M).1, zg ix 0, zg ix 1, zg ix 2, false) || zFp.contains ((zhd M).1, zg ix 0, zg ix 1, zg ix 2, true))) = true := zck_at hc ho (by decide : (40 : Nat) ≠ 999)
  obtain ⟨hck, -⟩ := (Bool.and_eq_true _ _).mp hck
  obtain ⟨hdg, hn⟩ := zdc_at hck
  rw [hn] at h1
  have h3 := zgwl_at (E := zEa E as) hg
  have hw2 := List.all_eq_true.mp zFp_ok _ (List.contains_iff_mem.mp hF)
  unfold zfw at hw2
  cases hcl : vwCl[zg ix 1]? with
  | none => simp only [hcl] at hw2; cases hw2
  | some r =>
    simp only [hcl, Bool.false_eq_true, if_false, Bool.and_eq_true, decide_eq_true_eq] at hw2
    obtain ⟨t1, t2, t3⟩ := zcls_ok hcl
    exact va_get (C := r.1) (T := r.2.1) (N := r.2.2) (ref := r.1) hx hb hw t3 hown hK hJ.2.1 _ h3 hcl (zg ix 2) hw2.1.1 (hw _ (List.mem_filter.mpr ⟨hw2.2, rfl⟩)) (fun x hx => by rw [hw2.1.2] at hx; exact hx) (by rw [List.getElem?_map, hf]; rfl) hdg h1
theorem g_iald {r N : Nat} {a : Int} {w : List (Nat × Int)} (hx : p.tables.exec = Jvm.exec) (hb : c.code = zby M) (hc : zchk M = true) (hK : va_K (zgD E) vwCl (ztys E) s) (hJ : zgJ E as g s H locs) (ho : zop M k = (42, n, ix)) (hg : g[r]? = some (.inr (0, N, w))) (ha : zI32 a) (h0 : 0 ≤ a) (hN : a < N) (h1 : W p l e R s m args below meth c H locs cells slots QQ (F0 m (zpc M (k + 1)) ls (.int (Int32.ofInt (zgl w a.toNat)) :: st))) : W p l e R s m args below meth c H locs cells slots QQ (F0 m (zpc M k) ls (.int (Int32.ofInt a) :: .ref (zad (zEa E as) r) :: st)) := by
  have hck : zdc M k 1 .iaload = true := zck_at hc ho (by decide : (42 : Nat) ≠ 999)
  obtain ⟨hdg, hn⟩ := zdc_at hck
  rw [hn] at h1
  have h3 := zgwl_at (E := zEa E as) hg
  refine va_iald hx hb hK hJ.2.1 r 0 h3 rfl (zvp ha h0 hN) hdg ?_
  rw [zcl_nat ha]
  exact h1
theorem zgR_set {g : List zGc} {r : Nat} {c : zGc} (h : zgR g) (hc : zgR1 c) (hc2 : zgwc g.length c = true) : zgR (g.set r c) := by
  refine ⟨fun x hx => ?_, fun x hx => ?_⟩
  · rcases List.mem_or_eq_of_mem_set hx with q | q
    · exact h.1 x q
    · rw [q]; exact hc
  · rw [List.length_set]
    rcases List.mem_or_eq_of_mem_set hx with q | q
    · exact h.2 x q
    · rw [q]; exact hc2
theorem zgwv_mono {n n' : Nat} {v : zV} (h : zgwv n v = true) (hn : n ≤ n') : zgwv n' v = true := by
  match v, h with
  | .inl a, _ => rfl
  | .inr (.inl a), _ => rfl
  | .inr (.inr r), h =>
    have h1 : r < n := of_decide_eq_true h
    exact decide_eq_true (show r < n' by omega)
theorem zgwc_mono {n n' : Nat} {c : zGc} (h : zgwc n c = true) (hn : n ≤ n') : zgwc n' c = true := by
  match c, h with
  | .inl q, h =>
    refine List.all_eq_true.mpr (fun f hf => ?_)
    have h1 := List.all_eq_true.mp (show q.2.all _ = true from h) f hf
    cases f with
    | none => rfl
    | some v => exact zgwv_mono h1 hn
  | .inr q, _ => rfl
theorem zgR_app {g : List zGc} {c : zGc} (h : zgR g) (hc : zgR1 c) (hc2 : zgwc g.length c = true) : zgR (g ++ [c]) := by
  refine ⟨fun x hx => ?_, fun x hx => ?_⟩
  · rcases List.mem_append.mp hx with q | q
    · exact h.1 x q
    · rw [List.mem_singleton.mp q]; exact hc
  · rw [List.length_append]
    rcases List.mem_append.mp hx with q | q
    · exact zgwc_mono (h.2 x q) (by omega)
    · rw [List.mem_singleton.mp q]; exact zgwc_mono hc2 (by omega)
theorem zgl_cons {w : List (Nat × Int)} {a : Int} {i : Nat} (j : Nat) : zgl ((i, a) :: w) j = if j = i then a else zgl w j := by
  unfold zgl
  rw [List.find?_cons]
  by_cases q : j = i
  · subst q
    simp
  · have : ((i == j) : Bool) = false := by rw [beq_eq_false_iff_ne]; exact fun z => q z.symm
    simp only [this, if_neg q]
theorem g_iast {r N : Nat} {a b : Int} {w : List (Nat × Int)} (hx : p.tables.exec = Jvm.exec) (hb : c.code = zby M) (hc : zchk M = true) (hK : va_K (zgD E) vwCl (ztys E) s) (hJ : zgJ E as g s H locs) (ho : zop M k = (43, n, ix)) (hg : g[r]? = some (.inr (0, N, w))) (ha : zI32 a) (hb0 : zI32 b) (h0 : 0 ≤ a) (hN : a < N) (h1 : ∀ H1 locs1, zgJ E as (g.set r (.inr (0, N, (if b = zgl w a.toNat then w else (a.toNat, b) :: w)))) s H1 locs1 → W p l e R s m args below meth c H1 locs1 cells slots QQ (F0 m (zpc M (k + 1)) ls st)) : W p l e R s m args below meth c H locs cells slots QQ (F0 m (zpc M k) ls (.int (Int32.ofInt b) :: .int (Int32.ofInt a) :: .ref (zad (zEa E as) r) :: st)) := by
  have hck : zdc M k 1 .iastore = true := zck_at hc ho (by decide : (43 : Nat) ≠ 999)
  obtain ⟨hdg, hn⟩ := zdc_at hck
  have h3 := zgwl_at (E := zEa E as) hg
  have hw : N < 100000 ∧ ∀ x ∈ w, zI32 x.2 := hJ.1.2.1 _ (List.mem_of_getElem? hg)
  refine va_iast hx hb hK hJ.2.1 hJ.2.2.1 hJ.2.2.2 r 0 h3 rfl (zvp ha h0 hN) hdg (fun H1 locs1 hP hD hS1 => ?_)
  rw [← hn]
  have e1 : (zad (zEa E as) r, (Sum.inl (E.2.2.1.1, N, .inl (upd (fun i => Int32.ofInt (zgl w i)) (Int32.ofInt a).toNatClampNeg (Int32.ofInt b))) : va_E)) = (zad (zEa E as) r, zgcl (zEa E as) (.inr (0, N, (if b = zgl w a.toNat then w else (a.toNat, b) :: w)))) := by
    rw [zcl_nat ha]
    have e2 : upd (fun i => Int32.ofInt (zgl w i)) a.toNat (Int32.ofInt b) = fun i => Int32.ofInt (zgl (if b = zgl w a.toNat then w else (a.toNat, b) :: w) i) := by
      funext j
      by_cases q2 : b = zgl w a.toNat
      · rw [if_pos q2]
        by_cases q : j = a.toNat
        · rw [q, ← q2]; simp [upd, vp_updL]
        · simp [upd, vp_updL, q]
      · rw [if_neg q2, zgl_cons]
        by_cases q : j = a.toNat
        · rw [if_pos q, q]; simp [upd, vp_updL]
        · rw [if_neg q]; simp [upd, vp_updL, q]
    rw [e2]
    rfl
  have e3 : (zgwl (zEa E as) g).set r (zad (zEa E as) r, (Sum.inl (E.2.2.1.1, N, .inl (upd (fun i => Int32.ofInt (zgl w i)) (Int32.ofInt a).toNatClampNeg (Int32.ofInt b))) : va_E)) = zgwl (zEa E as) (g.set r (.inr (0, N, (if b = zgl w a.toNat then w else (a.toNat, b) :: w)))) := by
    rw [e1, zgwl_set]
  refine h1 H1 locs1 ⟨⟨by rw [List.length_set]; exact hJ.1.1, zgR_set hJ.1.2 ⟨hw.1, ?_⟩ rfl⟩, ?_, ?_, hS1⟩
  · intro x hx
    split at hx
    · exact hw.2 x hx
    · rcases List.mem_cons.mp hx with q | q
      · rw [q]; exact hb0
      · exact hw.2 x q
  · rw [← e3]; exact hP
  · rw [← e3]; exact hD
theorem g_alen {r N kd : Nat} {w : List (Nat × Int)} (hx : p.tables.exec = Jvm.exec) (hb : c.code = zby M) (hc : zchk M = true) (hK : va_K (zgD E) vwCl (ztys E) s) (hJ : zgJ E as g s H locs) (ho : zop M k = (48, n, ix)) (hg : g[r]? = some (.inr (kd, N, w))) (h1 : W p l e R s m args below meth c H locs cells slots QQ (F0 m (zpc M (k + 1)) ls (.int (Int32.ofInt (N : Int)) :: st))) : W p l e R s m args below meth c H locs cells slots QQ (F0 m (zpc M k) ls (.ref (zad (zEa E as) r) :: st)) := by
  have hck : zdc M k 1 .arraylength = true := zck_at hc ho (by decide : (48 : Nat) ≠ 999)
  obtain ⟨hdg, hn⟩ := zdc_at hck
  rw [hn] at h1
  have h3 := zgwl_at (E := zEa E as) hg
  have e1 : Int32.ofNat N = Int32.ofInt (N : Int) := Int32.ofInt_eq_ofNat.symm
  unfold zgcl at h3
  by_cases q : kd = 1
  · simp only [if_pos q] at h3
    exact va_alen hx hb hK hJ.2.1 r 1 h3 rfl e1 hdg h1
  · simp only [if_neg q] at h3
    by_cases q2 : kd = 0
    · simp only [if_pos q2] at h3
      exact va_alen hx hb hK hJ.2.1 r 0 h3 rfl e1 hdg h1
    · simp only [if_neg q2] at h3
      exact va_alen hx hb hK hJ.2.1 r 2 h3 rfl e1 hdg h1
end ZG
