/-! the constructors' steps: fields written, cells made -/
theorem zgkv_or {kd : Nat} {v : zV} (h : zgkv kd v = true) : (kd = 0 ∧ ∃ a, v = .inl a) ∨ (kd = 3 ∧ ∃ i, v = .inr (.inr i)) := by
  unfold zgkv at h
  split at h
  · exact Or.inl ⟨rfl, _, rfl⟩
  · exact Or.inr ⟨rfl, _, rfl⟩
  · cases h
theorem zfkd_0 : ∀ ty : FieldType, zfkd ty = 0 → ty = .int := by
  intro ty h
  cases ty <;> first | rfl | (cases h)
theorem zfkd_3 : ∀ ty : FieldType, zfkd ty = 3 → ∀ q : Addr, narrow ty (.ref q) = .ref q ∧ fits ty (.ref q) = true := by
  intro ty h q
  cases ty <;> first | exact ⟨rfl, rfl⟩ | (cases h)
theorem zfkd_d {E : zE} : ∀ (ty : FieldType) (kd : Nat), zfkd ty = kd → kd < 4 → defaultValue ty = zgvl E (zgz kd) := by
  intro ty kd h h4
  subst h
  cases ty <;> first | rfl | (exact absurd h4 (by decide))
theorem zgn4_ok : (List.range 13).all (fun ci => ((zGn[ci]?).getD []).all (fun kd => decide (kd < 4))) = true := by decide +kernel
section ZG
variable {p : Program} {l : Launch} {e : Env} {R : Room} {s : State} {m : MethodId} {args : Array Value} {below : List Frame} {meth : Method} {c : Code} {H : Heap} {locs : List Loc} {cells slots : Nat} {QQ : State → Prop} {M : zMeth} {k : Nat} {ls : Array Slot} {st : List Value} {n : Int} {ix : List Nat} {E : zE} {as : List Nat} {g : List zGc}
theorem g_put {r : Nat} {fs : List zGf} {v : zV} (hx : p.tables.exec = Jvm.exec) (hb : c.code = zby M) (hc : zchk M = true) (hw : ∀ w ∈ lw_tblg, w.before args s = true) (hown : s.vm.findClass (zcl M) = some m.cls) (hK : va_K (zgD E) vwCl (ztys E) s) (hnm : meth.name = "<init>") (hJ : zgJ E as g s H locs) (ho : zop M k = (41, n, ix)) (hF : zFp.contains ((zhd M).1, zg ix 0, zg ix 1, zg ix 2, false) = true) (hcl0 : (zhd M).1 = zg ix 1) (hg : g[r]? = some (.inl (zg ix 1, fs))) (hz : zg ix 2 < fs.length) (hkv : zgkv (zg ((zGn[zg ix 1]?).getD []) (zg ix 2)) v = true) (hv : zrv v) (hvr : ∀ i, v = .inr (.inr i) → i < 1005) (hvg : zgwv g.length v = true)
    (h1 : ∀ H1 locs1, zgJ E as (g.set r (.inl (zg ix 1, fs.set (zg ix 2) (some v)))) s H1 locs1 → W p l e R s m args below meth c H1 locs1 cells slots QQ (F0 m (zpc M (k + 1)) ls st)) : W p l e R s m args below meth c H locs cells slots QQ (F0 m (zpc M k) ls (zup (zEa E as) v :: .ref (zad (zEa E as) r) :: st)) := by
  have hck : (zdc M k 3 (.putfield (zg ix 0)) && (zFp.contains ((zhd M).1, zg ix 0, zg ix 1, zg ix 2, false) || zFp.contains ((zhd M).1, zg ix 0, zg ix 1, zg ix 2, true))) = true := zck_at hc ho (by decide : (41 : Nat) ≠ 999)
  obtain ⟨hck, -⟩ := (Bool.and_eq_true _ _).mp hck
  obtain ⟨hdg, hn⟩ := zdc_at hck
  have h3 := zgwl_at (E := zEa E as) hg
  have hgr : ∀ v, some v ∈ fs → zrv v := hJ.1.2.1 _ (List.mem_of_getElem? hg)
  have hgc : fs.all (fun f => match f with | none => true | some v => zgwv g.length v) = true := hJ.1.2.2 _ (List.mem_of_getElem? hg)
  have hw2 := List.all_eq_true.mp zFp_ok _ (List.contains_iff_mem.mp hF)
  unfold zfw at hw2
  have e3 : (zgwl (zEa E as) g).set r (zad (zEa E as) r, (Sum.inr (zg ix 1, (fs.map (zgvl (zEa E as))).set (zg ix 2) (zup (zEa E as) v)) : va_E)) = zgwl (zEa E as) (g.set r (.inl (zg ix 1, fs.set (zg ix 2) (some v)))) := by
    have e4 : (Sum.inr (zg ix 1, (fs.map (zgvl (zEa E as))).set (zg ix 2) (zup (zEa E as) v)) : va_E) = zgcl (zEa E as) (.inl (zg ix 1, fs.set (zg ix 2) (some v))) := by
      show _ = Sum.inr (zg ix 1, (fs.set (zg ix 2) (some v)).map (zgvl (zEa E as)))
      rw [List.map_set]
      rfl
    rw [← zgwl_set, e4]
  have fin : ∀ (H1 : Heap) (locs1 : List Loc), va_P (zgD E) vwCl ((zgwl (zEa E as) g).set r (zad (zEa E as) r, (Sum.inr (zg ix 1, (fs.map (zgvl (zEa E as))).set (zg ix 2) (zup (zEa E as) v)) : va_E))) H1 → va_D (zA E) ((zgwl (zEa E as) g).set r (zad (zEa E as) r, (Sum.inr (zg ix 1, (fs.map (zgvl (zEa E as))).set (zg ix 2) (zup (zEa E as) v)) : va_E))) → va_S (zA E) s.heap H1 locs1 → W p l e R s m args below meth c H1 locs1 cells slots QQ (F0 m (zpc M k + 3) ls st) := by
    intro H1 locs1 hP hD hS1
    rw [e3] at hP hD
    rw [← hn]
    refine h1 H1 locs1 ⟨⟨by rw [List.length_set]; exact hJ.1.1, zgR_set hJ.1.2 (fun v2 hv2 => ?_) (List.all_eq_true.mpr (fun f hf => ?_))⟩, hP, hD, hS1⟩
    · rcases List.mem_or_eq_of_mem_set hv2 with q | q
      · exact hgr v2 q
      · cases q; exact hv
    · rcases List.mem_or_eq_of_mem_set hf with q | q
      · exact List.all_eq_true.mp hgc f q
      · rw [q]; exact hvg
  cases hcl : vwCl[zg ix 1]? with
  | none => simp only [hcl] at hw2; cases hw2
  | some rr =>
    simp only [hcl, Bool.false_eq_true, if_false, Bool.and_eq_true, decide_eq_true_eq] at hw2
    obtain ⟨t1, t2, t3⟩ := zcls_ok hcl
    have hci : zg ix 1 < 13 := (List.getElem?_eq_some_iff.mp hcl).1
    have hN := zgn_ok hci
    rw [hcl] at hN
    have hN2 : rr.2.2 = ((zGn[zg ix 1]?).getD []).length := Option.some.inj hN
    have hty := zgt_at hci (by rw [← hN2]; exact hw2.1.1 : zg ix 2 < _)
    have hnf : narrow (zTy (zg ix 1) (zg ix 2)) (zup (zEa E as) v) = zup (zEa E as) v ∧ fits (zTy (zg ix 1) (zg ix 2)) (zup (zEa E as) v) = true := by
      rcases zgkv_or hkv with ⟨q1, a, q2⟩ | ⟨q1, i, q2⟩
      · rw [q1] at hty
        rw [zfkd_0 _ hty, q2]
        exact ⟨rfl, rfl⟩
      · rw [q1] at hty
        rw [q2, zrf_r (hvr i q2)]
        exact zfkd_3 _ hty _
    have hlen : zg ix 2 < (fs.map (zgvl (zEa E as))).length := by rw [List.length_map]; exact hz
    by_cases hfi : (rr.2.1 (zg ix 2)).2.2.2 = false
    · exact va_put (C := rr.1) (T := rr.2.1) (N := rr.2.2) (ref := rr.1) hx hb hw t3 (zTy (zg ix 1)) t1 t2 hown hK hJ.2.1 hJ.2.2.1 hJ.2.2.2 r h3 hcl (zg ix 2) hw2.1.1 (hw _ (List.mem_filter.mpr ⟨hw2.2, rfl⟩)) (fun x hx => by rw [hw2.1.2] at hx; exact hx) hfi (ty := zTy (zg ix 1) (zg ix 2)) (t1 _ hw2.1.1) hnf.1 hnf.2 hlen hdg fin
    · have hfi2 : (rr.2.1 (zg ix 2)).2.2.2 = true := by simpa using hfi
      have hde : (rr.2.1 (zg ix 2)).1 = zcl M := by
        rw [hw2.1.2, zgnm_ok hcl, ← hcl0]
      exact va_putF (C := rr.1) (T := rr.2.1) (N := rr.2.2) (ref := rr.1) hx hb hw t3 (zTy (zg ix 1)) t1 t2 hown hK hJ.2.1 hJ.2.2.1 hJ.2.2.2 r h3 hcl (zg ix 2) hw2.1.1 (hw _ (List.mem_filter.mpr ⟨hw2.2, rfl⟩)) (fun x hx => by rw [hw2.1.2] at hx; exact hx) hfi2 hnm hde (ty := zTy (zg ix 1) (zg ix 2)) (t1 _ hw2.1.1) hnf.1 hnf.2 hlen hdg fin
theorem g_new (hx : p.tables.exec = Jvm.exec) (hb : c.code = zby M) (hc : zchk M = true) (hw : ∀ w ∈ lw_tblg, w.before args s = true) (hown : s.vm.findClass (zcl M) = some m.cls) (hK : va_K (zgD E) vwCl (ztys E) s) (hA : ∀ q : Nat, s.heap.size ≤ q → zA E q) (hJ : zgJ E as g s H locs) (hgw : g.all (zgwc g.length) = true) (hg2 : zgck (zop M k) M k = true) (ho : zop M k = (64, n, ix)) {ks : List Nat} (hks : zGn[zg ix 1]? = some ks) (hcells : cells + 1 ≤ R.cells) (hslots : slots + ks.length ≤ R.slots)
    (h1 : ∀ (q : Nat) (H1 : Heap), zgJ E (as ++ [q]) (g ++ [.inl (zg ix 1, ks.map zgz)]) s H1 locs → W p l e R s m args below meth c H1 locs (cells + 1) (slots + ks.length) QQ (F0 m (zpc M (k + 1)) ls (.ref q :: st))) : W p l e R s m args below meth c H locs cells slots QQ (F0 m (zpc M k) ls st) := by
  rw [ho] at hg2
  have hg2 : (zdc M k 3 (.new (zg ix 0)) && (zWl.contains ((zhd M).1, zg ix 0, zg ix 1) && (zWi.contains (zg ix 1, ((zGn[zg ix 1]?).getD []).length) && zNq.contains (zg ix 1)))) = true := hg2
  rw [hks] at hg2
  simp only [Bool.and_eq_true] at hg2
  obtain ⟨a1, a2, a3, a4⟩ := hg2
  obtain ⟨hdg, hn⟩ := zdc_at a1
  have hci : zg ix 1 < 13 := by
    have := (List.getElem?_eq_some_iff.mp hks).1
    exact this
  have hN := zgn_ok hci
  have hin : Jvm.Cond.initialized (zcn (zg ix 1)) ∈ lw_tbl := zw_ini a4
  cases hcl : vwCl[zg ix 1]? with
  | none => rw [hcl] at hN; cases hN
  | some rr =>
    rw [hcl, hks] at hN
    have hN2 : rr.2.2 = ks.length := Option.some.inj hN
    obtain ⟨t1, t2, t3⟩ := zcls_ok hcl
    have e1 := zgnm_ok hcl
    refine va_new (C := rr.1) (T := rr.2.1) (N := rr.2.2) (ci := zg ix 1) (own := zcl M) (fs := (ks.map zgz).map (zgvl (zEa E as))) hx hb hw t3 (zTy (zg ix 1)) t1 hown (by rw [e1]; exact hw _ (List.mem_filter.mpr ⟨zw_cl a2, rfl⟩)) (by rw [e1, hN2]; exact hw _ (List.mem_filter.mpr ⟨zw_ii a3, rfl⟩)) (by rw [e1]; exact hw _ (List.mem_filter.mpr ⟨hin, rfl⟩)) hK hJ.2.1 hJ.2.2.1 hJ.2.2.2 hA hcl (fun j hj => ?_) hcells (by rw [hN2]; exact hslots) hdg (fun q H1 hP hD hS => ?_)
    · rw [hN2] at hj
      have h4 : ks[j] < 4 := by
        have h5 := List.all_eq_true.mp zgn4_ok _ (List.mem_range.mpr hci)
        rw [hks] at h5
        exact of_decide_eq_true (List.all_eq_true.mp h5 _ (List.getElem_mem hj))
      have h6 := zgt_at hci (z := j) (by rw [hks]; exact hj)
      rw [hks] at h6
      have h7 : zg ks j = ks[j] := by
        unfold zg
        rw [List.getElem?_eq_getElem hj]
        rfl
      have h8 := zfkd_d (E := zEa E as) _ _ (h6.trans h7) h4
      rw [h8]
      unfold vp_V
      rw [List.getD_eq_getElem?_getD, List.getElem?_map, List.getElem?_map, List.getElem?_eq_getElem hj]
      rfl
    · have e5 : zgwl (zEa E (as ++ [q])) (g ++ [.inl (zg ix 1, ks.map zgz)]) = zgwl (zEa E as) g ++ [(q, .inr (zg ix 1, (ks.map zgz).map (zgvl (zEa E as))))] := by
        rw [zgwl_push hJ.1.1 hgw]
        congr 3
        show Sum.inr (zg ix 1, (ks.map zgz).map _) = _
        congr 2
        rw [List.map_map, List.map_map]
        refine List.map_congr_left (fun kd _ => ?_)
        show zgvl _ (zgz kd) = zgvl _ (zgz kd)
        unfold zgz
        split
        · rfl
        · split <;> rfl
      rw [← e5] at hP hD
      rw [← hn, hN2]
      refine h1 q H1 ⟨⟨by rw [List.length_append, List.length_append, hJ.1.1]; rfl, zgR_app hJ.1.2 (fun v hv => ?_) (List.all_eq_true.mpr (fun f hf => ?_))⟩, hP, hD, hS⟩
      · obtain ⟨kd, -, hkd⟩ := List.mem_map.mp hv
        unfold zgz at hkd
        split at hkd
        · cases hkd; show zI64 0; unfold zI64; omega
        · split at hkd
          · cases hkd; show zI32 0; unfold zI32; omega
          · cases hkd
      · obtain ⟨kd, -, hkd⟩ := List.mem_map.mp hf
        rw [← hkd]
        by_cases q1 : kd = 1
        · have : zgz kd = some (.inr (.inl 0)) := by unfold zgz; rw [if_pos q1]
          rw [this]
          rfl
        · by_cases q2 : kd < 3
          · have : zgz kd = some (.inl 0) := by unfold zgz; rw [if_neg q1, if_pos q2]
            rw [this]
            rfl
          · have : zgz kd = none := by unfold zgz; rw [if_neg q1, if_neg q2]
            rw [this]
end ZG
