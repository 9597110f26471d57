/-! the constructors' steps: calls -/
def zgP2 (E : zE) (as : List Nat) (g : List zGc) (H : Heap) : Prop := (as.length = g.length ∧ zgR g) ∧ va_P (zgD E) vwCl (zgwl (zEa E as) g) H ∧ va_D (zA E) (zgwl (zEa E as) g)
def zgU2 (E : zE) (as : List Nat) (g : List zGc) (U : State) : Prop := zgP2 E as g U.heap ∧ va_K (zgD E) vwCl (ztys E) U ∧ ∀ q : Nat, U.heap.size ≤ q → zA E q
def zgQ2 (E : zE) (as : List Nat) (g1 : List zGc) : Array Value → State → Outcome → State → Prop := fun _ st oc t =>
  (oc = .returned none ∧ ∃ t' : List Nat, zgP2 E (as ++ t') g1 t.heap) ∧ va_F (zA E) st t
def zgrm (d mc ms : Nat) : Room := { frames := d, cells := mc, slots := ms, locals := 40 * d }
def zgC2 (l : Launch) (E : zE) (d : Nat) (M : zMeth) (As : List zV) (as : List Nat) (g g1 : List zGc) (mc ms : Nat) : Prop :=
  Met l (zny M) (zws M) (zgrm d mc ms) (va_Pc (As.map (zup (zEa E as))) (fun U => zgU2 E as g U)) (zgQ2 E as g1) mc ms (zA E)
theorem zgblind (E : zE) (as : List Nat) (g : List zGc) (av : List Value) : FrameBlind (va_Pc av (fun U => zgU2 E as g U)) := by
  intro a U g mk q
  obtain ⟨q1, q2, q3, q4⟩ := q
  exact ⟨q1, q2, va_K.moved (u := U) (U := U.calling g mk a) (Vm.Alike.refl U.vm) q3, q4⟩
section ZG
variable {p : Program} {l : Launch} {e : Env} {R : Room} {s : State} {m : MethodId} {args : Array Value} {below : List Frame} {meth : Method} {c : Code} {H : Heap} {locs : List Loc} {cells slots : Nat} {QQ : State → Prop} {M M' : zMeth} {k : Nat} {ls : Array Slot} {st : List Value} {n : Int} {ix : List Nat} {E : zE} {as : List Nat} {g g1 : List zGc} {As : List zV} {S : List Value} {d' mc ms : Nat}
theorem zgU_of {U : State} (hK : va_K (zgD E) vwCl (ztys E) s) (hA : ∀ q : Nat, s.heap.size ≤ q → zA E q) (hJ : zgJ E as g s H locs) (hU : U.heap = H) (hW : s.WarmedH U.vm) : zgU2 E as g U := by
  refine ⟨⟨hJ.1, by rw [hU]; exact hJ.2.1, hJ.2.2.1⟩, va_K.moved hW.alike hK, fun q hq => hA q ?_⟩
  rw [hU] at hq
  exact Nat.le_trans hJ.2.2.2.1 hq
theorem g_behind {a : Array Value} {st0 : List Value} (hn : zpc M (k + 1) = zpc M k + 3) (hS : va_S (zA E) s.heap H locs) (hr : va_Run p l e R s m args below meth c H locs cells slots mc ms (F0 m (zpc M k) ls st0) S (zgQ2 E as g1 a) (zA E)) (kk : ∀ (t' : List Nat) (H1 : Heap) (locs1 : List Loc), zgJ E (as ++ t') g1 s H1 locs1 → W p l e R s m args below meth c H1 locs1 (cells + mc) (slots + ms) QQ (F0 m (zpc M (k + 1)) ls S)) : W p l e R s m args below meth c H locs cells slots QQ (F0 m (zpc M k) ls st0) := by
  intro T hT X
  obtain ⟨v, st₀, t, T', L', g0, X', hL', e1, e2, ⟨⟨hv', t', hP⟩, hz, hk⟩, st⟩ := hr T hT X
  cases hv'
  rw [g0] at hz hk
  have k1 := kk t' T'.heap (locs ++ L') ⟨hP.1, by rw [e1]; exact hP.2.1, hP.2.2, Nat.le_trans hS.1 (by rw [e1]; exact hz), fun q h1 h2 => by rw [e1, hk q (Nat.lt_of_lt_of_le h1 hS.1) h2]; exact hS.2.1 q h1 h2, fun q hq => (List.mem_append.mp hq).elim (hS.2.2 q) (hL' q)⟩
  obtain ⟨t2, a1, b1⟩ := k1 T' rfl X'
  rw [hn] at a1
  exact ⟨t2, st t2 a1, b1⟩
theorem g_gd {w : Jvm.Cond} (h1 : w ∈ lw_tbl) (h2 : goodWord w = true) : w ∈ lw_tblg ∧ ((w.onTables && w.keeps) = true ∨ ∃ ty, w = .arrayClass ty) := ⟨List.mem_filter.mpr ⟨h1, h2⟩, good_of_word h2⟩
theorem g_ivs (hx : p.tables.exec = Jvm.exec) (hb : c.code = zby M) (hc : zchk M = true) (hml : c.maxLocals = zml M) (hown : s.vm.findClass (zcl M) = some m.cls) (hw : ∀ w ∈ lw_tblg, w.before args s = true) (hK : va_K (zgD E) vwCl (ztys E) s) (hA : ∀ q : Nat, s.heap.size ≤ q → zA E q) (hJ : zgJ E as g s H locs) (hls : ls.size = zml M) (hC : zgC2 l E d' M' As as g g1 mc ms) (hnp : (zhd M').2.2.2.2.2.2 = As.length) (hrt : zrt M' = none) (hfr : d' + 1 ≤ R.frames) (hlo : 40 * (d' + 1) ≤ R.locals) (hcl : cells + mc ≤ R.cells) (hsl : slots + ms ≤ R.slots) (hst : (S.map (fun v => v.category)).sum ≤ 8) (ho : zop M k = (50, n, ix)) (hix : zg ix 1 = M'.1) (hnn : zMp.contains ((zhd M).1, zg ix 0, M'.1, false) = true) (kk : ∀ (t' : List Nat) (H1 : Heap) (locs1 : List Loc), zgJ E (as ++ t') g1 s H1 locs1 → W p l e R s m args below meth c H1 locs1 (cells + mc) (slots + ms) QQ (F0 m (zpc M (k + 1)) ls S)) : W p l e R s m args below meth c H locs cells slots QQ (F0 m (zpc M k) ls ((As.map (zup (zEa E as))).reverse ++ S)) := by
  have hck : (zdc M k 3 (.invokestatic (zg ix 0)) && ((zMp.contains ((zhd M).1, zg ix 0, zg ix 1, false) || zMp.contains ((zhd M).1, zg ix 0, zg ix 1, true)) && zSok (zg ix 1))) = true := zck_at hc ho (by decide : (50 : Nat) ≠ 999)
  rw [hix] at hck
  obtain ⟨hck, hmp⟩ := (Bool.and_eq_true _ _).mp hck
  obtain ⟨hdg, hpc⟩ := zdc_at hck
  obtain ⟨-, hi⟩ := (Bool.and_eq_true _ _).mp hmp
  unfold zSok at hi
  simp only [Bool.and_eq_true] at hi
  obtain ⟨hi1, hi2, hi4⟩ := hi
  obtain ⟨ok1, ok2, ok3, ok4, ok5⟩ := zhok_of hi1
  have hini : Jvm.Cond.initialized (zny M').cls ∈ lw_tbl := by
    have h9 := zw_ini hi4
    rw [← ok1] at h9
    exact h9
  have hg : GoodIn lw_tblg (va_wsS (zcl M) (zg ix 0) (zny M') (zws M')) := by
    intro w hw2
    unfold va_wsS zws at hw2
    simp only [List.cons_append, List.nil_append, List.mem_cons] at hw2
    rcases hw2 with rfl | rfl | rfl | rfl | h1
    · exact g_gd (zw_link hnn) rfl
    · exact g_gd (zw_stat hi2) rfl
    · exact g_gd hini rfl
    · exact g_gd (zw_code hi1) rfl
    · exact ⟨h1, good_of_word (lw_tblg_in _ h1).2⟩
  have hnp2 : (zhj M'.1).2.2.2.2.2.2 = As.length := hnp
  have cw := va_cwS (R := R) (s := s) (args := args) (own := zcl M) (index := zg ix 0) (y := zny M') (bytes := zby M') (maxL := zml M') (ret := zrt M') (ws := zws M') (ws' := lw_tblg) (rm := zgrm d' mc ms) (mc := mc) (ms := ms) As.length hw hg rfl rfl rfl ⟨ok2, ok3, by rw [← hnp2]; exact ok4⟩ ⟨by show d' + 1 ≤ R.frames; omega, by show 8 + ((zhj M'.1).2.2.2.1 + 11) + 40 * d' ≤ R.locals; omega⟩
  exact g_behind hpc hJ.2.2.2 (va_runS (As := As.map (zup (zEa E as))) (rest := S) ⟨hx, hb, hml, hown, hw⟩ hC cw ⟨zgblind _ _ _ _, fun U hU hW => ⟨rfl, zgU_of hK hA hJ hU hW⟩⟩ rfl (by rw [List.length_map]) hls rfl (lv_room hst) hdg ⟨hcl, hsl⟩) kk
theorem g_ivi {r : Nat} (hx : p.tables.exec = Jvm.exec) (hb : c.code = zby M) (hc : zchk M = true) (hml : c.maxLocals = zml M) (hown : s.vm.findClass (zcl M) = some m.cls) (hw : ∀ w ∈ lw_tblg, w.before args s = true) (hK : va_K (zgD E) vwCl (ztys E) s) (hA : ∀ q : Nat, s.heap.size ≤ q → zA E q) (hJ : zgJ E as g s H locs) (hls : ls.size = zml M) (hC : zgC2 l E d' M' (.inr (.inr r) :: As) as g g1 mc ms) (hnp : (zhd M').2.2.2.2.2.2 = As.length) (hrt : zrt M' = none) (hfr : d' + 1 ≤ R.frames) (hlo : 40 * (d' + 1) ≤ R.locals) (hcl : cells + mc ≤ R.cells) (hsl : slots + ms ≤ R.slots) (hst : (S.map (fun v => v.category)).sum ≤ 8) (hr : r < 1005) (hg2 : zgck (zop M k) M k = true) (ho : zop M k = (63, n, ix)) (hix : zg ix 1 = M'.1) (hnm : (zny M').name = "<init>") (kk : ∀ (t' : List Nat) (H1 : Heap) (locs1 : List Loc), zgJ E (as ++ t') g1 s H1 locs1 → W p l e R s m args below meth c H1 locs1 (cells + mc) (slots + ms) QQ (F0 m (zpc M (k + 1)) ls S)) : W p l e R s m args below meth c H locs cells slots QQ (F0 m (zpc M k) ls ((As.map (zup (zEa E as))).reverse ++ .ref (zad (zEa E as) r) :: S)) := by
  rw [ho] at hg2
  have hg2 : (zdc M k 3 (.invokespecial (zg ix 0)) && (zMp.contains ((zhd M).1, zg ix 0, zg ix 1, false) && (zCq.contains (zg ix 1) && (zIq.contains (zg ix 1) && zNq.contains (zhj (zg ix 1)).1)))) = true := hg2
  rw [hix] at hg2
  simp only [Bool.and_eq_true] at hg2
  obtain ⟨hck, hmp, hi1, hi2, hi4⟩ := hg2
  obtain ⟨hdg, hpc⟩ := zdc_at hck
  obtain ⟨ok1, ok2, ok3, ok4, ok5⟩ := zhok_of hi1
  have hini : Jvm.Cond.initialized (zny M').cls ∈ lw_tbl := by
    have h9 := zw_ini hi4
    rw [← ok1] at h9
    exact h9
  have hcode : Jvm.Cond.code (zny M') (zby M') (zml M') none ∈ lw_tbl := by
    have := zw_code hi1
    rw [← hrt]
    exact this
  have hws : zws M' = Jvm.Cond.code (zny M') (zby M') (zml M') none :: lw_tblg := by
    unfold zws
    rw [hrt]
  have hg : GoodIn lw_tblg (zws M') := by
    intro w hw2
    rw [hws] at hw2
    rcases List.mem_cons.mp hw2 with rfl | h1
    · exact g_gd hcode rfl
    · exact ⟨h1, good_of_word (lw_tblg_in _ h1).2⟩
  have hnp2 : (zhj M'.1).2.2.2.2.2.2 = As.length := hnp
  have cw := cwI (R := R) (s := s) (args := args) (own := zcl M) (index := zg ix 0) (y := zny M') (bytes := zby M') (maxL := zml M') (ws := zws M') (ws' := lw_tblg) (rm := zgrm d' mc ms) (mc := mc) (ms := ms) As.length hw hg hws rfl rfl (hw _ (List.mem_filter.mpr ⟨hini, rfl⟩)) (hw _ (List.mem_filter.mpr ⟨zw_link hmp, rfl⟩)) (hw _ (List.mem_filter.mpr ⟨zw_inst hi2, rfl⟩)) hnm ⟨ok2, ok3, by rw [← hnp2]; exact ok4⟩ ⟨by show d' + 1 ≤ R.frames; omega, by show 8 + ((zhj M'.1).2.2.2.1 + 11) + 40 * d' ≤ R.locals; omega⟩
  exact g_behind hpc hJ.2.2.2 (va_runI (As := As.map (zup (zEa E as))) (rest := S) ⟨hx, hb, hml, hown, hw⟩ hC cw ⟨zgblind _ _ _ _, fun U hU hW => ⟨by rw [List.map_cons, zrf_r hr], zgU_of hK hA hJ hU hW⟩⟩ rfl (by rw [List.length_map]) hls rfl (lv_room hst) hdg ⟨hcl, hsl⟩) kk
theorem g_inv {r : Nat} {fs : List zGf} (hx : p.tables.exec = Jvm.exec) (hb : c.code = zby M) (hc : zchk M = true) (hml : c.maxLocals = zml M) (hown : s.vm.findClass (zcl M) = some m.cls) (hw : ∀ w ∈ lw_tblg, w.before args s = true) (hK : va_K (zgD E) vwCl (ztys E) s) (hA : ∀ q : Nat, s.heap.size ≤ q → zA E q) (hJ : zgJ E as g s H locs) (hls : ls.size = zml M) (hC : zgC2 l E d' M' (.inr (.inr r) :: As) as g g1 mc ms) (hnp : (zhd M').2.2.2.2.2.2 = As.length) (hrt : zrt M' = none) (hfr : d' + 1 ≤ R.frames) (hlo : 40 * (d' + 1) ≤ R.locals) (hcl : cells + mc ≤ R.cells) (hsl : slots + ms ≤ R.slots) (hst : (S.map (fun v => v.category)).sum ≤ 8) (hr : r < 1005) (hg : g[r]? = some (.inl ((zhd M').1, fs))) (ho : zop M k = (49, n, ix)) (hix : zg ix 1 = M'.1) (kk : ∀ (t' : List Nat) (H1 : Heap) (locs1 : List Loc), zgJ E (as ++ t') g1 s H1 locs1 → W p l e R s m args below meth c H1 locs1 (cells + mc) (slots + ms) QQ (F0 m (zpc M (k + 1)) ls S)) : W p l e R s m args below meth c H locs cells slots QQ (F0 m (zpc M k) ls ((As.map (zup (zEa E as))).reverse ++ .ref (zad (zEa E as) r) :: S)) := by
  have hck : (zdc M k 3 (.invokevirtual (zg ix 0)) && (zMp.contains ((zhd M).1, zg ix 0, zg ix 1, false) && zIok (zg ix 1))) = true := zck_at hc ho (by decide : (49 : Nat) ≠ 999)
  rw [hix] at hck
  obtain ⟨hck, hmp⟩ := (Bool.and_eq_true _ _).mp hck
  obtain ⟨hdg, hpc⟩ := zdc_at hck
  obtain ⟨hmp, hi⟩ := (Bool.and_eq_true _ _).mp hmp
  unfold zIok at hi
  simp only [Bool.and_eq_true] at hi
  obtain ⟨hi1, hi2, hi3, hi4⟩ := hi
  obtain ⟨ok1, ok2, ok3, ok4, ok5⟩ := zhok_of hi1
  have hgi : GoodIn lw_tblg (wsV (zcl M) (zg ix 0) (zny M').cls (zny M') (zws M')) := by
    intro w hw2
    unfold wsV zws at hw2
    simp only [List.cons_append, List.nil_append, List.mem_cons] at hw2
    rcases hw2 with rfl | rfl | rfl | rfl | rfl | h1
    · exact g_gd (zw_link hmp) rfl
    · exact g_gd (zw_inst hi2) rfl
    · refine g_gd ?_ rfl
      have h9 := zw_sel hi3
      rw [← ok1] at h9
      exact h9
    · refine g_gd ?_ rfl
      have h9 := zw_ini hi4
      rw [← ok1] at h9
      exact h9
    · exact g_gd (zw_code hi1) rfl
    · exact ⟨h1, good_of_word (lw_tblg_in _ h1).2⟩
  have hnp2 : (zhj M'.1).2.2.2.2.2.2 = As.length := hnp
  have cw : CallW R s args (zcl M) (zny M').cls (zg ix 0) (zny M') (zby M') (zml M') (zrt M') (zws M') (zgrm d' mc ms) mc ms As.length := cwV (ws' := lw_tblg) As.length hw hgi rfl rfl rfl ⟨rfl, ok2, ok3, by rw [← hnp2]; exact ok4⟩ ⟨by show d' + 1 ≤ R.frames; omega, by show 8 + ((zhj M'.1).2.2.2.1 + 11) + 40 * d' ≤ R.locals; omega⟩
  have h3 := zgwl_at (E := zEa E as) hg
  have hrcv : ∃ cellB : Cell, H[zad (zEa E as) r]? = some cellB ∧ cellB.vm.isStatics = false ∧ s.vm.findClass (zny M').cls = some cellB.cls := by
    cases hcl : vwCl[(zhd M').1]? with
    | none =>
      exfalso
      obtain ⟨r, h1, -⟩ := hJ.2.1 _ _ h3
      rw [hcl] at h1
      cases h1
    | some q =>
      have h7 := va_recv hK hJ.2.1 hcl h3
      have e1 : q.1 = (zny M').cls := (zgnm_ok hcl).trans ok1.symm
      rw [← e1]
      exact h7
  exact g_behind hpc hJ.2.2.2 (va_runV (As := As.map (zup (zEa E as))) (rest := S) ⟨hx, hb, hml, hown, hw⟩ hC cw ⟨zgblind _ _ _ _, hrcv, fun U hU hW => ⟨by rw [List.map_cons, zrf_r hr], zgU_of hK hA hJ hU hW⟩⟩ rfl (by rw [List.length_map]) hls rfl (lv_room hst) hdg ⟨hcl, hsl⟩) kk
end ZG
