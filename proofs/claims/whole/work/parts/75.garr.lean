/-! the constructors' steps: arrays made, Object's own constructor -/
section ZG
variable {p : Program} {l : Launch} {e : Env} {R : Room} {s : State} {m : MethodId} {args : Array Value} {below : List Frame} {meth : Method} {c : Code} {H : Heap} {locs : List Loc} {cells slots : Nat} {QQ : State → Prop} {M : zMeth} {k : Nat} {ls : Array Slot} {st : List Value} {n : Int} {ix : List Nat} {E : zE} {as : List Nat} {g : List zGc}
theorem g_newa0 (hx : p.tables.exec = Jvm.exec) (hb : c.code = zby M) (hw : ∀ w ∈ lw_tblg, w.before args s = true) (hK : va_K (zgD E) vwCl (ztys E) s) (hA : ∀ q : Nat, s.heap.size ≤ q → zA E q) (hJ : zgJ E as g s H locs) (hgw : g.all (zgwc g.length) = true) {x : Nat} (hxk : x = 0) (hdg : decode (zby M) (zpc M k) = .ok (.newarray .int, 2)) (hn : zpc M (k + 1) = zpc M k + 2) {a : Int} (h0 : 0 ≤ a) (ha : a < 100000) (hcells : cells + 1 ≤ R.cells) (hslots : slots + a.toNat ≤ R.slots)
    (h1 : ∀ (q : Nat) (H1 : Heap), zgJ E (as ++ [q]) (g ++ [.inr (x, a.toNat, [])]) s H1 locs → W p l e R s m args below meth c H1 locs (cells + 1) (slots + a.toNat) QQ (F0 m (zpc M (k + 1)) ls (.ref q :: st))) : W p l e R s m args below meth c H locs cells slots QQ (F0 m (zpc M k) ls (.int (Int32.ofInt a) :: st)) := by
  have ha0 : zI32 a := ⟨by omega, by omega⟩
  refine va_newa (atype := .int) (ty := .int) (N' := a.toNat) (a0 := (a.toNat, .inl (fun i => Int32.ofInt (zgl [] i)))) hx hb (hw _ (List.mem_filter.mpr ⟨(by decide +kernel : Jvm.Cond.arrayClass .int ∈ lw_tbl), rfl⟩)) rfl hK hJ.2.1 hJ.2.2.1 hJ.2.2.2 hA (fun cA => rfl) (fun q => ?_) (zcl_nat ha0) ?_ hcells hslots hdg (fun q cA H1 hK2 hP hD hS => ?_)
  · have h2 := (o32_lt ha0 (show zI32 0 by unfold zI32; omega)).mp q
    omega
  · have : componentBytes .int ≤ 8 := by decide
    have h2 : a.toNat < 100000 := by omega
    have h3 : a.toNat * componentBytes .int ≤ 100000 * 8 := Nat.mul_le_mul (by omega) this
    omega
  · have r1 : s.vm.findClass ("[" ++ FieldType.int.toString) = some cA := (hK2.2 3 (cA, .int) rfl).2
    have r2 : s.vm.findClass ("[" ++ FieldType.int.toString) = some E.2.2.1.1 := (hK.2 0 (E.2.2.1.1, .int) rfl).2
    have r3 : cA = E.2.2.1.1 := Option.some.inj (r1.symm.trans r2)
    have e5 : zgwl (zEa E (as ++ [q])) (g ++ [.inr (x, a.toNat, [])]) = zgwl (zEa E as) g ++ [(q, .inl (cA, (a.toNat, .inl (fun i => Int32.ofInt (zgl [] i)))))] := by
      rw [zgwl_push hJ.1.1 hgw, r3]
      congr 3
      subst hxk
      rfl
    rw [← e5] at hP hD
    rw [← hn]
    exact h1 q H1 ⟨⟨by rw [List.length_append, List.length_append, hJ.1.1]; rfl, zgR_app hJ.1.2 ⟨by show a.toNat < 100000; omega, fun y hy => by cases hy⟩ rfl⟩, hP, hD, hS⟩
theorem g_newa1 (hx : p.tables.exec = Jvm.exec) (hb : c.code = zby M) (hw : ∀ w ∈ lw_tblg, w.before args s = true) (hK : va_K (zgD E) vwCl (ztys E) s) (hA : ∀ q : Nat, s.heap.size ≤ q → zA E q) (hJ : zgJ E as g s H locs) (hgw : g.all (zgwc g.length) = true) {x : Nat} (hxk : x = 1) (hdg : decode (zby M) (zpc M k) = .ok (.newarray .long, 2)) (hn : zpc M (k + 1) = zpc M k + 2) {a : Int} (h0 : 0 ≤ a) (ha : a < 100000) (hcells : cells + 1 ≤ R.cells) (hslots : slots + a.toNat ≤ R.slots)
    (h1 : ∀ (q : Nat) (H1 : Heap), zgJ E (as ++ [q]) (g ++ [.inr (x, a.toNat, [])]) s H1 locs → W p l e R s m args below meth c H1 locs (cells + 1) (slots + a.toNat) QQ (F0 m (zpc M (k + 1)) ls (.ref q :: st))) : W p l e R s m args below meth c H locs cells slots QQ (F0 m (zpc M k) ls (.int (Int32.ofInt a) :: st)) := by
  have ha0 : zI32 a := ⟨by omega, by omega⟩
  refine va_newa (atype := .long) (ty := .long) (N' := a.toNat) (a0 := (a.toNat, .inr (.inl (fun i => Int64.ofInt (zgl [] i))))) hx hb (hw _ (List.mem_filter.mpr ⟨(by decide +kernel : Jvm.Cond.arrayClass .long ∈ lw_tbl), rfl⟩)) rfl hK hJ.2.1 hJ.2.2.1 hJ.2.2.2 hA (fun cA => rfl) (fun q => ?_) (zcl_nat ha0) ?_ hcells hslots hdg (fun q cA H1 hK2 hP hD hS => ?_)
  · have h2 := (o32_lt ha0 (show zI32 0 by unfold zI32; omega)).mp q
    omega
  · have : componentBytes .long ≤ 8 := by decide
    have h2 : a.toNat < 100000 := by omega
    have h3 : a.toNat * componentBytes .long ≤ 100000 * 8 := Nat.mul_le_mul (by omega) this
    omega
  · have r1 : s.vm.findClass ("[" ++ FieldType.long.toString) = some cA := (hK2.2 3 (cA, .long) rfl).2
    have r2 : s.vm.findClass ("[" ++ FieldType.long.toString) = some E.2.2.1.2.1 := (hK.2 1 (E.2.2.1.2.1, .long) rfl).2
    have r3 : cA = E.2.2.1.2.1 := Option.some.inj (r1.symm.trans r2)
    have e5 : zgwl (zEa E (as ++ [q])) (g ++ [.inr (x, a.toNat, [])]) = zgwl (zEa E as) g ++ [(q, .inl (cA, (a.toNat, .inr (.inl (fun i => Int64.ofInt (zgl [] i))))))] := by
      rw [zgwl_push hJ.1.1 hgw, r3]
      congr 3
      subst hxk
      rfl
    rw [← e5] at hP hD
    rw [← hn]
    exact h1 q H1 ⟨⟨by rw [List.length_append, List.length_append, hJ.1.1]; rfl, zgR_app hJ.1.2 ⟨by show a.toNat < 100000; omega, fun y hy => by cases hy⟩ rfl⟩, hP, hD, hS⟩
theorem g_newa2 (hx : p.tables.exec = Jvm.exec) (hb : c.code = zby M) (hw : ∀ w ∈ lw_tblg, w.before args s = true) (hK : va_K (zgD E) vwCl (ztys E) s) (hA : ∀ q : Nat, s.heap.size ≤ q → zA E q) (hJ : zgJ E as g s H locs) (hgw : g.all (zgwc g.length) = true) {x : Nat} (hxk : 2 ≤ x) (hdg : decode (zby M) (zpc M k) = .ok (.newarray .boolean, 2)) (hn : zpc M (k + 1) = zpc M k + 2) {a : Int} (h0 : 0 ≤ a) (ha : a < 100000) (hcells : cells + 1 ≤ R.cells) (hslots : slots + a.toNat ≤ R.slots)
    (h1 : ∀ (q : Nat) (H1 : Heap), zgJ E (as ++ [q]) (g ++ [.inr (x, a.toNat, [])]) s H1 locs → W p l e R s m args below meth c H1 locs (cells + 1) (slots + a.toNat) QQ (F0 m (zpc M (k + 1)) ls (.ref q :: st))) : W p l e R s m args below meth c H locs cells slots QQ (F0 m (zpc M k) ls (.int (Int32.ofInt a) :: st)) := by
  have ha0 : zI32 a := ⟨by omega, by omega⟩
  refine va_newa (atype := .boolean) (ty := .boolean) (N' := a.toNat) (a0 := (a.toNat, .inl (fun i => Int32.ofInt (zgl [] i)))) hx hb (hw _ (List.mem_filter.mpr ⟨(by decide +kernel : Jvm.Cond.arrayClass .boolean ∈ lw_tbl), rfl⟩)) rfl hK hJ.2.1 hJ.2.2.1 hJ.2.2.2 hA (fun cA => rfl) (fun q => ?_) (zcl_nat ha0) ?_ hcells hslots hdg (fun q cA H1 hK2 hP hD hS => ?_)
  · have h2 := (o32_lt ha0 (show zI32 0 by unfold zI32; omega)).mp q
    omega
  · have : componentBytes .boolean ≤ 8 := by decide
    have h2 : a.toNat < 100000 := by omega
    have h3 : a.toNat * componentBytes .boolean ≤ 100000 * 8 := Nat.mul_le_mul (by omega) this
    omega
  · have r1 : s.vm.findClass ("[" ++ FieldType.boolean.toString) = some cA := (hK2.2 3 (cA, .boolean) rfl).2
    have r2 : s.vm.findClass ("[" ++ FieldType.boolean.toString) = some E.2.2.1.2.2 := (hK.2 2 (E.2.2.1.2.2, .boolean) rfl).2
    have r3 : cA = E.2.2.1.2.2 := Option.some.inj (r1.symm.trans r2)
    have e5 : zgwl (zEa E (as ++ [q])) (g ++ [.inr (x, a.toNat, [])]) = zgwl (zEa E as) g ++ [(q, .inl (cA, (a.toNat, .inl (fun i => Int32.ofInt (zgl [] i)))))] := by
      rw [zgwl_push hJ.1.1 hgw, r3]
      congr 3
      have n1 : x ≠ 1 := by omega
      have n0 : x ≠ 0 := by omega
      simp only [zgcl, if_neg n1, if_neg n0] <;> rfl
    rw [← e5] at hP hD
    rw [← hn]
    exact h1 q H1 ⟨⟨by rw [List.length_append, List.length_append, hJ.1.1]; rfl, zgR_app hJ.1.2 ⟨by show a.toNat < 100000; omega, fun y hy => by cases hy⟩ rfl⟩, hP, hD, hS⟩
theorem g_newa (hx : p.tables.exec = Jvm.exec) (hb : c.code = zby M) (hw : ∀ w ∈ lw_tblg, w.before args s = true) (hK : va_K (zgD E) vwCl (ztys E) s) (hA : ∀ q : Nat, s.heap.size ≤ q → zA E q) (hJ : zgJ E as g s H locs) (hgw : g.all (zgwc g.length) = true) (hg2 : zgck (zop M k) M k = true) (ho : zop M k = (67, n, ix)) {a : Int} (h0 : 0 ≤ a) (ha : a < 100000) (hcells : cells + 1 ≤ R.cells) (hslots : slots + a.toNat ≤ R.slots)
    (h1 : ∀ (q : Nat) (H1 : Heap), zgJ E (as ++ [q]) (g ++ [.inr (zg ix 0, a.toNat, [])]) s H1 locs → W p l e R s m args below meth c H1 locs (cells + 1) (slots + a.toNat) QQ (F0 m (zpc M (k + 1)) ls (.ref q :: st))) : W p l e R s m args below meth c H locs cells slots QQ (F0 m (zpc M k) ls (.int (Int32.ofInt a) :: st)) := by
  rw [ho] at hg2
  have hg2 : zdc M k 2 (.newarray (match zg ix 0 with | 0 => .int | 1 => .long | _ => .boolean)) = true := hg2
  generalize zg ix 0 = x at hg2 h1
  match x, hg2, h1 with
  | 0, hg2, h1 => exact g_newa0 hx hb hw hK hA hJ hgw rfl (zdc_at hg2).1 (zdc_at hg2).2 h0 ha hcells hslots h1
  | 1, hg2, h1 => exact g_newa1 hx hb hw hK hA hJ hgw rfl (zdc_at hg2).1 (zdc_at hg2).2 h0 ha hcells hslots h1
  | x + 2, hg2, h1 => exact g_newa2 hx hb hw hK hA hJ hgw (by omega) (zdc_at hg2).1 (zdc_at hg2).2 h0 ha hcells hslots h1
theorem g_obj (hx : p.tables.exec = Jvm.exec) (hb : c.code = zby M) (hown : s.vm.findClass (zcl M) = some m.cls) (hw : ∀ w ∈ lw_tblg, w.before args s = true) (hml : c.maxLocals = zml M) (hls : ls.size = zml M) (hg2 : zgck (zop M k) M k = true) (ho : zop M k = (66, n, ix)) {q : Addr} (hfr : 1 ≤ R.frames) (hlo : 40 ≤ R.locals) (hst : (st.map (fun v => v.category)).sum ≤ 8) (h1 : W p l e R s m args below meth c H locs cells slots QQ (F0 m (zpc M (k + 1)) ls st)) : W p l e R s m args below meth c H locs cells slots QQ (F0 m (zpc M k) ls (.ref q :: st)) := by
  rw [ho] at hg2
  have hg2 : (zdc M k 3 (.invokespecial (zg ix 0)) && zMp.contains ((zhd M).1, zg ix 0, 248, false)) = true := hg2
  obtain ⟨a1, a2⟩ := (Bool.and_eq_true _ _).mp hg2
  obtain ⟨hdg, hn⟩ := zdc_at a1
  rw [hn] at h1
  have hl := lv_room (m := m) (pc := zpc M k) (ls := ls) (rest := .ref q :: st) hst
  refine W.objInit (cc := zby M) (own := zcl M) (idx := zg ix 0) (g := F0 m (zpc M k) ls (.ref q :: st)) (rest := st) hx hb hown (hw _ (List.mem_filter.mpr ⟨zw_link a2, rfl⟩)) (hw _ (List.mem_filter.mpr ⟨(by decide +kernel : Jvm.Cond.instanceMethod Lib.objectInit ∈ lw_tbl), rfl⟩)) (hw _ (List.mem_filter.mpr ⟨(by decide +kernel : Jvm.Cond.code Lib.objectInit ⟨#[0xb1]⟩ 1 none ∈ lw_tbl), rfl⟩)) rfl (by rw [hml]; exact hls) rfl hdg hfr (by omega) h1
end ZG
