/-! the words of new, and the constructors against the bytecode: by program (wip/whole/con2.py) -/
def zWl : List (Nat × Nat × Nat) := [(13, 7, 11), (11, 7, 10), (10, 9, 6), (10, 35, 0), (0, 11, 6), (10, 42, 8), (8, 9, 6), (11, 10, 6), (11, 17, 9), (9, 9, 6), (11, 20, 1), (1, 19, 6), (11, 25, 7), (7, 19, 6), (11, 41, 0), (11, 48, 5), (11, 65, 4), (4, 19, 6), (11, 74, 2), (11, 81, 3), (3, 19, 6), (13, 10, 12)]
def zWi : List (Nat × Nat) := [(11, 11), (10, 14), (6, 1), (0, 1), (8, 3), (9, 3), (1, 5), (7, 3), (5, 12), (4, 7), (2, 4), (3, 7), (12, 33)]
def zfw1 : Jvm.Cond → Option (String × Nat × String)
  | .classLink a b c => some (a, b, c)
  | _ => none
def zfw2 : Jvm.Cond → Option (String × Nat)
  | .instantiable a b => some (a, b)
  | _ => none
set_option maxRecDepth 100000 in
set_option maxHeartbeats 4000000 in
theorem zl_cl : lw_tbl.filterMap zfw1 = zWl.map (fun q => (zcn q.1, q.2.1, zcn q.2.2)) := rfl
set_option maxRecDepth 100000 in
set_option maxHeartbeats 4000000 in
theorem zl_ii : lw_tbl.filterMap zfw2 = zWi.map (fun q => (zcn q.1, q.2)) := rfl
theorem zw_cl {a b c : Nat} (h : zWl.contains (a, b, c) = true) : Jvm.Cond.classLink (zcn a) b (zcn c) ∈ lw_tbl := by
  obtain ⟨w, hw, e⟩ := zfm_of zl_cl (List.contains_iff_mem.mp h)
  cases w with
  | classLink a b c => cases e; exact hw
  | _ => cases e
theorem zw_ii {a b : Nat} (h : zWi.contains (a, b) = true) : Jvm.Cond.instantiable (zcn a) b ∈ lw_tbl := by
  obtain ⟨w, hw, e⟩ := zfm_of zl_ii (List.contains_iff_mem.mp h)
  cases w with
  | instantiable a b => cases e; exact hw
  | _ => cases e
def zgck (o : zI) (M : zMeth) (k : Nat) : Bool := match o.1 with
  | 63 => zdc M k 3 (.invokespecial (zg o.2.2 0)) && (zMp.contains ((zhd M).1, zg o.2.2 0, zg o.2.2 1, false) && (zCq.contains (zg o.2.2 1) && (zIq.contains (zg o.2.2 1) && zNq.contains (zhj (zg o.2.2 1)).1)))
  | 64 => zdc M k 3 (.new (zg o.2.2 0)) && (zWl.contains ((zhd M).1, zg o.2.2 0, zg o.2.2 1) && (zWi.contains (zg o.2.2 1, ((zGn[zg o.2.2 1]?).getD []).length) && zNq.contains (zg o.2.2 1)))
  | 66 => zdc M k 3 (.invokespecial (zg o.2.2 0)) && zMp.contains ((zhd M).1, zg o.2.2 0, 248, false)
  | 41 => decide ((zny M).name = "<init>")
  | 67 => zdc M k 2 (.newarray (match zg o.2.2 0 with | 0 => .int | 1 => .long | _ => .boolean))
  | _ => true
def zgchk (M : zMeth) : Bool := (List.range M.2.length).all (fun k => zgck (zop M k) M k)
theorem zgk_Herd_init : zgchk zm_Herd_init = true := by decide +kernel
theorem zk_Herd_init : zchk zm_Herd_init = true := by decide +kernel
theorem zgk_Laws_init : zgchk zm_Laws_init = true := by decide +kernel
theorem zk_Laws_init : zchk zm_Laws_init = true := by decide +kernel
theorem zgk_Odds_init : zgchk zm_Odds_init = true := by decide +kernel
theorem zk_Odds_init : zchk zm_Odds_init = true := by decide +kernel
theorem zgk_Pitches_init : zgchk zm_Pitches_init = true := by decide +kernel
theorem zk_Pitches_init : zchk zm_Pitches_init = true := by decide +kernel
theorem zgk_Planner_init : zgchk zm_Planner_init = true := by decide +kernel
theorem zk_Planner_init : zchk zm_Planner_init = true := by decide +kernel
theorem zgk_Reader_init : zgchk zm_Reader_init = true := by decide +kernel
theorem zk_Reader_init : zchk zm_Reader_init = true := by decide +kernel
theorem zgk_Row_init : zgchk zm_Row_init = true := by decide +kernel
theorem zk_Row_init : zchk zm_Row_init = true := by decide +kernel
theorem zgk_Stays_init : zgchk zm_Stays_init = true := by decide +kernel
theorem zk_Stays_init : zchk zm_Stays_init = true := by decide +kernel
theorem zgk_Steps_init : zgchk zm_Steps_init = true := by decide +kernel
theorem zk_Steps_init : zchk zm_Steps_init = true := by decide +kernel
theorem zgk_Texts_init : zgchk zm_Texts_init = true := by decide +kernel
theorem zk_Texts_init : zchk zm_Texts_init = true := by decide +kernel
theorem zgk_Yard_init : zgchk zm_Yard_init = true := by decide +kernel
theorem zk_Yard_init_0 : zchp zm_Yard_init 0 50 = true := by decide +kernel
theorem zk_Yard_init_1 : zchp zm_Yard_init 50 14 = true := by decide +kernel
theorem zk_Yard_init : zchk zm_Yard_init = true := zchk_of [(0, 50), (50, 14)] (by decide +kernel) (List.forall_mem_cons.mpr ⟨zk_Yard_init_0, List.forall_mem_cons.mpr ⟨zk_Yard_init_1, fun _ h => absurd h List.not_mem_nil⟩⟩)
theorem zgk_Ox_init : zgchk zm_Ox_init = true := by decide +kernel
theorem zk_Ox_init_0 : zchp zm_Ox_init 0 50 = true := by decide +kernel
theorem zk_Ox_init_1 : zchp zm_Ox_init 50 28 = true := by decide +kernel
theorem zk_Ox_init : zchk zm_Ox_init = true := zchk_of [(0, 50), (50, 28)] (by decide +kernel) (List.forall_mem_cons.mpr ⟨zk_Ox_init_0, List.forall_mem_cons.mpr ⟨zk_Ox_init_1, fun _ h => absurd h List.not_mem_nil⟩⟩)
theorem zgk_Mo_init : zgchk zm_Mo_init = true := by decide +kernel
theorem zk_Mo_init_0 : zchp zm_Mo_init 0 50 = true := by decide +kernel
theorem zk_Mo_init_1 : zchp zm_Mo_init 50 38 = true := by decide +kernel
theorem zk_Mo_init : zchk zm_Mo_init = true := zchk_of [(0, 50), (50, 38)] (by decide +kernel) (List.forall_mem_cons.mpr ⟨zk_Mo_init_0, List.forall_mem_cons.mpr ⟨zk_Mo_init_1, fun _ h => absurd h List.not_mem_nil⟩⟩)
theorem zgk_Row_put : zgchk zm_Row_put = true := by decide +kernel
theorem zgk_Mo_copy : zgchk zm_Mo_copy = true := by decide +kernel
