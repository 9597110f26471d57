/-! the constructors' interpreter: what it keeps -/
set_option maxHeartbeats 2000000 in
theorem zgo_len : ∀ (n d : Nat) (M : zMeth) (k : Nat) (L S : List zV) (g : List zGc) (mc ms : Nat) (g1 : List zGc) (mc1 ms1 : Nat), zgo n d M k L S g mc ms = some (g1, mc1, ms1) → g.length ≤ g1.length := by
  intro n
  induction n with
  | zero => intro d M k L S g mc ms g1 mc1 ms1 h; rw [zgo] at h; cases h
  | succ n ih =>
    intro d M k L S g mc ms g1 mc1 ms1 h
    rw [zgo.eq_def] at h
    dsimp only at h
    generalize zop M k = o at h
    obtain ⟨c, a, x⟩ := o
    dsimp only at h
    repeat' split at h
    all_goals first
      | (cases h; done)
      | (have h2 := ih _ _ _ _ _ _ _ _ _ _ _ h; try simp only [List.length_set, List.length_append, List.length_cons, List.length_nil] at h2
         first
           | omega
           | (rename_i hq; have h3 := ih _ _ _ _ _ _ _ _ _ _ _ hq; omega))
      | (cases h; exact Nat.le_refl _)
theorem zgM_ok : ∀ M ∈ zGm, zchk M = true ∧ zgchk M = true := by
  unfold zGm
  refine List.forall_mem_cons.mpr ⟨⟨zk_Herd_init, zgk_Herd_init⟩, List.forall_mem_cons.mpr ⟨⟨zk_Laws_init, zgk_Laws_init⟩, List.forall_mem_cons.mpr ⟨⟨zk_Odds_init, zgk_Odds_init⟩, List.forall_mem_cons.mpr ⟨⟨zk_Pitches_init, zgk_Pitches_init⟩, List.forall_mem_cons.mpr ⟨⟨zk_Planner_init, zgk_Planner_init⟩, List.forall_mem_cons.mpr ⟨⟨zk_Reader_init, zgk_Reader_init⟩, List.forall_mem_cons.mpr ⟨⟨zk_Row_init, zgk_Row_init⟩, List.forall_mem_cons.mpr ⟨⟨zk_Stays_init, zgk_Stays_init⟩, List.forall_mem_cons.mpr ⟨⟨zk_Steps_init, zgk_Steps_init⟩, List.forall_mem_cons.mpr ⟨⟨zk_Texts_init, zgk_Texts_init⟩, List.forall_mem_cons.mpr ⟨⟨zk_Yard_init, zgk_Yard_init⟩, List.forall_mem_cons.mpr ⟨⟨zk_Ox_init, zgk_Ox_init⟩, List.forall_mem_cons.mpr ⟨⟨zk_Mo_init, zgk_Mo_init⟩, List.forall_mem_cons.mpr ⟨⟨zk_Row_put, zgk_Row_put⟩, List.forall_mem_cons.mpr ⟨⟨zk_Mo_copy, zgk_Mo_copy⟩, fun _ h => absurd h List.not_mem_nil⟩⟩⟩⟩⟩⟩⟩⟩⟩⟩⟩⟩⟩⟩⟩
theorem zop_lt {M : zMeth} {k : Nat} (h9 : (zop M k).1 ≠ 999) : k < M.2.length := by
  rcases Nat.lt_or_ge k M.2.length with h | h
  · exact h
  · exact absurd (by unfold zop; rw [List.getElem?_eq_none h]; rfl) h9
theorem zgck_at {M : zMeth} {k : Nat} (hM : M ∈ zGm) (h9 : (zop M k).1 ≠ 999) : zgck (zop M k) M k = true ∧ zgck2 (zop M k) M = true :=
  ⟨List.all_eq_true.mp (zgM_ok M hM).2 k (List.mem_range.mpr (zop_lt h9)), List.all_eq_true.mp (List.all_eq_true.mp zgc2_ok M hM) k (List.mem_range.mpr (zop_lt h9))⟩
/-- locals and operands stay what they are when a cell is laid -/
theorem zLs_a {E : zE} {as t : List Nat} {nL : Nat} {L : List zV} {ls : Array Slot} (hL : zLs (zEa E as) nL L ls) (hw : L.all (zgwj as.length) = true) : zLs (zEa E (as ++ t)) nL L ls := by
  obtain ⟨h1, h2, lv, h3, h4⟩ := hL
  refine ⟨h1, h2, lv, h3, fun j v hj hv => ?_⟩
  have h5 := List.all_eq_true.mp hw v (List.mem_of_getElem? hj)
  have h6 : zgwv as.length v = true := by
    match v, h5, hv with
    | .inl a, _, _ => rfl
    | .inr (.inl a), _, _ => rfl
    | .inr (.inr r), h5, hv =>
      have h7 : (decide (r < as.length) || decide (r = 9999)) = true := h5
      rcases (Bool.or_eq_true _ _).mp h7 with q | q
      · exact q
      · exact absurd (by rw [of_decide_eq_true q]; rfl) hv
  rw [zup_a h6]
  exact h4 j v hj hv
theorem zmap_a {E : zE} {as t : List Nat} {S : List zV} (hw : ∀ v ∈ S, zgwv as.length v = true) : S.map (zup (zEa E (as ++ t))) = S.map (zup (zEa E as)) :=
  List.map_congr_left (fun v hv => zup_a (hw v hv))
theorem zcat_s {E : zE} (hf : (zfm E).category = 1) {S : List zV} (h : ∀ v ∈ S, zgs v = true) : ((S.map (zup E)).map (fun v => v.category)).sum = S.length := by
  induction S with
  | nil => rfl
  | cons v S ih =>
    have h1 := h v List.mem_cons_self
    have h2 : (zup E v).category = 1 := by
      rw [zup_cat1 E hf]
      match v, h1 with
      | .inl a, _ => rfl
      | .inr (.inr r), _ => rfl
    rw [List.map_cons, List.map_cons, List.sum_cons, ih (fun w hw => h w (List.mem_cons_of_mem _ hw)), h2, List.length_cons]
    omega
