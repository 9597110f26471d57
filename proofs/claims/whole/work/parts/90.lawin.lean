/-! the law from its entry to its loop -/
def zm_Ls : zMeth := (247, [(0, (64, 0, [7, 11])), (3, (32, 0, [])), (4, (63, 0, [9, 94])), (7, (4, 0, [1])), (8, (64, 0, [10, 12])), (11, (32, 0, [])), (12, (63, 0, [12, 137])), (15, (4, 0, [2])), (16, (0, 0, [])), (17, (2, 0, [3])), (18, (999, 0, []))])
theorem zk_Ls : zchk zm_Ls = true := by decide +kernel
theorem zgk_Ls : zgchk zm_Ls = true := by decide +kernel
theorem zgk_at {k : Nat} (h : k < 11) : zgck (zop zm_Ls k) zm_Ls k = true := List.all_eq_true.mp zgk_Ls k (List.mem_range.mpr h)
theorem zgall_of {g : List zGc} (h : zgR g) : g.all (zgwc g.length) = true := List.all_eq_true.mpr h.2
theorem zg1_len : zg1.length = 85 := by decide +kernel
theorem zg2_len : zg2.length = 102 := by decide +kernel
set_option maxHeartbeats 4000000 in
theorem zst_loop {p : Program} {e : Env} {s : State} {m : MethodId} {below : List Frame} {meth : Method} {c : Code} {l : Launch} {E : zE} {as : List Nat} {b L : Nat} {xs : Nat → Int32} {H : Heap} {locs : List Loc} {ls : Array Slot} (hL : L ≤ 3584) (C0 : lw_At p s m meth c b L xs) (hsc : (zsc E).1 = L) (hz : ∀ a, zI32 (zsx E a)) (hAE : ∀ q : Nat, zA E q → s.heap.size ≤ q) (hf : (zfm E).category = 1) (hK : va_K (zgD E) vwCl (ztys E) s) (hs : zStr E s) (hb0 : zad E 1000 = b) (hJ : zgJ E as zg2 s H locs) {q0 q1 : Nat} (h0 : zad (zEa E as) 0 = q0) (h1 : zad (zEa E as) 85 = q1) (hl : lv_has ls 4 [(3, .int 0), (2, .ref q1), (1, .ref q0), (0, .ref b)]) {cells slots : Nat} (hc1 : cells ≤ 600000) (hs1 : slots ≤ 7302250) :
    W p l e room_1 s m #[Value.ref b] below meth c H locs cells slots (lw_Z below #[Value.ref b] s) (F0 m 18 ls []) := by
  obtain ⟨hx, hb, hr, hml, hown, hts, hX, hbl, hlocks, hgv⟩ := id C0
  have hlen : as.length = 102 := by rw [hJ.1.1]; exact zg2_len
  have hP : va_P (zgD E) vwCl (zwl (zEa E as) zh0) H := by rw [← zgw_wl]; exact hJ.2.1
  have hD : va_D (zA E) (zwl (zEa E as) zh0) := by rw [← zgw_wl]; exact hJ.2.2.1
  have hW := zw_La_loop (l := l) (E := zEa E as) (d := 116) (Nat.le_refl _) 300000 (by show (zsc E).1 < 100000; omega) hz zInv (fun x3 h _ _ hI => zlw_case (Nat.le_refl _) hz x3 hI) (L + 7) 0 zh0 zh0_inv (Int.le_refl 0) (by omega) (by show ((zsc E).1 : Int) + 7 ≤ 0 + ((L + 7 : Nat) : Int); omega)
  refine hW p e room_1 s m #[Value.ref b] below meth c H locs ls cells slots (lw_Z below #[Value.ref b] s) ⟨hx, hb, hml, hown, fun w hw => hts w (lw_tblg_in w hw).1, hK, zEo_of hD, zk_La_law, ⟨Nat.le_of_ble_eq_true rfl, Nat.le_of_ble_eq_true rfl⟩, ⟨hc1, hs1⟩, zStr_a (by omega) hs, hf⟩ ?_ ⟨zh0_rg, hP, hJ.2.2.2⟩ ⟨rfl, ?_, _, hl, ?_⟩ (fun v hv => by cases hv)
  · intro r h H1 locs1 pc ls1 hS hR hQ hdg
    subst hQ
    refine va_forget (fun q hq => hAE _ (hS.2.2.2.2 q hq)) ?_
    refine W.widen (k := 600000) (n := 7302250) hc1 hs1 ?_
    exact lw_ret hx hb hr hlocks hdg
  · intro v hv
    simp only [List.mem_cons, List.not_mem_nil, or_false] at hv
    rcases hv with rfl | rfl | rfl | rfl
    · trivial
    · trivial
    · trivial
    · show zI32 0
      unfold zI32
      omega
  · intro j v hj hv
    match j, hj with
    | 0, hj =>
      cases hj
      rw [zrf_r (by omega), zad_big (by omega), hb0]
      simp
    | 1, hj =>
      cases hj
      rw [zrf_r (by omega), h0]
      simp
    | 2, hj =>
      cases hj
      rw [zrf_r (by omega), h1]
      simp
    | 3, hj =>
      cases hj
      exact List.mem_cons_self
    | j + 4, hj => cases hj
