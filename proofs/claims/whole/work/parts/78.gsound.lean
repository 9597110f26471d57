/-! the constructors' interpreter is sound -/
def zgX (E : zE) (d : Nat) (M : zMeth) (p : Program) (R : Room) (s : State) (m : MethodId) (args : Array Value) (meth : Method) (c : Code) : Prop :=
  p.tables.exec = Jvm.exec ∧ c.code = zby M ∧ c.maxLocals = zml M ∧ s.vm.findClass (zcl M) = some m.cls ∧ (∀ w ∈ lw_tblg, w.before args s = true) ∧ va_K (zgD E) vwCl (ztys E) s ∧ (∀ q : Nat, s.heap.size ≤ q → zA E q) ∧ (d ≤ R.frames ∧ 40 * d ≤ R.locals) ∧ meth.name = (zny M).name
theorem zpl_s {L : List zV} (h : ∀ v ∈ L, zgs v = true) (j : Nat) : zpl L j = true := by
  unfold zpl
  split
  · rfl
  · rename_i j
    split
    · rename_i a ha
      have := h _ (List.mem_of_getElem? ha)
      cases this
    · rfl
def zgS (g : List zGc) (S : List zV) : Prop := ∀ v ∈ S, zgs v = true ∧ zrv v ∧ zgwv g.length v = true
theorem zgS_c {g : List zGc} {v : zV} {S : List zV} (h1 : zgs v = true ∧ zrv v ∧ zgwv g.length v = true) (h2 : zgS g S) : zgS g (v :: S) := fun w hw => (List.mem_cons.mp hw).elim (fun q => by rw [q]; exact h1) (h2 w)
theorem zgS_t {g : List zGc} {v : zV} {S : List zV} (h : zgS g (v :: S)) : zgS g S := fun w hw => h w (List.mem_cons_of_mem _ hw)
theorem zgS_h {g : List zGc} {v : zV} {S : List zV} (h : zgS g (v :: S)) : zgs v = true ∧ zrv v ∧ zgwv g.length v = true := h v List.mem_cons_self
def zgEnd (E : zE) (M : zMeth) (p : Program) (l : Launch) (e : Env) (R : Room) (s : State) (m : MethodId) (args : Array Value) (below : List Frame) (meth : Method) (c : Code) (cells slots : Nat) (QQ : State → Prop) (as : List Nat) (g1 : List zGc) : Prop :=
  ∀ (t : List Nat) (H' : Heap) (locs' : List Loc) (pc : Nat) (ls' : Array Slot), zgJ E (as ++ t) g1 s H' locs' → decode (zby M) pc = .ok (.return_, 1) → W p l e R s m args below meth c H' locs' cells slots QQ (F0 m pc ls' [])
def zgW (l : Launch) (E : zE) (d : Nat) (M : zMeth) (k : Nat) (L S : List zV) (g : List zGc) (mc ms : Nat) (g1 : List zGc) (mc1 ms1 : Nat) : Prop :=
  ∀ (p : Program) (e : Env) (R : Room) (s : State) (m : MethodId) (args : Array Value) (below : List Frame) (meth : Method) (c : Code) (H : Heap) (locs : List Loc) (ls : Array Slot) (c0 s0 : Nat) (QQ : State → Prop) (as : List Nat),
    zgX E d M p R s m args meth c → zgJ E as g s H locs → zLs (zEa E as) (zml M) L ls → (∀ v ∈ L, zgs v = true) → zgS g S → c0 + mc1 ≤ R.cells → s0 + ms1 ≤ R.slots → zgEnd E M p l e R s m args below meth c (c0 + mc1) (s0 + ms1) QQ as g1 →
    W p l e R s m args below meth c H locs (c0 + mc) (s0 + ms) QQ (F0 m (zpc M k) ls (S.map (zup (zEa E as))))
section ZGW
variable {l : Launch} {E : zE} {d : Nat} {M : zMeth} {k : Nat} {L S : List zV} {g : List zGc} {mc ms : Nat} {g1 : List zGc} {mc1 ms1 : Nat} {n : Int} {ix : List Nat}
theorem v_const (hM : M ∈ zGm) (ho : zop M k = (0, n, ix)) (kk : zgW l E d M (k + 1) L (.inl n :: S) g mc ms g1 mc1 ms1) : zgW l E d M k L S g mc ms g1 mc1 ms1 := by
  intro p e R s m args below meth c H locs ls c0 s0 QQ as hX hJ hL hLg hSg hcl hsl hE
  exact g_const hX.1 hX.2.1 (zgM_ok M hM).1 hX.2.2.2.1 hX.2.2.2.2.1 ho (fun hr => kk p e R s m args below meth c H locs ls c0 s0 QQ as hX hJ hL hLg (zgS_c ⟨rfl, hr, rfl⟩ hSg) hcl hsl hE)
theorem v_iload {a : Int} (hM : M ∈ zGm) (ho : zop M k = (1, n, ix)) (hj : L[zg ix 0]? = some (.inl a)) (kk : zgW l E d M (k + 1) L (.inl a :: S) g mc ms g1 mc1 ms1) : zgW l E d M k L S g mc ms g1 mc1 ms1 := by
  intro p e R s m args below meth c H locs ls c0 s0 QQ as hX hJ hL hLg hSg hcl hsl hE
  obtain ⟨hl, hr⟩ := zLs_at hL hj (fun q => by cases q)
  exact g_iload hX.1 hX.2.1 (zgM_ok M hM).1 ho hl (kk p e R s m args below meth c H locs ls c0 s0 QQ as hX hJ hL hLg (zgS_c ⟨rfl, hr, rfl⟩ hSg) hcl hsl hE)
theorem v_istore {a : Int} (hf : (zfm E).category = 1) (hM : M ∈ zGm) (ho : zop M k = (2, n, ix)) (hj : zg ix 0 < L.length) (kk : zgW l E d M (k + 1) (L.set (zg ix 0) (.inl a)) S g mc ms g1 mc1 ms1) : zgW l E d M k L (.inl a :: S) g mc ms g1 mc1 ms1 := by
  intro p e R s m args below meth c H locs ls c0 s0 QQ as hX hJ hL hLg hSg hcl hsl hE
  obtain ⟨hlen, hrr, lv, hh, h2⟩ := hL
  refine g_istore hX.1 hX.2.1 (zgM_ok M hM).1 ho hh (by rw [← hlen]; exact hj) (fun ls' h3 => kk p e R s m args below meth c H locs ls' c0 s0 QQ as hX hJ (zLs_st1 (v := .inl a) hf hlen hrr h2 (zpl_s hLg _) (zgS_h hSg).2.1 h3) (fun v hv => ?_) (zgS_t hSg) hcl hsl hE)
  rcases List.mem_or_eq_of_mem_set hv with q | q
  · exact hLg v q
  · rw [q]; rfl
theorem v_aload {r : Nat} (hg : g.length ≤ 1000) (hM : M ∈ zGm) (ho : zop M k = (3, n, ix)) (hj : L[zg ix 0]? = some (.inr (.inr r))) (hr : r < g.length) (kk : zgW l E d M (k + 1) L (.inr (.inr r) :: S) g mc ms g1 mc1 ms1) : zgW l E d M k L S g mc ms g1 mc1 ms1 := by
  intro p e R s m args below meth c H locs ls c0 s0 QQ as hX hJ hL hLg hSg hcl hsl hE
  obtain ⟨hl, -⟩ := zLs_at hL hj (fun q => by cases q; omega)
  rw [zrf_r (by omega)] at hl
  have k1 := kk p e R s m args below meth c H locs ls c0 s0 QQ as hX hJ hL hLg (zgS_c ⟨rfl, trivial, decide_eq_true hr⟩ hSg) hcl hsl hE
  rw [List.map_cons, zrf_r (by omega)] at k1
  exact g_aload hX.1 hX.2.1 (zgM_ok M hM).1 ho hl k1
theorem v_astore {r : Nat} (hf : (zfm E).category = 1) (hg : g.length ≤ 1000) (hM : M ∈ zGm) (ho : zop M k = (4, n, ix)) (hj : zg ix 0 < L.length) (hr : r < g.length) (kk : zgW l E d M (k + 1) (L.set (zg ix 0) (.inr (.inr r))) S g mc ms g1 mc1 ms1) : zgW l E d M k L (.inr (.inr r) :: S) g mc ms g1 mc1 ms1 := by
  intro p e R s m args below meth c H locs ls c0 s0 QQ as hX hJ hL hLg hSg hcl hsl hE
  obtain ⟨hlen, hrr, lv, hh, h2⟩ := hL
  rw [List.map_cons, zrf_r (by omega)]
  refine g_astore hX.1 hX.2.1 (zgM_ok M hM).1 ho hh (by rw [← hlen]; exact hj) (fun ls' h3 => kk p e R s m args below meth c H locs ls' c0 s0 QQ as hX hJ (zLs_st1 (v := .inr (.inr r)) hf hlen hrr h2 (zpl_s hLg _) trivial (by rw [zrf_r (by omega)]; exact h3)) (fun v hv => ?_) (zgS_t hSg) hcl hsl hE)
  rcases List.mem_or_eq_of_mem_set hv with q | q
  · exact hLg v q
  · rw [q]; rfl
theorem v_iinc {a : Int} (hf : (zfm E).category = 1) (hM : M ∈ zGm) (ho : zop M k = (7, n, ix)) (hj : L[zg ix 0]? = some (.inl a)) (kk : zgW l E d M (k + 1) (L.set (zg ix 0) (.inl (w32 (a + n)))) S g mc ms g1 mc1 ms1) : zgW l E d M k L S g mc ms g1 mc1 ms1 := by
  intro p e R s m args below meth c H locs ls c0 s0 QQ as hX hJ hL hLg hSg hcl hsl hE
  obtain ⟨hlen, hrr, lv, hh, h2⟩ := hL
  refine g_iinc hX.1 hX.2.1 (zgM_ok M hM).1 ho hh (h2 _ _ hj (fun q => by cases q)) (by rw [← hlen]; exact (List.getElem?_eq_some_iff.mp hj).1) (fun ls' h3 => kk p e R s m args below meth c H locs ls' c0 s0 QQ as hX hJ (zLs_st1 (v := .inl (w32 (a + n))) hf hlen hrr h2 (zpl_s hLg _) (w32_r _) h3) (fun v hv => ?_) hSg hcl hsl hE)
  rcases List.mem_or_eq_of_mem_set hv with q | q
  · exact hLg v q
  · rw [q]; rfl
theorem v_dup {r : Nat} (hg : g.length ≤ 1000) (hM : M ∈ zGm) (ho : zop M k = (32, n, ix)) (hr : r < g.length) (kk : zgW l E d M (k + 1) L (.inr (.inr r) :: .inr (.inr r) :: S) g mc ms g1 mc1 ms1) : zgW l E d M k L (.inr (.inr r) :: S) g mc ms g1 mc1 ms1 := by
  intro p e R s m args below meth c H locs ls c0 s0 QQ as hX hJ hL hLg hSg hcl hsl hE
  have k1 := kk p e R s m args below meth c H locs ls c0 s0 QQ as hX hJ hL hLg (zgS_c (zgS_h hSg) hSg) hcl hsl hE
  rw [List.map_cons, List.map_cons, zrf_r (by omega)] at k1
  rw [List.map_cons, zrf_r (by omega)]
  exact g_dup hX.1 hX.2.1 (zgM_ok M hM).1 ho k1
theorem v_icmp {a b : Int} (hM : M ∈ zGm) (ho : zop M k = (35, n, ix)) (kk : zgW l E d M (if zgb (zg ix 0) a b then zg ix 1 else k + 1) L S g mc ms g1 mc1 ms1) : zgW l E d M k L (.inl b :: .inl a :: S) g mc ms g1 mc1 ms1 := by
  intro p e R s m args below meth c H locs ls c0 s0 QQ as hX hJ hL hLg hSg hcl hsl hE
  exact g_icmp (zgS_h (zgS_t hSg)).2.1 (zgS_h hSg).2.1 hX.1 hX.2.1 (zgM_ok M hM).1 ho (kk p e R s m args below meth c H locs ls c0 s0 QQ as hX hJ hL hLg (zgS_t (zgS_t hSg)) hcl hsl hE)
theorem v_if {a : Int} (hM : M ∈ zGm) (ho : zop M k = (36, n, ix)) (kk : zgW l E d M (if zgb (zg ix 0) a 0 then zg ix 1 else k + 1) L S g mc ms g1 mc1 ms1) : zgW l E d M k L (.inl a :: S) g mc ms g1 mc1 ms1 := by
  intro p e R s m args below meth c H locs ls c0 s0 QQ as hX hJ hL hLg hSg hcl hsl hE
  exact g_if (zgS_h hSg).2.1 hX.1 hX.2.1 (zgM_ok M hM).1 ho (kk p e R s m args below meth c H locs ls c0 s0 QQ as hX hJ hL hLg (zgS_t hSg) hcl hsl hE)
theorem v_goto (hM : M ∈ zGm) (ho : zop M k = (37, n, ix)) (kk : zgW l E d M (zg ix 0) L S g mc ms g1 mc1 ms1) : zgW l E d M k L S g mc ms g1 mc1 ms1 := by
  intro p e R s m args below meth c H locs ls c0 s0 QQ as hX hJ hL hLg hSg hcl hsl hE
  exact g_goto hX.1 hX.2.1 (zgM_ok M hM).1 ho (kk p e R s m args below meth c H locs ls c0 s0 QQ as hX hJ hL hLg hSg hcl hsl hE)
theorem v_ret (hM : M ∈ zGm) (ho : zop M k = (53, n, ix)) : zgW l E d M k L [] g mc ms g mc ms := by
  intro p e R s m args below meth c H locs ls c0 s0 QQ as hX hJ hL hLg hSg hcl hsl hE
  have hck : decide (decode (zby M) (zpc M k) = .ok (.return_, 1)) = true := zck_at (zgM_ok M hM).1 ho (by decide : (53 : Nat) ≠ 999)
  exact hE [] H locs (zpc M k) ls (by rw [List.append_nil]; exact hJ) (of_decide_eq_true hck)
end ZGW
