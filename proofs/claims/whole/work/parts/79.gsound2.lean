/-! the constructors' interpreter is sound: cells -/
theorem zgS_l {g g' : List zGc} {S : List zV} (h : zgS g S) (hl : g.length ≤ g'.length) : zgS g' S := fun v hv => ⟨(h v hv).1, (h v hv).2.1, zgwv_mono (h v hv).2.2 hl⟩
theorem zgl_r {w : List (Nat × Int)} (h : ∀ x ∈ w, zI32 x.2) (j : Nat) : zI32 (zgl w j) := by
  unfold zgl
  cases hq : w.find? (fun q => q.1 == j) with
  | none => show zI32 0; unfold zI32; omega
  | some q => exact h q (List.mem_of_find?_eq_some hq)
theorem zgEnd_a {E : zE} {M : zMeth} {p : Program} {l : Launch} {e : Env} {R : Room} {s : State} {m : MethodId} {args : Array Value} {below : List Frame} {meth : Method} {c : Code} {cells slots : Nat} {QQ : State → Prop} {as t : List Nat} {g1 : List zGc} (h : zgEnd E M p l e R s m args below meth c cells slots QQ as g1) : zgEnd E M p l e R s m args below meth c cells slots QQ (as ++ t) g1 := by
  intro t' H' locs' pc ls' hJ hd
  rw [List.append_assoc] at hJ
  exact h (t ++ t') H' locs' pc ls' hJ hd
theorem zad_new {E : zE} {as : List Nat} {q n : Nat} (h : as.length = n) : zad (zEa E (as ++ [q])) n = q := by
  show ((as ++ [q])[n]?).getD _ = q
  rw [← h, List.getElem?_append_right (Nat.le_refl _), Nat.sub_self]
  rfl
section ZGW
variable {l : Launch} {E : zE} {d : Nat} {M : zMeth} {k : Nat} {L S : List zV} {g : List zGc} {mc ms : Nat} {g1 : List zGc} {mc1 ms1 : Nat} {n : Int} {ix : List Nat}
theorem v_get {r : Nat} {fs : List zGf} {v : zV} (hgl : g.length ≤ 1000) (hM : M ∈ zGm) (ho : zop M k = (40, n, ix)) (hg : g[r]? = some (.inl (zg ix 1, fs))) (hfz : fs[zg ix 2]? = some (some v)) (hvs : zgs v = true) (kk : zgW l E d M (k + 1) L (v :: S) g mc ms g1 mc1 ms1) : zgW l E d M k L (.inr (.inr r) :: S) g mc ms g1 mc1 ms1 := by
  intro p e R s m args below meth c H locs ls c0 s0 QQ as hX hJ hL hLg hSg hcl hsl hE
  have hm := List.mem_of_getElem? hg
  have hr := (List.getElem?_eq_some_iff.mp hg).1
  have a1 : ∀ v, some v ∈ fs → zrv v := hJ.1.2.1 _ hm
  have a2 : fs.all (fun f => match f with | none => true | some v => zgwv g.length v) = true := hJ.1.2.2 _ hm
  have a3 := List.mem_of_getElem? hfz
  have hck := (zgck_at hM (by rw [ho]; exact (by decide : (40 : Nat) ≠ 999))).2
  rw [ho] at hck
  rw [List.map_cons, zrf_r (by omega)]
  exact g_get (ci := 0) (z := 0) hX.1 hX.2.1 (zgM_ok M hM).1 hX.2.2.2.2.1 hX.2.2.2.1 hX.2.2.2.2.2.1 hJ ho hck hg hfz (kk p e R s m args below meth c H locs ls c0 s0 QQ as hX hJ hL hLg (zgS_c ⟨hvs, a1 v a3, List.all_eq_true.mp a2 _ a3⟩ (zgS_t hSg)) hcl hsl hE)
theorem v_put {r : Nat} {fs : List zGf} {v : zV} (hgl : g.length ≤ 1000) (hM : M ∈ zGm) (ho : zop M k = (41, n, ix)) (hg : g[r]? = some (.inl (zg ix 1, fs))) (hz : zg ix 2 < fs.length) (hkv : zgkv (zg ((zGn[zg ix 1]?).getD []) (zg ix 2)) v = true) (kk : zgW l E d M (k + 1) L S (g.set r (.inl (zg ix 1, fs.set (zg ix 2) (some v)))) mc ms g1 mc1 ms1) : zgW l E d M k L (v :: .inr (.inr r) :: S) g mc ms g1 mc1 ms1 := by
  intro p e R s m args below meth c H locs ls c0 s0 QQ as hX hJ hL hLg hSg hcl hsl hE
  have hr := (List.getElem?_eq_some_iff.mp hg).1
  obtain ⟨hc1, hc2⟩ := zgck_at hM (by rw [ho]; exact (by decide : (41 : Nat) ≠ 999))
  rw [ho] at hc1 hc2
  have hc1 : decide ((zny M).name = "<init>") = true := hc1
  have hc2 : (zFp.contains ((zhd M).1, zg ix 0, zg ix 1, zg ix 2, false) && (zhd M).1 == zg ix 1) = true := hc2
  obtain ⟨hc2, hc3⟩ := (Bool.and_eq_true _ _).mp hc2
  obtain ⟨b1, b2, b3⟩ := zgS_h hSg
  rw [List.map_cons, List.map_cons, zrf_r (by omega : r < 1005)]
  refine g_put hX.1 hX.2.1 (zgM_ok M hM).1 hX.2.2.2.2.1 hX.2.2.2.1 hX.2.2.2.2.2.1 (hX.2.2.2.2.2.2.2.2.trans (of_decide_eq_true hc1)) hJ ho hc2 (beq_iff_eq.mp hc3) hg hz hkv b2 (fun i hi => ?_) b3 (fun H1 locs1 hJ1 => kk p e R s m args below meth c H1 locs1 ls c0 s0 QQ as hX hJ1 hL hLg (zgS_l (zgS_t (zgS_t hSg)) (by rw [List.length_set]; exact Nat.le_refl _)) hcl hsl hE)
  rw [hi] at b3
  have : i < g.length := of_decide_eq_true b3
  omega
theorem v_iald {r N : Nat} {a : Int} {w : List (Nat × Int)} (hgl : g.length ≤ 1000) (hM : M ∈ zGm) (ho : zop M k = (42, n, ix)) (hg : g[r]? = some (.inr (0, N, w))) (h0 : 0 ≤ a) (hN : a < N) (kk : zgW l E d M (k + 1) L (.inl (zgl w a.toNat) :: S) g mc ms g1 mc1 ms1) : zgW l E d M k L (.inl a :: .inr (.inr r) :: S) g mc ms g1 mc1 ms1 := by
  intro p e R s m args below meth c H locs ls c0 s0 QQ as hX hJ hL hLg hSg hcl hsl hE
  have hr := (List.getElem?_eq_some_iff.mp hg).1
  have hw : N < 100000 ∧ ∀ x ∈ w, zI32 x.2 := hJ.1.2.1 _ (List.mem_of_getElem? hg)
  rw [List.map_cons, List.map_cons, zrf_r (by omega : r < 1005)]
  exact g_iald hX.1 hX.2.1 (zgM_ok M hM).1 hX.2.2.2.2.2.1 hJ ho hg (zgS_h hSg).2.1 h0 hN (kk p e R s m args below meth c H locs ls c0 s0 QQ as hX hJ hL hLg (zgS_c ⟨rfl, zgl_r hw.2 _, rfl⟩ (zgS_t (zgS_t hSg))) hcl hsl hE)
theorem v_iast {r N : Nat} {a b : Int} {w : List (Nat × Int)} (hgl : g.length ≤ 1000) (hM : M ∈ zGm) (ho : zop M k = (43, n, ix)) (hg : g[r]? = some (.inr (0, N, w))) (h0 : 0 ≤ a) (hN : a < N) (kk : zgW l E d M (k + 1) L S (g.set r (.inr (0, N, (if b = zgl w a.toNat then w else (a.toNat, b) :: w)))) mc ms g1 mc1 ms1) : zgW l E d M k L (.inl b :: .inl a :: .inr (.inr r) :: S) g mc ms g1 mc1 ms1 := by
  intro p e R s m args below meth c H locs ls c0 s0 QQ as hX hJ hL hLg hSg hcl hsl hE
  have hr := (List.getElem?_eq_some_iff.mp hg).1
  rw [List.map_cons, List.map_cons, List.map_cons, zrf_r (by omega : r < 1005)]
  exact g_iast hX.1 hX.2.1 (zgM_ok M hM).1 hX.2.2.2.2.2.1 hJ ho hg (zgS_h (zgS_t hSg)).2.1 (zgS_h hSg).2.1 h0 hN (fun H1 locs1 hJ1 => kk p e R s m args below meth c H1 locs1 ls c0 s0 QQ as hX hJ1 hL hLg (zgS_l (zgS_t (zgS_t (zgS_t hSg))) (by rw [List.length_set]; exact Nat.le_refl _)) hcl hsl hE)
theorem v_alen {r N kd : Nat} {w : List (Nat × Int)} (hgl : g.length ≤ 1000) (hM : M ∈ zGm) (ho : zop M k = (48, n, ix)) (hg : g[r]? = some (.inr (kd, N, w))) (kk : zgW l E d M (k + 1) L (.inl (N : Int) :: S) g mc ms g1 mc1 ms1) : zgW l E d M k L (.inr (.inr r) :: S) g mc ms g1 mc1 ms1 := by
  intro p e R s m args below meth c H locs ls c0 s0 QQ as hX hJ hL hLg hSg hcl hsl hE
  have hr := (List.getElem?_eq_some_iff.mp hg).1
  have hw : N < 100000 ∧ ∀ x ∈ w, zI32 x.2 := hJ.1.2.1 _ (List.mem_of_getElem? hg)
  rw [List.map_cons, zrf_r (by omega : r < 1005)]
  exact g_alen hX.1 hX.2.1 (zgM_ok M hM).1 hX.2.2.2.2.2.1 hJ ho hg (kk p e R s m args below meth c H locs ls c0 s0 QQ as hX hJ hL hLg (zgS_c ⟨rfl, (show zI32 (N : Int) by unfold zI32; omega), rfl⟩ (zgS_t hSg)) hcl hsl hE)
theorem v_obj {r : Nat} (hf : (zfm E).category = 1) (hgl : g.length ≤ 1000) (hM : M ∈ zGm) (ho : zop M k = (66, n, ix)) (hr : r < g.length) (hd : 1 ≤ d) (hS8 : S.length ≤ 8) (kk : zgW l E d M (k + 1) L S g mc ms g1 mc1 ms1) : zgW l E d M k L (.inr (.inr r) :: S) g mc ms g1 mc1 ms1 := by
  intro p e R s m args below meth c H locs ls c0 s0 QQ as hX hJ hL hLg hSg hcl hsl hE
  obtain ⟨f1, f2⟩ := hX.2.2.2.2.2.2.2.1
  have hls : ls.size = zml M := by obtain ⟨-, -, lv, hh, -⟩ := hL; exact hh.1
  rw [List.map_cons, zrf_r (by omega : r < 1005)]
  exact g_obj hX.1 hX.2.1 hX.2.2.2.1 hX.2.2.2.2.1 hX.2.2.1 hls (zgck_at hM (by rw [ho]; exact (by decide : (66 : Nat) ≠ 999))).1 ho (by omega) (by omega) (by rw [zcat_s (E := zEa E as) hf (fun v hv => (zgS_t hSg v hv).1)]; exact hS8) (kk p e R s m args below meth c H locs ls c0 s0 QQ as hX hJ hL hLg (zgS_t hSg) hcl hsl hE)
theorem v_new {ks : List Nat} (hgl : g.length < 1000) (hM : M ∈ zGm) (ho : zop M k = (64, n, ix)) (hks : zGn[zg ix 1]? = some ks) (hw : zgw L S g = true) (hmo : mc + 1 ≤ mc1 ∧ ms + ks.length ≤ ms1) (kk : zgW l E d M (k + 1) L (.inr (.inr g.length) :: S) (g ++ [.inl (zg ix 1, ks.map zgz)]) (mc + 1) (ms + ks.length) g1 mc1 ms1) : zgW l E d M k L S g mc ms g1 mc1 ms1 := by
  intro p e R s m args below meth c H locs ls c0 s0 QQ as hX hJ hL hLg hSg hcl hsl hE
  have hw2 := (Bool.and_eq_true _ _).mp hw
  have hw3 := (Bool.and_eq_true _ _).mp hw2.2
  have hal := hJ.1.1
  refine g_new hX.1 hX.2.1 (zgM_ok M hM).1 hX.2.2.2.2.1 hX.2.2.2.1 hX.2.2.2.2.2.1 hX.2.2.2.2.2.2.1 hJ hw3.2 (zgck_at hM (by rw [ho]; exact (by decide : (64 : Nat) ≠ 999))).1 ho hks (by omega) (by omega) (fun q H1 hJ1 => ?_)
  have k1 := kk p e R s m args below meth c H1 locs ls c0 s0 QQ (as ++ [q]) hX hJ1 (zLs_a hL (by rw [hal]; exact hw2.1)) hLg (zgS_c ⟨rfl, trivial, decide_eq_true (by rw [List.length_append]; exact Nat.lt_succ_self _)⟩ (zgS_l hSg (by rw [List.length_append]; omega))) hcl hsl (zgEnd_a hE)
  rw [List.map_cons, zrf_r (by omega), zad_new hal, zmap_a (fun v hv => by rw [hal]; exact (hSg v hv).2.2)] at k1
  rw [Nat.add_assoc, Nat.add_assoc]
  exact k1
theorem v_newa {a : Int} (hgl : g.length < 1000) (hM : M ∈ zGm) (ho : zop M k = (67, n, ix)) (h0 : 0 ≤ a) (ha : a < 100000) (hw : zgw L S g = true) (hmo : mc + 1 ≤ mc1 ∧ ms + a.toNat ≤ ms1) (kk : zgW l E d M (k + 1) L (.inr (.inr g.length) :: S) (g ++ [.inr (zg ix 0, a.toNat, [])]) (mc + 1) (ms + a.toNat) g1 mc1 ms1) : zgW l E d M k L (.inl a :: S) g mc ms g1 mc1 ms1 := by
  intro p e R s m args below meth c H locs ls c0 s0 QQ as hX hJ hL hLg hSg hcl hsl hE
  have hw2 := (Bool.and_eq_true _ _).mp hw
  have hw3 := (Bool.and_eq_true _ _).mp hw2.2
  have hal := hJ.1.1
  refine g_newa hX.1 hX.2.1 hX.2.2.2.2.1 hX.2.2.2.2.2.1 hX.2.2.2.2.2.2.1 hJ hw3.2 (zgck_at hM (by rw [ho]; exact (by decide : (67 : Nat) ≠ 999))).1 ho h0 ha (by omega) (by omega) (fun q H1 hJ1 => ?_)
  have k1 := kk p e R s m args below meth c H1 locs ls c0 s0 QQ (as ++ [q]) hX hJ1 (zLs_a hL (by rw [hal]; exact hw2.1)) hLg (zgS_c ⟨rfl, trivial, decide_eq_true (by rw [List.length_append]; exact Nat.lt_succ_self _)⟩ (zgS_l (zgS_t hSg) (by rw [List.length_append]; omega))) hcl hsl (zgEnd_a hE)
  rw [List.map_cons, zrf_r (by omega), zad_new hal, zmap_a (fun v hv => by rw [hal]; exact (zgS_t hSg v hv).2.2)] at k1
  rw [Nat.add_assoc, Nat.add_assoc]
  exact k1
end ZGW
