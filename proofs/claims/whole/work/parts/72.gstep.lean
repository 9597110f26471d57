/-! the constructors' single steps -/
section ZG
variable {p : Program} {l : Launch} {e : Env} {R : Room} {s : State} {m : MethodId} {args : Array Value} {below : List Frame} {meth : Method} {c : Code} {H : Heap} {locs : List Loc} {cells slots : Nat} {QQ : State → Prop} {M : zMeth} {k : Nat} {ls : Array Slot} {st : List Value} {n : Int} {ix : List Nat}
theorem g_const (hx : p.tables.exec = Jvm.exec) (hb : c.code = zby M) (hc : zchk M = true) (hown : s.vm.findClass (zcl M) = some m.cls) (hw : ∀ w ∈ lw_tblg, w.before args s = true) (ho : zop M k = (0, n, ix)) (h1 : zI32 n → W p l e R s m args below meth c H locs cells slots QQ (F0 m (zpc M (k + 1)) ls (.int (Int32.ofInt n) :: st))) : W p l e R s m args below meth c H locs cells slots QQ (F0 m (zpc M k) ls st) := by
  have hck : ((decide (-2147483648 ≤ n ∧ n ≤ 2147483647)) && (zdc M k 1 (.iconst n) || ((decide ((Int8.ofInt n).toInt32 = Int32.ofInt n) && zdc M k 2 (.bipush n)) || ((decide ((Int16.ofInt n).toInt32 = Int32.ofInt n) && zdc M k 3 (.sipush n)) || (decide (Jvm.Cond.constant (zcl M) (zg ix 0) (Int32.ofInt n) ∈ lw_tbl) && (zdc M k 2 (.ldc (zg ix 0)) || zdc M k 3 (.ldc_w (zg ix 0)))))))) = true := zck_at hc ho (by decide : (0 : Nat) ≠ 999)
  obtain ⟨hr, hck⟩ := (Bool.and_eq_true _ _).mp hck
  have h1 := h1 (zI32_d hr)
  rcases (Bool.or_eq_true _ _).mp hck with q | q
  · obtain ⟨hdg, hn⟩ := zdc_at q
    rw [hn] at h1
    exact lv_iconst hx hb hdg rfl h1
  · rcases (Bool.or_eq_true _ _).mp q with q | q
    · obtain ⟨q1, q⟩ := (Bool.and_eq_true _ _).mp q
      obtain ⟨hdg, hn⟩ := zdc_at q
      rw [hn] at h1
      exact lv_bipush hx hb hdg (of_decide_eq_true q1) h1
    · rcases (Bool.or_eq_true _ _).mp q with q | q
      · obtain ⟨q1, q⟩ := (Bool.and_eq_true _ _).mp q
        obtain ⟨hdg, hn⟩ := zdc_at q
        rw [hn] at h1
        exact lv_sipush hx hb hdg (of_decide_eq_true q1) h1
      · obtain ⟨q1, q⟩ := (Bool.and_eq_true _ _).mp q
        have hc := hw _ (List.mem_filter.mpr ⟨of_decide_eq_true q1, rfl⟩)
        rcases (Bool.or_eq_true _ _).mp q with q | q
        · obtain ⟨hdg, hn⟩ := zdc_at q
          rw [hn] at h1
          exact lv_ldc hx hb hown hc hdg h1
        · obtain ⟨hdg, hn⟩ := zdc_at q
          rw [hn] at h1
          exact lv_ldcw hx hb hown hc hdg h1
theorem g_iload {x : Int32} (hx : p.tables.exec = Jvm.exec) (hb : c.code = zby M) (hc : zchk M = true) (ho : zop M k = (1, n, ix)) (hl : ls[zg ix 0]? = some (.val (.int x))) (h1 : W p l e R s m args below meth c H locs cells slots QQ (F0 m (zpc M (k + 1)) ls (.int x :: st))) : W p l e R s m args below meth c H locs cells slots QQ (F0 m (zpc M k) ls st) := by
  have hck : (zdc M k 2 (.iload (zg ix 0)) || (decide (zg ix 0 < 4) && zdc M k 1 (.iload_n (Fin.ofNat 4 (zg ix 0))))) = true := zck_at hc ho (by decide : (1 : Nat) ≠ 999)
  rcases (Bool.or_eq_true _ _).mp hck with q | q
  · obtain ⟨hdg, hn⟩ := zdc_at q
    rw [hn] at h1
    exact lv_iload hx hb hdg hl h1
  · obtain ⟨q1, q⟩ := (Bool.and_eq_true _ _).mp q
    obtain ⟨hdg, hn⟩ := zdc_at q
    rw [hn] at h1
    exact lv_iload_n hx hb hdg (zfin (of_decide_eq_true q1)) hl h1
theorem g_aload {x : Nat} (hx : p.tables.exec = Jvm.exec) (hb : c.code = zby M) (hc : zchk M = true) (ho : zop M k = (3, n, ix)) (hl : ls[zg ix 0]? = some (.val (.ref x))) (h1 : W p l e R s m args below meth c H locs cells slots QQ (F0 m (zpc M (k + 1)) ls (.ref x :: st))) : W p l e R s m args below meth c H locs cells slots QQ (F0 m (zpc M k) ls st) := by
  have hck : (zdc M k 2 (.aload (zg ix 0)) || (decide (zg ix 0 < 4) && zdc M k 1 (.aload_n (Fin.ofNat 4 (zg ix 0))))) = true := zck_at hc ho (by decide : (3 : Nat) ≠ 999)
  rcases (Bool.or_eq_true _ _).mp hck with q | q
  · obtain ⟨hdg, hn⟩ := zdc_at q
    rw [hn] at h1
    exact lv_aload hx hb hdg hl h1
  · obtain ⟨q1, q⟩ := (Bool.and_eq_true _ _).mp q
    obtain ⟨hdg, hn⟩ := zdc_at q
    rw [hn] at h1
    exact lv_aload_n hx hb hdg (zfin (of_decide_eq_true q1)) hl h1
theorem g_istore {x : Int32} {lv : List (Nat × Value)} (hx : p.tables.exec = Jvm.exec) (hb : c.code = zby M) (hc : zchk M = true) (ho : zop M k = (2, n, ix)) (hh : lv_has ls (zml M) lv) (hj : zg ix 0 < zml M) (h1 : ∀ ls', lv_has ls' (zml M) ((zg ix 0, Value.int x) :: lv.filter (fun q => !(q.1 == zg ix 0) && !(q.1 + 1 == zg ix 0 && q.2.category == 2))) → W p l e R s m args below meth c H locs cells slots QQ (F0 m (zpc M (k + 1)) ls' st)) : W p l e R s m args below meth c H locs cells slots QQ (F0 m (zpc M k) ls (.int x :: st)) := by
  have hck : (zdc M k 2 (.istore (zg ix 0)) || (decide (zg ix 0 < 4) && zdc M k 1 (.istore_n (Fin.ofNat 4 (zg ix 0))))) = true := zck_at hc ho (by decide : (2 : Nat) ≠ 999)
  rcases (Bool.or_eq_true _ _).mp hck with q | q
  · obtain ⟨hdg, hpc⟩ := zdc_at q
    refine lv_istore hx hb hdg hh hj rfl (fun ls' h3 => ?_)
    rw [← hpc]
    exact h1 ls' h3
  · obtain ⟨q1, q⟩ := (Bool.and_eq_true _ _).mp q
    obtain ⟨hdg, hpc⟩ := zdc_at q
    refine lv_istore_n hx hb hdg (zfin (of_decide_eq_true q1)) hh hj rfl (fun ls' h3 => ?_)
    rw [← hpc]
    exact h1 ls' h3
theorem g_astore {x : Nat} {lv : List (Nat × Value)} (hx : p.tables.exec = Jvm.exec) (hb : c.code = zby M) (hc : zchk M = true) (ho : zop M k = (4, n, ix)) (hh : lv_has ls (zml M) lv) (hj : zg ix 0 < zml M) (h1 : ∀ ls', lv_has ls' (zml M) ((zg ix 0, Value.ref x) :: lv.filter (fun q => !(q.1 == zg ix 0) && !(q.1 + 1 == zg ix 0 && q.2.category == 2))) → W p l e R s m args below meth c H locs cells slots QQ (F0 m (zpc M (k + 1)) ls' st)) : W p l e R s m args below meth c H locs cells slots QQ (F0 m (zpc M k) ls (.ref x :: st)) := by
  have hck : (zdc M k 2 (.astore (zg ix 0)) || (decide (zg ix 0 < 4) && zdc M k 1 (.astore_n (Fin.ofNat 4 (zg ix 0))))) = true := zck_at hc ho (by decide : (4 : Nat) ≠ 999)
  rcases (Bool.or_eq_true _ _).mp hck with q | q
  · obtain ⟨hdg, hpc⟩ := zdc_at q
    refine lv_astore hx hb hdg hh hj rfl (fun ls' h3 => ?_)
    rw [← hpc]
    exact h1 ls' h3
  · obtain ⟨q1, q⟩ := (Bool.and_eq_true _ _).mp q
    obtain ⟨hdg, hpc⟩ := zdc_at q
    refine lv_astore_n hx hb hdg (zfin (of_decide_eq_true q1)) hh hj rfl (fun ls' h3 => ?_)
    rw [← hpc]
    exact h1 ls' h3
theorem g_iinc {a : Int} {lv : List (Nat × Value)} (hx : p.tables.exec = Jvm.exec) (hb : c.code = zby M) (hc : zchk M = true) (ho : zop M k = (7, n, ix)) (hh : lv_has ls (zml M) lv) (hm : (zg ix 0, Value.int (Int32.ofInt a)) ∈ lv) (hj : zg ix 0 < zml M) (h1 : ∀ ls', lv_has ls' (zml M) ((zg ix 0, Value.int (Int32.ofInt (w32 (a + n)))) :: lv.filter (fun q => !(q.1 == zg ix 0) && !(q.1 + 1 == zg ix 0 && q.2.category == 2))) → W p l e R s m args below meth c H locs cells slots QQ (F0 m (zpc M (k + 1)) ls' st)) : W p l e R s m args below meth c H locs cells slots QQ (F0 m (zpc M k) ls st) := by
  have hck : zdc M k 3 (.iinc (zg ix 0) n) = true := zck_at hc ho (by decide : (7 : Nat) ≠ 999)
  obtain ⟨hdg, hpc⟩ := zdc_at hck
  obtain ⟨q0, hq0⟩ := List.getElem?_of_mem hm
  refine lv_iinc (k := q0) (v := Int32.ofInt (w32 (a + n))) hx hb hdg hh hq0 (by rw [w32_o, Int32.ofInt_add]) hj rfl (fun ls' h3 => ?_)
  rw [← hpc]
  exact h1 ls' h3
theorem g_goto (hx : p.tables.exec = Jvm.exec) (hb : c.code = zby M) (hc : zchk M = true) (ho : zop M k = (37, n, ix)) (h1 : W p l e R s m args below meth c H locs cells slots QQ (F0 m (zpc M (zg ix 0)) ls st)) : W p l e R s m args below meth c H locs cells slots QQ (F0 m (zpc M k) ls st) := by
  have hck : decide (decode (zby M) (zpc M k) = .ok (.goto (zoff M k (zg ix 0)), 3)) = true := zck_at hc ho (by decide : (37 : Nat) ≠ 999)
  exact lv_goto hx hb (of_decide_eq_true hck) (zoff_at M k (zg ix 0)) h1
theorem g_icmp {a b : Int} (ha0 : zI32 a) (hb0 : zI32 b) (hx : p.tables.exec = Jvm.exec) (hb : c.code = zby M) (hc : zchk M = true) (ho : zop M k = (35, n, ix)) (h1 : W p l e R s m args below meth c H locs cells slots QQ (F0 m (zpc M (if zgb (zg ix 0) a b then zg ix 1 else k + 1)) ls st)) : W p l e R s m args below meth c H locs cells slots QQ (F0 m (zpc M k) ls (.int (Int32.ofInt b) :: .int (Int32.ofInt a) :: st)) := by
  have hck : zdc M k 3 (.if_icmp (zcnd (zg ix 0)) (zoff M k (zg ix 1))) = true := zck_at hc ho (by decide : (35 : Nat) ≠ 999)
  obtain ⟨hdg, hn⟩ := zdc_at hck
  have e1 := o32_eq ha0 hb0
  have e2 := o32_lt ha0 hb0
  have e3 := o32_lt hb0 ha0
  have e4 := o32_le ha0 hb0
  have e5 := o32_le hb0 ha0
  generalize zg ix 0 = x at hdg h1
  match x, hdg, h1 with
  | 0, hdg, h1 =>
    refine lv_icmp_eq hx hb hdg (zoff_at M k (zg ix 1)) (fun q => ?_) (fun q => ?_)
    · have q2 : a = b := by
        simp only [ge_iff_le, gt_iff_lt, e1, e2, e3, e4, e5, ne_eq] at q
        first | exact q | omega
      have q3 : (zgb (0) a b) = true := decide_eq_true q2
      rw [if_pos q3] at h1
      exact h1
    · have q2 : ¬ (a = b) := by
        simp only [ge_iff_le, gt_iff_lt, e1, e2, e3, e4, e5, ne_eq] at q
        first | exact q | omega
      have q3 : ¬ (zgb (0) a b) = true := fun z => q2 (of_decide_eq_true z)
      rw [if_neg q3] at h1
      rw [← hn]
      exact h1
  | 1, hdg, h1 =>
    refine lv_icmp_ne hx hb hdg (zoff_at M k (zg ix 1)) (fun q => ?_) (fun q => ?_)
    · have q2 : a ≠ b := by
        simp only [ge_iff_le, gt_iff_lt, e1, e2, e3, e4, e5, ne_eq] at q
        first | exact q | omega
      have q3 : (zgb (1) a b) = true := decide_eq_true q2
      rw [if_pos q3] at h1
      exact h1
    · have q2 : ¬ (a ≠ b) := by
        simp only [ge_iff_le, gt_iff_lt, e1, e2, e3, e4, e5, ne_eq] at q
        first | exact q | omega
      have q3 : ¬ (zgb (1) a b) = true := fun z => q2 (of_decide_eq_true z)
      rw [if_neg q3] at h1
      rw [← hn]
      exact h1
  | 2, hdg, h1 =>
    refine lv_icmp_lt hx hb hdg (zoff_at M k (zg ix 1)) (fun q => ?_) (fun q => ?_)
    · have q2 : a < b := by
        simp only [ge_iff_le, gt_iff_lt, e1, e2, e3, e4, e5, ne_eq] at q
        first | exact q | omega
      have q3 : (zgb (2) a b) = true := decide_eq_true q2
      rw [if_pos q3] at h1
      exact h1
    · have q2 : ¬ (a < b) := by
        simp only [ge_iff_le, gt_iff_lt, e1, e2, e3, e4, e5, ne_eq] at q
        first | exact q | omega
      have q3 : ¬ (zgb (2) a b) = true := fun z => q2 (of_decide_eq_true z)
      rw [if_neg q3] at h1
      rw [← hn]
      exact h1
  | 3, hdg, h1 =>
    refine lv_icmp_ge hx hb hdg (zoff_at M k (zg ix 1)) (fun q => ?_) (fun q => ?_)
    · have q2 : b ≤ a := by
        simp only [ge_iff_le, gt_iff_lt, e1, e2, e3, e4, e5, ne_eq] at q
        first | exact q | omega
      have q3 : (zgb (3) a b) = true := decide_eq_true q2
      rw [if_pos q3] at h1
      exact h1
    · have q2 : ¬ (b ≤ a) := by
        simp only [ge_iff_le, gt_iff_lt, e1, e2, e3, e4, e5, ne_eq] at q
        first | exact q | omega
      have q3 : ¬ (zgb (3) a b) = true := fun z => q2 (of_decide_eq_true z)
      rw [if_neg q3] at h1
      rw [← hn]
      exact h1
  | 4, hdg, h1 =>
    refine lv_icmp_gt hx hb hdg (zoff_at M k (zg ix 1)) (fun q => ?_) (fun q => ?_)
    · have q2 : b < a := by
        simp only [ge_iff_le, gt_iff_lt, e1, e2, e3, e4, e5, ne_eq] at q
        first | exact q | omega
      have q3 : (zgb (4) a b) = true := decide_eq_true q2
      rw [if_pos q3] at h1
      exact h1
    · have q2 : ¬ (b < a) := by
        simp only [ge_iff_le, gt_iff_lt, e1, e2, e3, e4, e5, ne_eq] at q
        first | exact q | omega
      have q3 : ¬ (zgb (4) a b) = true := fun z => q2 (of_decide_eq_true z)
      rw [if_neg q3] at h1
      rw [← hn]
      exact h1
  | x + 5, hdg, h1 =>
    refine lv_icmp_le hx hb hdg (zoff_at M k (zg ix 1)) (fun q => ?_) (fun q => ?_)
    · have q2 : a ≤ b := by
        simp only [ge_iff_le, gt_iff_lt, e1, e2, e3, e4, e5, ne_eq] at q
        first | exact q | omega
      have q3 : (zgb (x + 5) a b) = true := decide_eq_true q2
      rw [if_pos q3] at h1
      exact h1
    · have q2 : ¬ (a ≤ b) := by
        simp only [ge_iff_le, gt_iff_lt, e1, e2, e3, e4, e5, ne_eq] at q
        first | exact q | omega
      have q3 : ¬ (zgb (x + 5) a b) = true := fun z => q2 (of_decide_eq_true z)
      rw [if_neg q3] at h1
      rw [← hn]
      exact h1
theorem g_if {a : Int} (ha0 : zI32 a) (hx : p.tables.exec = Jvm.exec) (hb : c.code = zby M) (hc : zchk M = true) (ho : zop M k = (36, n, ix)) (h1 : W p l e R s m args below meth c H locs cells slots QQ (F0 m (zpc M (if zgb (zg ix 0) a 0 then zg ix 1 else k + 1)) ls st)) : W p l e R s m args below meth c H locs cells slots QQ (F0 m (zpc M k) ls (.int (Int32.ofInt a) :: st)) := by
  have hck : zdc M k 3 (.ifCond (zcnd (zg ix 0)) (zoff M k (zg ix 1))) = true := zck_at hc ho (by decide : (36 : Nat) ≠ 999)
  obtain ⟨hdg, hn⟩ := zdc_at hck
  have hb0 : zI32 0 := by unfold zI32; omega
  have e1 : Int32.ofInt a = 0 ↔ a = 0 := o32_eq ha0 hb0
  have e2 : Int32.ofInt a < 0 ↔ a < 0 := o32_lt ha0 hb0
  have e3 : 0 < Int32.ofInt a ↔ 0 < a := o32_lt hb0 ha0
  have e4 : Int32.ofInt a ≤ 0 ↔ a ≤ 0 := o32_le ha0 hb0
  have e5 : 0 ≤ Int32.ofInt a ↔ 0 ≤ a := o32_le hb0 ha0
  generalize zg ix 0 = x at hdg h1
  match x, hdg, h1 with
  | 0, hdg, h1 =>
    refine lv_if_eq hx hb hdg (zoff_at M k (zg ix 1)) (fun q => ?_) (fun q => ?_)
    · have q2 : a = 0 := by
        simp only [ge_iff_le, gt_iff_lt, e1, e2, e3, e4, e5, ne_eq] at q
        first | exact q | omega
      have q3 : (zgb (0) a 0) = true := decide_eq_true q2
      rw [if_pos q3] at h1
      exact h1
    · have q2 : ¬ (a = 0) := by
        simp only [ge_iff_le, gt_iff_lt, e1, e2, e3, e4, e5, ne_eq] at q
        first | exact q | omega
      have q3 : ¬ (zgb (0) a 0) = true := fun z => q2 (of_decide_eq_true z)
      rw [if_neg q3] at h1
      rw [← hn]
      exact h1
  | 1, hdg, h1 =>
    refine lv_if_ne hx hb hdg (zoff_at M k (zg ix 1)) (fun q => ?_) (fun q => ?_)
    · have q2 : a ≠ 0 := by
        simp only [ge_iff_le, gt_iff_lt, e1, e2, e3, e4, e5, ne_eq] at q
        first | exact q | omega
      have q3 : (zgb (1) a 0) = true := decide_eq_true q2
      rw [if_pos q3] at h1
      exact h1
    · have q2 : ¬ (a ≠ 0) := by
        simp only [ge_iff_le, gt_iff_lt, e1, e2, e3, e4, e5, ne_eq] at q
        first | exact q | omega
      have q3 : ¬ (zgb (1) a 0) = true := fun z => q2 (of_decide_eq_true z)
      rw [if_neg q3] at h1
      rw [← hn]
      exact h1
  | 2, hdg, h1 =>
    refine lv_if_lt hx hb hdg (zoff_at M k (zg ix 1)) (fun q => ?_) (fun q => ?_)
    · have q2 : a < 0 := by
        simp only [ge_iff_le, gt_iff_lt, e1, e2, e3, e4, e5, ne_eq] at q
        first | exact q | omega
      have q3 : (zgb (2) a 0) = true := decide_eq_true q2
      rw [if_pos q3] at h1
      exact h1
    · have q2 : ¬ (a < 0) := by
        simp only [ge_iff_le, gt_iff_lt, e1, e2, e3, e4, e5, ne_eq] at q
        first | exact q | omega
      have q3 : ¬ (zgb (2) a 0) = true := fun z => q2 (of_decide_eq_true z)
      rw [if_neg q3] at h1
      rw [← hn]
      exact h1
  | 3, hdg, h1 =>
    refine lv_if_ge hx hb hdg (zoff_at M k (zg ix 1)) (fun q => ?_) (fun q => ?_)
    · have q2 : 0 ≤ a := by
        simp only [ge_iff_le, gt_iff_lt, e1, e2, e3, e4, e5, ne_eq] at q
        first | exact q | omega
      have q3 : (zgb (3) a 0) = true := decide_eq_true q2
      rw [if_pos q3] at h1
      exact h1
    · have q2 : ¬ (0 ≤ a) := by
        simp only [ge_iff_le, gt_iff_lt, e1, e2, e3, e4, e5, ne_eq] at q
        first | exact q | omega
      have q3 : ¬ (zgb (3) a 0) = true := fun z => q2 (of_decide_eq_true z)
      rw [if_neg q3] at h1
      rw [← hn]
      exact h1
  | 4, hdg, h1 =>
    refine lv_if_gt hx hb hdg (zoff_at M k (zg ix 1)) (fun q => ?_) (fun q => ?_)
    · have q2 : 0 < a := by
        simp only [ge_iff_le, gt_iff_lt, e1, e2, e3, e4, e5, ne_eq] at q
        first | exact q | omega
      have q3 : (zgb (4) a 0) = true := decide_eq_true q2
      rw [if_pos q3] at h1
      exact h1
    · have q2 : ¬ (0 < a) := by
        simp only [ge_iff_le, gt_iff_lt, e1, e2, e3, e4, e5, ne_eq] at q
        first | exact q | omega
      have q3 : ¬ (zgb (4) a 0) = true := fun z => q2 (of_decide_eq_true z)
      rw [if_neg q3] at h1
      rw [← hn]
      exact h1
  | x + 5, hdg, h1 =>
    refine lv_if_le hx hb hdg (zoff_at M k (zg ix 1)) (fun q => ?_) (fun q => ?_)
    · have q2 : a ≤ 0 := by
        simp only [ge_iff_le, gt_iff_lt, e1, e2, e3, e4, e5, ne_eq] at q
        first | exact q | omega
      have q3 : (zgb (x + 5) a 0) = true := decide_eq_true q2
      rw [if_pos q3] at h1
      exact h1
    · have q2 : ¬ (a ≤ 0) := by
        simp only [ge_iff_le, gt_iff_lt, e1, e2, e3, e4, e5, ne_eq] at q
        first | exact q | omega
      have q3 : ¬ (zgb (x + 5) a 0) = true := fun z => q2 (of_decide_eq_true z)
      rw [if_neg q3] at h1
      rw [← hn]
      exact h1
theorem g_dup {x : Nat} (hx : p.tables.exec = Jvm.exec) (hb : c.code = zby M) (hc : zchk M = true) (ho : zop M k = (32, n, ix)) (h1 : W p l e R s m args below meth c H locs cells slots QQ (F0 m (zpc M (k + 1)) ls (.ref x :: .ref x :: st))) : W p l e R s m args below meth c H locs cells slots QQ (F0 m (zpc M k) ls (.ref x :: st)) := by
  have hck : zdc M k 1 .dup = true := zck_at hc ho (by decide : (32 : Nat) ≠ 999)
  obtain ⟨hdg, hn⟩ := zdc_at hck
  rw [hn] at h1
  exact lv_dup hx hb hdg rfl h1
end ZG
