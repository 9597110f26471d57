/-! small tools behind the rules; Row; Math -/
theorem zinj {α β : Type} {a c : α} {b d : β} (h : some (a, b) = some (c, d)) : a = c ∧ b = d := by
  cases h
  exact ⟨rfl, rfl⟩
theorem zinj2 {α β : Type} {a c : α} {b d : β} (h : some (a, b) = some (c, d)) : a = c ∧ b = d := zinj h
theorem zguard {α : Type} {c : Prop} [Decidable c] {x : Option α} {r : α} (h : (if c then x else none) = some r) : c ∧ x = some r := by
  by_cases hc : c
  · rw [if_pos hc] at h; exact ⟨hc, h⟩
  · rw [if_neg hc] at h; cases h
theorem zbind {α β : Type} {x : Option α} {f : α → Option β} {r : β} (h : x.bind f = some r) : ∃ a, x = some a ∧ f a = some r := by
  cases x with
  | none => cases h
  | some a => exact ⟨a, rfl, h⟩
def zsub : List zV → List zV → Prop
  | [], [] => True
  | a :: as, b :: bs => (a = b ∨ a = zJk) ∧ zsub as bs
  | _, _ => False
theorem zsub_at : ∀ {L' L : List zV}, zsub L' L → L'.length = L.length ∧ ∀ (j : Nat) (v : zV), L'[j]? = some v → v = zJk ∨ L[j]? = some v := by
  intro L'
  induction L' with
  | nil =>
    intro L h
    cases L with
    | nil => exact ⟨rfl, fun j v hj => by simp at hj⟩
    | cons b bs => exact h.elim
  | cons a as ih =>
    intro L h
    cases L with
    | nil => exact h.elim
    | cons b bs =>
      obtain ⟨h1, h2⟩ := h
      obtain ⟨i1, i2⟩ := ih h2
      refine ⟨by simp [i1], fun j v hj => ?_⟩
      cases j with
      | zero =>
        have hj : a = v := Option.some.inj hj
        rcases h1 with q | q
        · right; rw [← hj, q]; rfl
        · left; rw [← hj, q]
      | succ j => exact i2 j v hj
section ZT
variable {l : Launch} {E : zE} {d : Nat} {M : zMeth} {k : Nat} {L L' S S' : List zV} {h : zHp} {Q : Int → zHp → Prop}
/-- locals that nobody reads any more are forgotten -/
theorem zsubL (hs : zsub L' L) (kk : zW l E d M k L' S h Q) : zW l E d M k L S h Q := by
  intro p e R s m args below meth c H locs ls cells slots QQ hX hE hS hL hv
  obtain ⟨h1, h2⟩ := zsub_at hs
  obtain ⟨g1, g2, lv, g3, g4⟩ := hL
  refine kk p e R s m args below meth c H locs ls cells slots QQ hX hE hS ⟨h1.trans g1, fun v hv => ?_, lv, g3, fun j v hj hne => ?_⟩ hv
  · obtain ⟨j, hj⟩ := List.getElem?_of_mem hv
    rcases h2 j v hj with q | q
    · rw [q]; trivial
    · exact g2 v (List.mem_of_getElem? q)
  · rcases h2 j v hj with q | q
    · exact absurd q hne
    · exact g4 j v q hne
theorem zcast (h1 : L' = L) (h2 : S' = S) (kk : zW l E d M k L S h Q) : zW l E d M k L' S' h Q := by
  subst h1; subst h2; exact kk
def zrtk (M : zMeth) : Nat := match zrt M with
  | none => 0
  | some .long => 2
  | some _ => 1
theorem zrz_0 {M : zMeth} {r : Int} (h : zrtk M = 0) : zrz M r = [] := by
  unfold zrtk at h
  unfold zrz
  split at h
  · rename_i q; rw [q]
  · cases h
  · cases h
theorem zrz_1 {M : zMeth} {r : Int} (h : zrtk M = 1) : zrz M r = [.inl r] := by
  unfold zrtk at h
  unfold zrz
  split at h
  · cases h
  · cases h
  · rename_i t hl q
    rw [q]
    cases t <;> first | rfl | exact absurd rfl hl
theorem zrz_2 {M : zMeth} {r : Int} (h : zrtk M = 2) : zrz M r = [.inr (.inl r)] := by
  unfold zrtk at h
  unfold zrz
  split at h
  · cases h
  · rename_i q; rw [q]
  · cases h
variable {ix i ci d' : Nat} {M' : zMeth} {As : List zV} {Q' : Int → zHp → Prop} {ks : List Nat}
theorem z_inv0 (ht : zrtk M' = 0) (ho : zop M k = (49, 0, [ix, M'.1])) (hC : zC l E d' M' (.inr (.inr i) :: As) h Q') (hn : (zhd M').2.2.2.2.2 = (false, As.length)) (hO : zO[i]? = some (.inl (ci, ks))) (hcl : (zhd M').1 = ci) (hd : d' + 1 ≤ d) (hst : decide ((S.map zcat).sum ≤ 8) = true)
    (kk : ∀ (r : Int) (h' : zHp), zRr M' r → Q' r h' → zW l E d M (k + 1) L S h' Q) : zW l E d M k L (As.reverse ++ .inr (.inr i) :: S) h Q :=
  z_inv ho hC hn hO hcl hd hst (fun r h' hR hQ => by rw [zrz_0 ht]; exact kk r h' hR hQ)
theorem z_inv1 (ht : zrtk M' = 1) (ho : zop M k = (49, 0, [ix, M'.1])) (hC : zC l E d' M' (.inr (.inr i) :: As) h Q') (hn : (zhd M').2.2.2.2.2 = (false, As.length)) (hO : zO[i]? = some (.inl (ci, ks))) (hcl : (zhd M').1 = ci) (hd : d' + 1 ≤ d) (hst : decide ((S.map zcat).sum ≤ 8) = true)
    (kk : ∀ (r : Int) (h' : zHp), zRr M' r → Q' r h' → zW l E d M (k + 1) L (.inl r :: S) h' Q) : zW l E d M k L (As.reverse ++ .inr (.inr i) :: S) h Q :=
  z_inv ho hC hn hO hcl hd hst (fun r h' hR hQ => by rw [zrz_1 ht]; exact kk r h' hR hQ)
theorem z_inv2 (ht : zrtk M' = 2) (ho : zop M k = (49, 0, [ix, M'.1])) (hC : zC l E d' M' (.inr (.inr i) :: As) h Q') (hn : (zhd M').2.2.2.2.2 = (false, As.length)) (hO : zO[i]? = some (.inl (ci, ks))) (hcl : (zhd M').1 = ci) (hd : d' + 1 ≤ d) (hst : decide ((S.map zcat).sum ≤ 8) = true)
    (kk : ∀ (r : Int) (h' : zHp), zRr M' r → Q' r h' → zW l E d M (k + 1) L (.inr (.inl r) :: S) h' Q) : zW l E d M k L (As.reverse ++ .inr (.inr i) :: S) h Q :=
  z_inv ho hC hn hO hcl hd hst (fun r h' hR hQ => by rw [zrz_2 ht]; exact kk r h' hR hQ)
theorem z_ivs0 (ht : zrtk M' = 0) (ho : zop M k = (50, 0, [ix, M'.1])) (hC : zC l E d' M' As h Q') (hn : (zhd M').2.2.2.2.2 = (true, As.length)) (hd : d' + 1 ≤ d) (hst : decide ((S.map zcat).sum ≤ 8) = true)
    (kk : ∀ (r : Int) (h' : zHp), zRr M' r → Q' r h' → zW l E d M (k + 1) L S h' Q) : zW l E d M k L (As.reverse ++ S) h Q :=
  z_ivs ho hC hn hd hst (fun r h' hR hQ => by rw [zrz_0 ht]; exact kk r h' hR hQ)
theorem z_ivs1 (ht : zrtk M' = 1) (ho : zop M k = (50, 0, [ix, M'.1])) (hC : zC l E d' M' As h Q') (hn : (zhd M').2.2.2.2.2 = (true, As.length)) (hd : d' + 1 ≤ d) (hst : decide ((S.map zcat).sum ≤ 8) = true)
    (kk : ∀ (r : Int) (h' : zHp), zRr M' r → Q' r h' → zW l E d M (k + 1) L (.inl r :: S) h' Q) : zW l E d M k L (As.reverse ++ S) h Q :=
  z_ivs ho hC hn hd hst (fun r h' hR hQ => by rw [zrz_1 ht]; exact kk r h' hR hQ)
theorem z_ivs2 (ht : zrtk M' = 2) (ho : zop M k = (50, 0, [ix, M'.1])) (hC : zC l E d' M' As h Q') (hn : (zhd M').2.2.2.2.2 = (true, As.length)) (hd : d' + 1 ≤ d) (hst : decide ((S.map zcat).sum ≤ 8) = true)
    (kk : ∀ (r : Int) (h' : zHp), zRr M' r → Q' r h' → zW l E d M (k + 1) L (.inr (.inl r) :: S) h' Q) : zW l E d M k L (As.reverse ++ S) h Q :=
  z_ivs ho hC hn hd hst (fun r h' hR hQ => by rw [zrz_2 ht]; exact kk r h' hR hQ)
end ZT
-- Row
def rget (h : zHp) (a n : Nat) (i : Int) : Int := if 0 ≤ i ∧ i < n then h a i.toNat else 0
def rput (h : zHp) (a n : Nat) (i v : Int) : zHp := if 0 ≤ i ∧ i < n then zst h a i.toNat v else h
theorem zk_Row_get : zchk zm_Row_get = true := by decide +kernel
theorem zk_Row_put : zchk zm_Row_put = true := by decide +kernel
theorem zk_Row_copyFrom : zchk zm_Row_copyFrom = true := by decide +kernel
theorem zk_Row_copyPart : zchk zm_Row_copyPart = true := by decide +kernel
section ZRow
variable {l : Launch} {E : zE} {h : zHp}
theorem zf_Row_get {r a n : Nat} (hr : zO[r]? = some (.inl (6, [3 + a]))) (ha : zO[a]? = some (.inr (0, n))) {d : Nat} (i : Int) : zC l E d zm_Row_get [.inr (.inr r), .inl i] h (fun r0 h0 => rget h a n i = r0 ∧ h = h0) := by
  have hrl := zO_lt hr
  have hal := zO_lt ha
  refine zC_of zk_Row_get (by decide) rfl rfl (Nat.le_of_ble_eq_true rfl) ?_
  show zW l E d zm_Row_get 0 [.inr (.inr r), .inl i] [] h _
  refine z_iload rfl rfl ?_
  refine z_zlt rfl (fun c1 => ?_) (fun c1 => ?_)
  · refine z_const rfl ?_
    refine z_iret rfl rfl ⟨?_, rfl⟩
    unfold rget
    rw [if_neg (by omega)]
  · refine z_iload rfl rfl ?_
    refine z_aload rfl rfl (by simpa using hrl) ?_
    refine z_getr rfl hr rfl (by simpa using hal) ?_
    refine z_alen rfl ha (by decide) ?_
    refine z_cge rfl (fun c2 => ?_) (fun c2 => ?_)
    · refine z_const rfl ?_
      refine z_iret rfl rfl ⟨?_, rfl⟩
      unfold rget
      rw [if_neg (by omega)]
    · refine z_aload rfl rfl (by simpa using hrl) ?_
      refine z_getr rfl hr rfl (by simpa using hal) ?_
      refine z_iload rfl rfl ?_
      refine z_iald rfl ha (by omega) (by omega) ?_
      refine z_goto rfl ?_
      refine z_iret rfl rfl ⟨?_, rfl⟩
      unfold rget
      rw [if_pos (by omega)]
theorem zf_Row_put {r a n : Nat} (hr : zO[r]? = some (.inl (6, [3 + a]))) (ha : zO[a]? = some (.inr (0, n))) {d : Nat} (i v : Int) : zC l E d zm_Row_put [.inr (.inr r), .inl i, .inl v] h (fun r0 h0 => 0 = r0 ∧ rput h a n i v = h0) := by
  have hrl := zO_lt hr
  have hal := zO_lt ha
  refine zC_of zk_Row_put (by decide) rfl rfl (Nat.le_of_ble_eq_true rfl) ?_
  show zW l E d zm_Row_put 0 [.inr (.inr r), .inl i, .inl v] [] h _
  refine z_iload rfl rfl ?_
  refine z_zlt rfl (fun c1 => ?_) (fun c1 => ?_)
  · refine z_ret rfl rfl rfl ⟨rfl, ?_⟩
    unfold rput
    rw [if_neg (by omega)]
  · refine z_iload rfl rfl ?_
    refine z_aload rfl rfl (by simpa using hrl) ?_
    refine z_getr rfl hr rfl (by simpa using hal) ?_
    refine z_alen rfl ha (by decide) ?_
    refine z_cge rfl (fun c2 => ?_) (fun c2 => ?_)
    · refine z_ret rfl rfl rfl ⟨rfl, ?_⟩
      unfold rput
      rw [if_neg (by omega)]
    · refine z_aload rfl rfl (by simpa using hrl) ?_
      refine z_getr rfl hr rfl (by simpa using hal) ?_
      refine z_iload rfl rfl ?_
      refine z_iload rfl rfl ?_
      refine z_iast rfl ha (by omega) (by omega) ?_
      refine z_ret rfl rfl rfl ⟨rfl, ?_⟩
      unfold rput
      rw [if_pos (by omega)]
end ZRow
theorem zor_ite {c : Prop} [Decidable c] {a b : Int} (h1 : a = 0 ∨ a = 1) (h2 : b = 0 ∨ b = 1) : (if c then a else b) = 0 ∨ (if c then a else b) = 1 := by
  split
  · exact h1
  · exact h2
/-- a large table is looked through in pieces -/
def zchp (M : zMeth) (a b : Nat) : Bool := ((List.range' a b)).all (fun k => zck (zop M k) M k)
theorem zchk_of {M : zMeth} (l : List (Nat × Nat)) (hl : l.flatMap (fun q => List.range' q.1 q.2) = List.range M.2.length) (h : ∀ q ∈ l, zchp M q.1 q.2 = true) : zchk M = true := by
  unfold zchk
  rw [← hl]
  refine List.all_eq_true.mpr (fun k hk => ?_)
  obtain ⟨q, hq, hk⟩ := List.mem_flatMap.mp hk
  exact List.all_eq_true.mp (h q hq) k hk
-- Math
def zmin (a b : Int) : Int := if a ≤ b then a else b
def zabs (a : Int) : Int := if 0 ≤ a then a else w32 (-a)
