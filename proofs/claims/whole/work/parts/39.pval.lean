/-! PURE: what a clause comes to, of the class and of the reference -/
/-- all but the cells of S stay -/
def zFr (S : List Nat) (h h1 : zHp) : Prop := ∀ id, id ∉ S → h1 id = h id
theorem zFr.refl {S : List Nat} (h : zHp) : zFr S h h := fun _ _ => rfl
theorem zFr.trans {S : List Nat} {h h1 h2 : zHp} (a : zFr S h h1) (b : zFr S h1 h2) : zFr S h h2 := fun id q => (b id q).trans (a id q)
theorem zFr.mono {S S' : List Nat} {h h1 : zHp} (a : zFr S h h1) (b : ∀ x, x ∈ S → x ∈ S') : zFr S' h h1 := fun id q => a id (fun r => q (b id r))
theorem zFr.st {S : List Nat} {h h1 : zHp} {o i : Nat} {v : Int} (a : zFr S h h1) (ho : o ∈ S) : zFr S h (zst h1 o i v) := by
  intro id q
  have hn : id ≠ o := fun e => q (by rw [e]; exact ho)
  rw [zst_if, if_neg hn]
  exact a id q
theorem zFr.rp {S : List Nat} {h h1 : zHp} {o n : Nat} {i v : Int} (a : zFr S h h1) (ho : o ∈ S) : zFr S h (rput h1 o n i v) := by
  intro id q
  have hn : id ≠ o := fun e => q (by rw [e]; exact ho)
  rw [rput_ne hn]
  exact a id q
def zcL (a : zFn) (T : Nat → Nat → List Int) (c : Nat) : List Int := if a 5 < 0 then [] else T (a 5).toNat c
def zVal (nm : zFn) (L : List Int) (w : Int) : Int := if L = [] then w else (zvs nm L []).headD 0
/-- what the class, and what the reference, must hold for a question -/
def zKc (h : zHp) (a : zFn) (T : Nat → Nat → List Int) : Prop := (zYc 0 h a ∧ zOk a) ∧ ∀ t : Nat, (t : Int) < a 4 → ∀ c, c < 5 → zTw h t c (T t c) ∧ (T t c ≠ [] → zwf c (0, 0) (T t c) = some (if c < 2 then (1, 0) else (0, 1)))
def zKr (h : zHp) (T : Nat → Nat → List Int) : Prop := zOk (h 86) ∧ ∀ t : Nat, (t : Int) < h 86 4 → ∀ c, c < 5 → zTv h t c (T t c) ∧ (T t c ≠ [] → zwf c (0, 0) (T t c) = some (if c < 2 then (1, 0) else (0, 1)))
theorem zK_of {h : zHp} (hI : zInv h) : ∃ T, zKc h (h 86) T ∧ zKr h T := by
  obtain ⟨a1, -, -, ⟨T, hT⟩, -⟩ := hI
  exact ⟨T, ⟨a1, fun t ht c hc => ⟨(hT t ht c hc).1, (hT t ht c hc).2.2⟩⟩, ⟨a1.2, fun t ht c hc => (hT t ht c hc).2⟩⟩
theorem zKc_eq {h h1 : zHp} {a : zFn} {T : Nat → Nat → List Int} (K : zKc h a T) (e : ∀ id, 1 ≤ id → id ≤ 32 → h1 id = h id) : zKc h1 a T := by
  obtain ⟨⟨k1, k2⟩, k3⟩ := K
  refine ⟨⟨zYc_eq0 k1 (fun id p q => e id p (by omega)), k2⟩, fun t ht c hc => ⟨?_, (k3 t ht c hc).2⟩⟩
  have := (k3 t ht c hc).1
  unfold zTw at this ⊢
  rw [e 28 (by omega) (by omega), e 30 (by omega) (by omega), e 32 (by omega) (by omega)]
  exact this
theorem zKc_fr {S : List Nat} {h h1 : zHp} {a : zFn} {T : Nat → Nat → List Int} (K : zKc h a T) (e : zFr S h h1) (hS : ∀ x, x ∈ S → 32 < x) : zKc h1 a T :=
  zKc_eq K (fun id p q => e id (fun r => by have := hS id r; omega))
theorem zKr_eq {h h1 : zHp} {T : Nat → Nat → List Int} (K : zKr h T) (e : h1 86 = h 86) (e8 : h1 88 = h 88) : zKr h1 T := by
  unfold zKr at K ⊢
  unfold zTv at K ⊢
  rw [e, e8]
  exact K
theorem zval_c {h : zHp} {a : zFn} {T : Nat → Nat → List Int} {c : Nat} {x w : Int} {nm : zFn} {N : Nat} (hN : 1300 ≤ N) (K : zKc h a T) (hc : c < 5) (hx : x = c) (hnm : ∀ i : Nat, i < 11 → zNok c i = true → zB6 (nm i)) (hag : ∀ i : Nat, i < 11 → zNok c i = true → h 35 i = nm i) :
    ∃ h1, sh_Laws_value N x w h = some (zVal nm (zcL a T c) w, h1) ∧ zFr [37] h h1 ∧ (zcL a T c ≠ [] → zB6 (zVal nm (zcL a T c) w) ∧ (c < 2 → zVal nm (zcL a T c) w = 0 ∨ zVal nm (zcL a T c) w = 1)) := by
  obtain ⟨⟨hy, hk⟩, hT⟩ := K
  have h13 : h 1 13 = a 5 := hy.1.2.2.2.2.2.1
  have b5 := hk.1.2.2.2.2.2.1
  have b4 := hk.1.2.2.2.2.1
  subst hx
  unfold sh_Laws_value
  by_cases q : a 5 = -1
  · have e : zcL a T c = [] := if_pos (by omega)
    refine ⟨h, ?_, zFr.refl h, fun n => absurd e n⟩
    rw [if_pos (by rw [h13]; exact q), e]
    rfl
  · obtain ⟨t, ht⟩ : ∃ t : Nat, a 5 = t := ⟨(a 5).toNat, by omega⟩
    obtain ⟨⟨f, f1, f2, f3, f4⟩, hw⟩ := hT t (by omega) c hc
    have ez : zcL a T c = T t c := by unfold zcL; rw [if_neg (by omega), ht, Int.toNat_natCast]
    have e5 : w32 (w32 (h 1 13 * 5) + (c : Int)) = ((5 * t + c : Nat) : Int) := by
      rw [h13, ht, w32_s (a := (t : Int) * 5) (by omega) (by omega), w32_s (by omega) (by omega)]; omega
    rw [ez, e5, rget_in (by omega) (by omega), rget_in (by omega) (by omega), Int.toNat_natCast, f1, f2, if_neg (by rw [h13]; exact q)]
    by_cases z : T t c = []
    · rw [if_neg (by rw [z]; simp)]
      refine ⟨h, ?_, zFr.refl h, fun n => absurd z n⟩
      rw [z]
      rfl
    · have hl : 0 < (T t c).length := List.length_pos_iff.mpr z
      obtain ⟨h1, e1, k1, r1, g1⟩ := zev_c N nm c hnm (T t c) N f h (0, 0) _ [] f4 f3.1 hag trivial zsr_nil (hw z) (by omega)
      have el : (f : Int) + ((T t c).length : Int) = ((f + (T t c).length : Nat) : Int) := by omega
      have em : (([] : List Int).length : Int) - 1 = -1 := rfl
      rw [em] at e1
      rw [if_pos (by omega), el, e1]
      simp only [zb2_some]
      have hlen : (zvs nm (T t c) []).length = 1 := by
        rw [r1.1]; split <;> rfl
      obtain ⟨v, hv⟩ := List.length_eq_one_iff.mp hlen
      rw [hv] at k1 r1 ⊢
      have hv0 : h1 37 0 = v := k1.1
      have hz : zVal nm (T t c) w = v := by
        unfold zVal; rw [if_neg z, hv]; rfl
      have e0 : rget h1 37 64 (((([v] : List Int).length : Nat) : Int) - 1) = v := by
        rw [rget_in (by simp) (by simp)]; exact hv0
      refine ⟨h1, by rw [e0, hz], fun id hid => g1 id (by simpa using hid), fun _ => ⟨by rw [hz]; exact r1.2.1 v List.mem_cons_self, fun c2 => ?_⟩⟩
      rw [hz]
      have := r1.2.2
      rw [if_pos c2] at this
      exact this v List.mem_cons_self
/-- where the reference keeps a clause -/
def zkat (h : zHp) (t m : Nat) (l : List Int) : Prop := m < 5 ∧ l ≠ [] ∧ ∃ f : Nat, h 88 (625 * t + 2 + 3 * m) = f ∧ h 88 (625 * t + 3 + 3 * m) = f + l.length ∧ f + l.length ≤ 302 ∧
  ∀ (i : Nat) (v : Int), l[i]? = some v → zcd (h 88 (625 * t + 20 + 2 * (f + i))) (h 88 (625 * t + 21 + 2 * (f + i))) v
theorem zcof_n {N : Nat} {h : zHp} {t nn c : Nat} (h5 : h 86 5 = t) (ht : t < 4) (hn : h 88 (625 * t) = nn) (n5 : nn ≤ 5) : ∀ d n j : Nat, j + d = nn → d < n → (∀ i, j ≤ i → i < nn → h 88 (625 * t + 1 + 3 * i) ≠ c) → sh_Mo_clauseOf_L2 N h n (c : Int) (j : Int) = some (.inr 0) := by
  intro d
  induction d with
  | zero =>
    intro n j hj hd hh
    obtain ⟨n, rfl⟩ : ∃ m, n = m + 1 := ⟨n - 1, by omega⟩
    have e1 : (625 * (t : Int)).toNat = 625 * t := by omega
    unfold sh_Mo_clauseOf_L2
    simp (disch := omega) only [zst_if, zup1_ne, zup1_eq, w32_s, rget_in, rput_in, zgrd, Nat.reduceEqDiff, Nat.reduceAdd, ↓reduceIte, Int.reduceToNat, zb1_some, zb2_some, zb3_some, zb4_some, zb5_some, Int.toNat_natCast, true_and, and_true, h5, e1, hn]
    rw [if_neg (by omega), if_pos (by omega)]
  | succ d ih =>
    intro n j hj hd hh
    obtain ⟨n, rfl⟩ : ∃ m, n = m + 1 := ⟨n - 1, by omega⟩
    have e1 : (625 * (t : Int)).toNat = 625 * t := by omega
    have e2 : (625 * (t : Int) + 1 + 3 * (j : Int)).toNat = 625 * t + 1 + 3 * j := by omega
    have e3 : (j : Int) + 1 = ((j + 1 : Nat) : Int) := by omega
    unfold sh_Mo_clauseOf_L2
    simp (disch := omega) only [zst_if, zup1_ne, zup1_eq, w32_s, rget_in, rput_in, zgrd, Nat.reduceEqDiff, Nat.reduceAdd, ↓reduceIte, Int.reduceToNat, zb1_some, zb2_some, zb3_some, zb4_some, zb5_some, Int.toNat_natCast, true_and, and_true, h5, e1, hn, e2]
    rw [if_neg (by omega), if_neg (by omega), if_neg (hh j (by omega) (by omega)), e3]
    exact ih n (j + 1) (by omega) (by omega) (fun i i1 i2 => hh i (by omega) i2)
theorem zcof_k {N : Nat} {h : zHp} {t nn k c : Nat} (h5 : h 86 5 = t) (ht : t < 4) (hn : h 88 (625 * t) = nn) (n5 : nn ≤ 5) (hk : k < nn) (hc : h 88 (625 * t + 1 + 3 * k) = c) : ∀ d n j : Nat, j + d = k → d < n → (∀ i, j ≤ i → i < k → h 88 (625 * t + 1 + 3 * i) ≠ c) → sh_Mo_clauseOf_L2 N h n (c : Int) (j : Int) = some (.inl (k : Int)) := by
  intro d
  induction d with
  | zero =>
    intro n j hj hd hh
    obtain ⟨n, rfl⟩ : ∃ m, n = m + 1 := ⟨n - 1, by omega⟩
    obtain rfl : j = k := by omega
    have e1 : (625 * (t : Int)).toNat = 625 * t := by omega
    have e2 : (625 * (t : Int) + 1 + 3 * (j : Int)).toNat = 625 * t + 1 + 3 * j := by omega
    unfold sh_Mo_clauseOf_L2
    simp (disch := omega) only [zst_if, zup1_ne, zup1_eq, w32_s, rget_in, rput_in, zgrd, Nat.reduceEqDiff, Nat.reduceAdd, ↓reduceIte, Int.reduceToNat, zb1_some, zb2_some, zb3_some, zb4_some, zb5_some, Int.toNat_natCast, true_and, and_true, h5, e1, hn, e2]
    rw [if_neg (by omega), if_neg (by omega), if_pos hc]
  | succ d ih =>
    intro n j hj hd hh
    obtain ⟨n, rfl⟩ : ∃ m, n = m + 1 := ⟨n - 1, by omega⟩
    have e1 : (625 * (t : Int)).toNat = 625 * t := by omega
    have e2 : (625 * (t : Int) + 1 + 3 * (j : Int)).toNat = 625 * t + 1 + 3 * j := by omega
    have e3 : (j : Int) + 1 = ((j + 1 : Nat) : Int) := by omega
    unfold sh_Mo_clauseOf_L2
    simp (disch := omega) only [zst_if, zup1_ne, zup1_eq, w32_s, rget_in, rput_in, zgrd, Nat.reduceEqDiff, Nat.reduceAdd, ↓reduceIte, Int.reduceToNat, zb1_some, zb2_some, zb3_some, zb4_some, zb5_some, Int.toNat_natCast, true_and, and_true, h5, e1, hn, e2]
    rw [if_neg (by omega), if_neg (by omega), if_neg (hh j (by omega) (by omega)), e3]
    exact ih n (j + 1) (by omega) (by omega) (fun i i1 i2 => hh i (by omega) i2)
theorem zcof_r {N : Nat} (hN : 1300 ≤ N) {h : zHp} {T : Nat → Nat → List Int} (K : zKr h T) {c : Nat} (hc : c < 5) {x : Int} (hx : x = c) : ∃ k, sh_Mo_clauseOf N x h = some k ∧ ((zcL (h 86) T c = [] ∧ k = -1) ∨
    (∃ t m : Nat, k = m ∧ h 86 5 = t ∧ t < 4 ∧ zkat h t m (zcL (h 86) T c) ∧ zwf c (0, 0) (zcL (h 86) T c) = some (if c < 2 then (1, 0) else (0, 1)))) := by
  obtain ⟨hk, hT⟩ := K
  have b5 := hk.1.2.2.2.2.2.1
  have b4 := hk.1.2.2.2.2.1
  subst hx
  obtain ⟨N, rfl⟩ : ∃ m, N = m + 1 := ⟨N - 1, by omega⟩
  by_cases q : h 86 5 < 0
  · refine ⟨-1, ?_, Or.inl ⟨if_pos q, rfl⟩⟩
    unfold sh_Mo_clauseOf
    unfold sh_Mo_clauseOf_L2
    rw [if_pos q]
    rfl
  · obtain ⟨t, ht⟩ : ∃ t : Nat, h 86 5 = t := ⟨(h 86 5).toNat, by omega⟩
    obtain ⟨⟨nn, n1, n2, n3⟩, hw⟩ := hT t (by omega) c hc
    have ez : zcL (h 86) T c = T t c := by unfold zcL; rw [if_neg q, ht, Int.toNat_natCast]
    unfold sh_Mo_clauseOf
    rw [ez]
    rcases n3 with ⟨z, n4⟩ | ⟨k, f, k1, k2, k3, f1, f2, f3, f4, f5⟩
    · refine ⟨-1, ?_, Or.inl ⟨z, rfl⟩⟩
      rw [show (0 : Int) = ((0 : Nat) : Int) from rfl, zcof_n ht (by omega) n1 n2 nn (N + 1) 0 (by omega) (by omega) (fun i _ i2 => n4 i i2)]
      rfl
    · refine ⟨k, ?_, Or.inr ⟨t, k, rfl, ht, by omega, ⟨by omega, f4, f, ?_, ?_, f3, f5⟩, hw f4⟩⟩
      · rw [show (0 : Int) = ((0 : Nat) : Int) from rfl, zcof_k ht (by omega) n1 n2 k1 k2 k (N + 1) 0 (by omega) (by omega) (fun i _ i2 => k3 i i2)]
        rfl
      · exact f1
      · exact f2
theorem zwrk_r {N : Nat} (hN : 1300 ≤ N) {h : zHp} {t m c : Nat} {L : List Int} {k w : Int} {nm : zFn} (hk : k = m) (h5 : h 86 5 = t) (ht : t < 4) (ha : zkat h t m L) (hw : zwf c (0, 0) L = some (if c < 2 then (1, 0) else (0, 1)))
    (hnm : ∀ i : Nat, i < 11 → zNok c i = true → zB6 (nm i)) (hag : ∀ i : Nat, i < 11 → zNok c i = true → h 91 i = nm i) :
    ∃ h1, sh_Mo_work N k h = some h1 ∧ zFr [92, 93] h h1 ∧ (c < 2 → h1 93 0 = zVal nm L w ∧ (zVal nm L w = 0 ∨ zVal nm L w = 1)) ∧ (2 ≤ c → h1 92 0 = zVal nm L w ∧ zB6 (zVal nm L w)) := by
  obtain ⟨m5, z, f, f1, f2, f3, f4⟩ := ha
  subst hk
  obtain ⟨h1, vs1, ts1, e1, a1, b1, k1, k2, r1, g1⟩ := zev_r N nm c hnm (625 * t + 1 + 3 * m) (625 * t + 20) (by omega) L N f h (0, 0) _ [] [] (by
    rw [show 625 * t + 1 + 3 * m + 2 = 625 * t + 3 + 3 * m by omega, f2]; omega) (by omega) (fun i v hi => by
    rw [show 625 * t + 20 + 2 * (f + i) + 1 = 625 * t + 21 + 2 * (f + i) by omega]; exact f4 i v hi) hag trivial trivial rfl zsr_nil hw (by omega)
  have c1 : (625 * (t : Int) + 1 + 3 * (m : Int) + 1).toNat = 625 * t + 2 + 3 * m := by omega
  have c2 : 625 * (t : Int) + 1 + 3 * (m : Int) = ((625 * t + 1 + 3 * m : Nat) : Int) := by omega
  have c3 : 625 * (t : Int) + 20 = ((625 * t + 20 : Nat) : Int) := by omega
  refine ⟨h1, ?_, fun id hid => g1 id (by simp at hid; omega) (by simp at hid; omega), fun hc => ?_, fun hc => ?_⟩
  · unfold sh_Mo_work
    simp (disch := omega) only [zst_if, zup1_ne, zup1_eq, w32_s, rget_in, rput_in, zgrd, Nat.reduceEqDiff, Nat.reduceAdd, ↓reduceIte, Int.reduceToNat, zb1_some, zb2_some, zb3_some, zb4_some, zb5_some, Int.toNat_natCast, true_and, and_true, h5, c1, f1]
    rw [c2, c3]
    exact (congrArg (fun o => zb1 o fun h82 => some h82) e1)
  · rw [if_pos hc] at r1 b1
    obtain rfl : vs1 = [] := List.length_eq_zero_iff.mp b1
    obtain ⟨v, hv⟩ := List.length_eq_one_iff.mp r1.1
    simp only [List.append_nil] at hv r1
    rw [List.nil_append, List.nil_append, hv] at a1
    subst a1
    rw [hv] at r1
    have hz : zVal nm L w = v := by
      unfold zVal; rw [if_neg z, hv]; rfl
    rw [hz]
    exact ⟨k2.1, r1.2.2 v List.mem_cons_self⟩
  · rw [if_neg (by omega)] at r1 b1
    obtain ⟨v, hv⟩ := List.length_eq_one_iff.mp r1.1
    simp only [List.append_nil] at hv r1
    rw [List.append_nil, hv] at a1
    have b1' : vs1.length = 1 := b1
    obtain ⟨v', rfl⟩ := List.length_eq_one_iff.mp b1'
    obtain ⟨rfl, -⟩ : v' = v ∧ ts1 = [] := by
      simpa using a1
    rw [hv] at r1
    have hz : zVal nm L w = v' := by
      unfold zVal; rw [if_neg z, hv]; rfl
    rw [hz]
    exact ⟨k1.1, r1.2.1 v' List.mem_cons_self⟩
