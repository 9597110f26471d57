/-! the cells laid so far, as a world -/
def zEa (E : zE) (as : List Nat) : zE := (E.1, (fun i => (as[i]?).getD (E.2.1 i)), E.2.2)
def zgvl (E : zE) : zGf → Value
  | none => .null
  | some v => zup E v
def zgcl (E : zE) : zGc → va_E
  | .inl q => .inr (q.1, q.2.map (zgvl E))
  | .inr (kd, n, w) => if kd = 1 then .inl (E.2.2.1.2.1, n, .inr (.inl (fun i => Int64.ofInt (zgl w i)))) else .inl (if kd = 0 then E.2.2.1.1 else E.2.2.1.2.2, n, .inl (fun i => Int32.ofInt (zgl w i)))
def zgwl (E : zE) (g : List zGc) : va_W := g.mapIdx (fun id c => (zad E id, zgcl E c))
theorem zgwl_at {E : zE} {g : List zGc} {id : Nat} {c : zGc} (h : g[id]? = some c) : (zgwl E g)[id]? = some (zad E id, zgcl E c) := by
  unfold zgwl
  rw [List.getElem?_mapIdx, h]
  rfl
theorem zgwl_set {E : zE} {g : List zGc} {id : Nat} {c' : zGc} : (zgwl E g).set id (zad E id, zgcl E c') = zgwl E (g.set id c') := by
  apply List.ext_getElem?
  intro j
  unfold zgwl
  rw [List.getElem?_set, List.getElem?_mapIdx, List.getElem?_mapIdx, List.getElem?_set, List.length_mapIdx]
  by_cases hj : id = j
  · subst hj
    rw [if_pos rfl, if_pos rfl]
    by_cases hl : id < g.length
    · rw [if_pos hl, if_pos hl]; rfl
    · rw [if_neg hl, if_neg hl]; rfl
  · rw [if_neg hj, if_neg hj]
theorem zad_a {E : zE} {as t : List Nat} {i : Nat} (h : i < as.length) : zad (zEa E (as ++ t)) i = zad (zEa E as) i := by
  show ((as ++ t)[i]?).getD _ = (as[i]?).getD _
  rw [List.getElem?_append_left h]
theorem zup_a {E : zE} {as t : List Nat} {v : zV} (h : zgwv as.length v = true) : zup (zEa E (as ++ t)) v = zup (zEa E as) v := by
  match v, h with
  | .inl a, _ => rfl
  | .inr (.inl a), _ => rfl
  | .inr (.inr r), h =>
    have hr : r < as.length := of_decide_eq_true h
    show zrf _ r = zrf _ r
    unfold zrf
    rw [zad_a hr]
    rfl
theorem zgcl_a {E : zE} {as t : List Nat} {c : zGc} (h : zgwc as.length c = true) : zgcl (zEa E (as ++ t)) c = zgcl (zEa E as) c := by
  match c, h with
  | .inl q, h =>
    show Sum.inr (q.1, q.2.map _) = Sum.inr (q.1, q.2.map _)
    congr 2
    refine List.map_congr_left (fun f hf => ?_)
    have h1 := List.all_eq_true.mp (show q.2.all _ = true from h) f hf
    cases f with
    | none => rfl
    | some v => exact zup_a h1
  | .inr (kd, n, w), _ => rfl
theorem zgwl_a {E : zE} {as t : List Nat} {g : List zGc} (hl : as.length = g.length) (h : g.all (zgwc g.length) = true) : zgwl (zEa E (as ++ t)) g = zgwl (zEa E as) g := by
  apply List.ext_getElem?
  intro j
  unfold zgwl
  rw [List.getElem?_mapIdx, List.getElem?_mapIdx]
  cases hc : g[j]? with
  | none => rfl
  | some c =>
    have hj := (List.getElem?_eq_some_iff.mp hc).1
    show some (zad (zEa E (as ++ t)) j, zgcl (zEa E (as ++ t)) c) = some (zad (zEa E as) j, zgcl (zEa E as) c)
    rw [zad_a (by omega), zgcl_a (by rw [hl]; exact List.all_eq_true.mp h c (List.mem_of_getElem? hc))]
theorem zgwl_push {E : zE} {as : List Nat} {a : Nat} {g : List zGc} {c : zGc} (hl : as.length = g.length) (h : g.all (zgwc g.length) = true) : zgwl (zEa E (as ++ [a])) (g ++ [c]) = zgwl (zEa E as) g ++ [(a, zgcl (zEa E (as ++ [a])) c)] := by
  rw [← zgwl_a (t := [a]) hl h]
  unfold zgwl
  rw [List.mapIdx_append]
  congr 1
  show [(((as ++ [a])[0 + g.length]?).getD _, _)] = _
  rw [Nat.zero_add, ← hl, List.getElem?_append_right (Nat.le_refl _), Nat.sub_self]
  rfl
