/-! a constructor's contract -/
def zgP (E : zE) (as : List Nat) (g : List zGc) (H : Heap) : Prop := as.length = g.length ∧ va_P (zgD E) vwCl (zgwl (zEa E as) g) H ∧ va_D (zA E) (zgwl (zEa E as) g)
def zgU (E : zE) (as : List Nat) (g : List zGc) (U : State) : Prop := zgP E as g U.heap ∧ va_K (zgD E) vwCl (ztys E) U ∧ ∀ q : Nat, U.heap.size ≤ q → zA E q
def zgQ (E : zE) (as : List Nat) (g1 : List zGc) : Array Value → State → Outcome → State → Prop := fun _ st oc t =>
  (oc = .returned none ∧ ∃ t' : List Nat, zgP E (as ++ t') g1 t.heap) ∧ va_F (zA E) st t
def zgC (l : Launch) (E : zE) (d : Nat) (M : zMeth) (As : List zV) (as : List Nat) (g g1 : List zGc) (mc ms : Nat) : Prop :=
  Met l (zny M) (zws M) { frames := d, cells := mc, slots := ms, locals := 40 * d } (va_Pc (As.map (zup (zEa E as))) (fun U => zgU E as g U)) (zgQ E as g1) mc ms (zA E)
