/-! the judgement itself -/
def zsl : List Nat := [98, 11]
def zsb : List (List Int32) := [("hour pitch farm ear own far yoked ox strength weaker soil heeds second slip calls work or and not ".toList.map (fun c => Int32.ofNat c.toNat)), ("<>=#+-*/();".toList.map (fun c => Int32.ofNat c.toNat))]
/-- words between nest mates ride with the state -/
def zNw : Jvm.Cond → Bool
  | .fieldLinkNest _ _ _ _ _ _ => true
  | .methodLinkNest _ _ _ _ => true
  | _ => false
theorem zNw_warm {w : Jvm.Cond} (hn : zNw w = true) {s U : State} (hW : s.WarmedH U.vm) (h : va_Nw w s) : va_Nw w U := by
  cases w with
  | fieldLinkNest a b c d e f => exact va_Nw.warmF hW h
  | methodLinkNest a b c d => exact va_Nw.warmM hW h
  | _ => cases hn
theorem zNw_use {w : Jvm.Cond} (hn : zNw w = true) {s : State} {args : Array Value} (h : va_Nw w s) : w.before args s = true := by
  cases w with
  | fieldLinkNest a b c d e f => exact va_Nw.use rfl h
  | methodLinkNest a b c d => exact va_Nw.use rfl h
  | _ => cases hn
def zStr (E : zE) (U : State) : Prop :=
  zad E 1000 < U.heap.size ∧ ¬ zA E (zad E 1000) ∧ va_X (zad E 1000) (zsc E).1 (fun j => Int32.ofInt ((zsc E).2.getD j 0)) U U.heap ∧
  vk_S 2 zsl zsb (fun i => zad E (1001 + i)) (fun i => zad E (1003 + i)) (zA E) U U.heap ∧
  vk_R "OxenHome$Reader" 145 "hour pitch farm ear own far yoked ox strength weaker soil heeds second slip calls work or and not " (zad E 1001) U ∧ vk_R "OxenHome$Reader" 161 "<>=#+-*/();" (zad E 1002) U ∧
  va_Z "java/lang/String" "COMPACT_STRINGS" "Z" (.int 1) (zA E) U U.heap ∧ va_Z "jdk/internal/util/Preconditions" "SIOOBE_FORMATTER" "Ljava/util/function/BiFunction;" (zfm E) (zA E) U U.heap ∧
  ∀ w ∈ lw_tbl, zNw w = true → va_Nw w U
theorem zStr_mv {E : zE} {s U : State} (h : zStr E s) (hW : s.WarmedH U.vm) (hz : s.heap.size ≤ U.heap.size) (hk : ∀ q : Nat, q < s.heap.size → ¬ zA E q → U.heap[q]? = s.heap[q]?) : zStr E U := by
  obtain ⟨h1, h2, h3, h4, h5, h6, h7, h8, h9⟩ := h
  refine ⟨Nat.lt_of_lt_of_le h1 hz, h2, ?_, ?_, vk_R.warm hW h5, vk_R.warm hW h6, ?_, ?_, fun w hw hn => zNw_warm hn hW (h9 w hw hn)⟩
  · exact (h3.moved hW.alike).kept (hk _ h1 h2)
  · exact (h4.moved hW.alike).kept hk
  · exact (h7.moved hW.alike).kept hk
  · exact (h8.moved hW.alike).kept hk
def zrm (d : Nat) : Room := { frames := d, cells := 0, slots := 0, locals := 40 * d }
def lw_tblg : List Jvm.Cond := lw_tbl.filter goodWord
def zws (M : zMeth) : List Jvm.Cond := .code (zny M) (zby M) (zml M) (zrt M) :: lw_tblg
def zri (M : zMeth) : Instr := match zrt M with
  | none => .return_
  | some .long => .lreturn
  | some _ => .ireturn
def zrs (M : zMeth) (r : Int) : List Value := match zrt M with
  | none => []
  | some .long => [.long (Int64.ofInt r)]
  | some _ => [.int (Int32.ofInt r)]
def zrz (M : zMeth) (r : Int) : List zV := match zrt M with
  | none => []
  | some .long => [.inr (.inl r)]
  | some _ => [.inl r]
def zRr (M : zMeth) (r : Int) : Prop := match zrt M with
  | none => r = 0
  | some .long => zI64 r
  | some t => zI32 r ∧ narrow t (.int (Int32.ofInt r)) = .int (Int32.ofInt r)
theorem zrs_z (E : zE) (M : zMeth) (r : Int) : zrs M r = (zrz M r).map (zup E) := by
  unfold zrs zrz
  split <;> rfl
theorem zRr_v {M : zMeth} {r : Int} (h : zRr M r) : ∀ v ∈ zrz M r, zrv v := by
  unfold zRr at h
  unfold zrz
  split at h
  · intro v hv; cases hv
  · intro v hv
    rcases List.mem_singleton.mp hv with rfl
    exact h
  · intro v hv
    rcases List.mem_singleton.mp hv with rfl
    exact h.1
def zU (E : zE) (h : zHp) (U : State) : Prop := zRg h ∧ va_P (zgD E) vwCl (zwl E h) U.heap ∧ va_K (zgD E) vwCl (ztys E) U ∧ zStr E U
def zQc (E : zE) (M : zMeth) (Q : Int → zHp → Prop) : Array Value → State → Outcome → State → Prop := fun _ st oc t =>
  (∃ (r : Int) (h : zHp), oc = .returned (zrs M r).head? ∧ zRr M r ∧ Q r h ∧ zRg h ∧ va_P (zgD E) vwCl (zwl E h) t.heap) ∧ va_F (zA E) st t
def zEo (E : zE) : Prop := ∀ h : zHp, va_D (zA E) (zwl E h)
/-- a call's contract -/
def zC (l : Launch) (E : zE) (d : Nat) (M : zMeth) (as : List zV) (h : zHp) (Q : Int → zHp → Prop) : Prop :=
  (∀ v ∈ as, zrv v) → zRg h → zEo E → (zfm E).category = 1 → Met l (zny M) (zws M) (zrm d) (va_Pc (as.map (zup E)) (fun U => zU E h U)) (zQc E M Q) 0 0 (zA E)
def zX (E : zE) (d : Nat) (M : zMeth) (p : Program) (R : Room) (s : State) (m : MethodId) (args : Array Value) (c : Code) (cells slots : Nat) : Prop :=
  p.tables.exec = Jvm.exec ∧ c.code = zby M ∧ c.maxLocals = zml M ∧ s.vm.findClass (zcl M) = some m.cls ∧ (∀ w ∈ lw_tblg, w.before args s = true) ∧ va_K (zgD E) vwCl (ztys E) s ∧ zEo E ∧ zchk M = true ∧ (d ≤ R.frames ∧ 40 * d ≤ R.locals) ∧ (cells ≤ R.cells ∧ slots ≤ R.slots) ∧ zStr E s ∧ (zfm E).category = 1
def zSt (E : zE) (h : zHp) (s : State) (H : Heap) (locs : List Loc) : Prop := zRg h ∧ va_P (zgD E) vwCl (zwl E h) H ∧ va_S (zA E) s.heap H locs
def zLs (E : zE) (n : Nat) (L : List zV) (ls : Array Slot) : Prop := L.length = n ∧ (∀ v ∈ L, zrv v) ∧ ∃ lv : List (Nat × Value), lv_has ls n lv ∧ ∀ (j : Nat) (v : zV), L[j]? = some v → v ≠ zJk → (j, zup E v) ∈ lv
def zEd (E : zE) (M : zMeth) (Q : Int → zHp → Prop) (p : Program) (l : Launch) (e : Env) (R : Room) (s : State) (m : MethodId) (args : Array Value) (below : List Frame) (meth : Method) (c : Code) (cells slots : Nat) (QQ : State → Prop) : Prop :=
  ∀ (r : Int) (h : zHp) (H : Heap) (locs : List Loc) (pc : Nat) (ls : Array Slot), zSt E h s H locs → zRr M r → Q r h → decode (zby M) pc = .ok (zri M, 1) → W p l e R s m args below meth c H locs cells slots QQ (F0 m pc ls (zrs M r))
def zW (l : Launch) (E : zE) (d : Nat) (M : zMeth) (k : Nat) (L S : List zV) (h : zHp) (Q : Int → zHp → Prop) : Prop :=
  ∀ (p : Program) (e : Env) (R : Room) (s : State) (m : MethodId) (args : Array Value) (below : List Frame) (meth : Method) (c : Code) (H : Heap) (locs : List Loc) (ls : Array Slot) (cells slots : Nat) (QQ : State → Prop),
    zX E d M p R s m args c cells slots → zEd E M Q p l e R s m args below meth c cells slots QQ → zSt E h s H locs → zLs E (zml M) L ls → (∀ v ∈ S, zrv v) →
    W p l e R s m args below meth c H locs cells slots QQ (F0 m (zpc M k) ls (S.map (zup E)))
theorem lw_tblg_in : ∀ w ∈ lw_tblg, w ∈ lw_tbl ∧ goodWord w = true := fun w h => List.mem_filter.mp h
/-- the arguments as locals -/
def zlf (as : List zV) : List zV := as.flatMap (fun v => match v with
  | .inr (.inl a) => [.inr (.inl a), zJk]
  | .inl a => [.inl a]
  | .inr (.inr i) => [.inr (.inr i)])
def zla (n : Nat) (as : List zV) : List zV := zlf as ++ List.replicate (n - (zlf as).length) zJk
theorem zup_cat1 (E : zE) (hf : (zfm E).category = 1) (v : zV) : (zup E v).category = match v with | .inr (.inl _) => 2 | _ => 1 := by
  match v with
  | .inl a => rfl
  | .inr (.inl a) => rfl
  | .inr (.inr k) =>
    show (zrf E k).category = 1
    unfold zrf
    split
    · exact hf
    · rfl
