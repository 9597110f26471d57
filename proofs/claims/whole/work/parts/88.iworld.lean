/-! the start: addresses, the world behind both constructors -/
theorem zad_big {E : zE} {as : List Nat} {i : Nat} (h : as.length ≤ i) : zad (zEa E as) i = zad E i := by
  show (as[i]?).getD _ = _
  rw [List.getElem?_eq_none h]
  rfl
theorem zStr_a {E : zE} {as : List Nat} {s : State} (h : as.length ≤ 1000) (hs : zStr E s) : zStr (zEa E as) s := by
  have e : ∀ i, 1000 ≤ i → zad (zEa E as) i = zad E i := fun i hi => zad_big (by omega)
  have f1 : (fun i => zad (zEa E as) (1001 + i)) = fun i => zad E (1001 + i) := funext fun i => e _ (by omega)
  have f2 : (fun i => zad (zEa E as) (1003 + i)) = fun i => zad E (1003 + i) := funext fun i => e _ (by omega)
  unfold zStr
  rw [f1, f2, e 1000 (by omega), e 1001 (by omega), e 1002 (by omega)]
  exact hs
theorem zwl_ad {E : zE} {h : zHp} {i : Nat} {p : Nat × va_E} (hp : (zwl E h)[i]? = some p) : p.1 = zad E i ∧ ∃ d, zO[i]? = some d := by
  cases hd : zO[i]? with
  | none =>
    have : (zwl E h)[i]? = none := by
      unfold zwl
      rw [List.getElem?_mapIdx, hd]
      rfl
    rw [this] at hp
    cases hp
  | some d =>
    rw [zwl_at hd] at hp
    cases hp
    exact ⟨rfl, d, rfl⟩
theorem zEo_of {E : zE} {h0 : zHp} (hd : va_D (zA E) (zwl E h0)) : zEo E := by
  intro h
  refine ⟨fun i j p q hi hj e => ?_, fun k q hq => ?_⟩
  · obtain ⟨e1, d1, o1⟩ := zwl_ad hi
    obtain ⟨e2, d2, o2⟩ := zwl_ad hj
    exact hd.1 i j _ _ (zwl_at o1) (zwl_at o2) (by show zad E i = zad E j; rw [← e1, ← e2, e])
  · obtain ⟨e1, d1, o1⟩ := zwl_ad hq
    rw [e1]
    exact hd.2 k _ (zwl_at o1)
/-- the addresses and classes at the law's entry -/
def zstE (s : State) (b L : Nat) (xs : Nat → Int32) (D : va_G) (cI cJ cZ : ClassId) (adK adV : Nat → Nat) (fm : Value) : zE :=
  (D, (fun i => if i = 1000 then b else if i = 1001 then adK 0 else if i = 1002 then adK 1 else if i = 1003 then adV 0 else adV 1), (cI, cJ, cZ), (fun q => s.heap.size ≤ q), fm, (L, (List.range L).map (fun j => (xs j).toInt)))
theorem zst_z {s : State} {b L : Nat} {xs : Nat → Int32} {D : va_G} {cI cJ cZ : ClassId} {adK adV : Nat → Nat} {fm : Value} (a : Int) : zI32 (zsx (zstE s b L xs D cI cJ cZ adK adV fm) a) := by
  unfold zsx
  show zI32 (((List.range L).map (fun j => (xs j).toInt)).getD a.toNat 0)
  rw [List.getD_eq_getElem?_getD, List.getElem?_map]
  cases h : (List.range L)[a.toNat]? with
  | none => show zI32 0; unfold zI32; omega
  | some j => exact zt32_r _
theorem zst_str {s : State} {b L : Nat} {xs : Nat → Int32} {D : va_G} {cI cJ cZ : ClassId} {adK adV : Nat → Nat} {fm : Value} (hts : ∀ w ∈ lw_tbl, w.before #[Value.ref b] s = true) (hX : va_X b L xs s s.heap) (hbl : b < s.heap.size) (hS : vk_S 2 zsl zsb adK adV (fun q : Nat => s.heap.size ≤ q) s s.heap)
    (hR0 : vk_R "OxenHome$Reader" 145 "hour pitch farm ear own far yoked ox strength weaker soil heeds second slip calls work or and not " (adK 0) s) (hR1 : vk_R "OxenHome$Reader" 161 "<>=#+-*/();" (adK 1) s) (hC : va_Z "java/lang/String" "COMPACT_STRINGS" "Z" (.int 1) (fun q : Nat => s.heap.size ≤ q) s s.heap) (hF : va_Z "jdk/internal/util/Preconditions" "SIOOBE_FORMATTER" "Ljava/util/function/BiFunction;" fm (fun q : Nat => s.heap.size ≤ q) s s.heap) : zStr (zstE s b L xs D cI cJ cZ adK adV fm) s := by
  refine ⟨hbl, Nat.not_le.mpr hbl, ?_, ⟨fun i hi => ?_, fun i j hi hj e => ?_⟩, hR0, hR1, hC, hF, zst_N hts⟩
  · obtain ⟨scr, h1, h2, h3, h4, h5⟩ := hX
    refine ⟨scr, h1, h2, h3, h4, fun j hj => ?_⟩
    have hj : j < L := hj
    rw [h5 j hj]
    have : Int32.ofInt (((List.range L).map (fun j => (xs j).toInt)).getD j 0) = xs j := by
      rw [List.getD_eq_getElem?_getD, List.getElem?_map, List.getElem?_range hj]
      exact Int32.ofInt_toInt _
    show _ = some (Value.int (Int32.ofInt (((List.range L).map (fun j => (xs j).toInt)).getD j 0)))
    rw [this]
  · rcases (show i = 0 ∨ i = 1 by omega) with rfl | rfl
    · exact hS.1 0 hi
    · exact hS.1 1 hi
  · rcases (show i = 0 ∨ i = 1 by omega) with rfl | rfl <;> rcases (show j = 0 ∨ j = 1 by omega) with rfl | rfl
    · rfl
    · exact hS.2 0 1 hi hj e
    · exact hS.2 1 0 hi hj e
    · rfl
