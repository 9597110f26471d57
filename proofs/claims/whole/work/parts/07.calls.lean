/-! calls, and a method from its entry -/
def zhok (hd : zHdr) : Bool := decide (hd.2.1.cls = zcn hd.1) && (decide (hd.2.1.cls ≠ "java/lang/invoke/MethodHandle") && (decide (hd.2.1.cls ≠ "java/lang/invoke/VarHandle") && (decide ((parseMethodDescriptor hd.2.1.desc).map (fun d => d.parameters.length) = some hd.2.2.2.2.2.2) && decide (hd.2.2.2.1 ≤ 21))))
theorem zHd_ok : zHd.all zhok = true := by decide +kernel
def zfl : Jvm.Cond → Option (String × Nat × MethodName)
  | .methodLink a b c => some (a, b, c)
  | _ => none
def zfn : Jvm.Cond → Option (String × Nat × MethodName × String)
  | .methodLinkNest a b c d => some (a, b, c, d)
  | _ => none
def zfc : Jvm.Cond → Option (MethodName × ByteArray × Nat × Option FieldType)
  | .code a b c d => some (a, b, c, d)
  | _ => none
def zfs : Jvm.Cond → Option MethodName
  | .static a => some a
  | _ => none
def zfi : Jvm.Cond → Option MethodName
  | .instanceMethod a => some a
  | _ => none
def zfe : Jvm.Cond → Option (String × MethodName × MethodName)
  | .selects a b c => some (a, b, c)
  | _ => none
def zfz : Jvm.Cond → Option String
  | .initialized a => some a
  | _ => none
set_option maxRecDepth 100000 in
set_option maxHeartbeats 4000000 in
theorem zl_links : lw_tbl.filterMap zfl = zMp1.map (fun q => (zcn q.1, q.2.1, (zhj q.2.2.1).2.1)) := rfl
set_option maxRecDepth 100000 in
set_option maxHeartbeats 4000000 in
theorem zl_nest : lw_tbl.filterMap zfn = zMp2.map (fun q => (zcn q.1, q.2.1, (zhj q.2.2.1).2.1, "OxenHome")) := rfl
set_option maxRecDepth 100000 in
set_option maxHeartbeats 4000000 in
theorem zl_codes : lw_tbl.filterMap zfc = zCq.map (fun j => ((zhj j).2.1, (zhj j).2.2.1, (zhj j).2.2.2.1, (zhj j).2.2.2.2.1)) := rfl
set_option maxRecDepth 100000 in
set_option maxHeartbeats 4000000 in
theorem zl_stat : lw_tbl.filterMap zfs = zSq.map (fun j => (zhj j).2.1) := rfl
set_option maxRecDepth 100000 in
set_option maxHeartbeats 4000000 in
theorem zl_inst : lw_tbl.filterMap zfi = zIq.map (fun j => (zhj j).2.1) := rfl
set_option maxRecDepth 100000 in
set_option maxHeartbeats 4000000 in
theorem zl_sel : lw_tbl.filterMap zfe = zEq.map (fun j => (zcn (zhj j).1, (zhj j).2.1, (zhj j).2.1)) := rfl
set_option maxRecDepth 100000 in
set_option maxHeartbeats 4000000 in
theorem zl_ini : lw_tbl.filterMap zfz = zNq.map zcn := rfl
theorem zfm_of {α β : Type} {f : Jvm.Cond → Option α} {l : List β} {g : β → α} {b : β} (h : lw_tbl.filterMap f = l.map g) (hb : b ∈ l) : ∃ w ∈ lw_tbl, f w = some (g b) := List.mem_filterMap.mp (by rw [h]; exact List.mem_map_of_mem hb)
theorem zw_link {cn ix j : Nat} (h : zMp.contains (cn, ix, j, false) = true) : Jvm.Cond.methodLink (zcn cn) ix (zhj j).2.1 ∈ lw_tbl := by
  have h1 : (cn, ix, j, false) ∈ zMp1 := by
    rcases List.mem_append.mp (List.contains_iff_mem.mp h) with q | q
    · exact q
    · exact absurd (List.all_eq_true.mp (by decide : zMp2.all (fun q => q.2.2.2) = true) _ q) (by simp)
  obtain ⟨w, hw, e⟩ := zfm_of zl_links h1
  cases w with
  | methodLink a b c => cases e; exact hw
  | _ => cases e
theorem zw_nest {cn ix j : Nat} (h : zMp.contains (cn, ix, j, true) = true) : Jvm.Cond.methodLinkNest (zcn cn) ix (zhj j).2.1 "OxenHome" ∈ lw_tbl := by
  have h1 : (cn, ix, j, true) ∈ zMp2 := by
    rcases List.mem_append.mp (List.contains_iff_mem.mp h) with q | q
    · exact absurd (List.all_eq_true.mp (by decide +kernel : zMp1.all (fun q => !q.2.2.2) = true) _ q) (by simp)
    · exact q
  obtain ⟨w, hw, e⟩ := zfm_of zl_nest h1
  cases w with
  | methodLinkNest a b c d => cases e; exact hw
  | _ => cases e
theorem zw_code {j : Nat} (h : zCq.contains j = true) : Jvm.Cond.code (zhj j).2.1 (zhj j).2.2.1 (zhj j).2.2.2.1 (zhj j).2.2.2.2.1 ∈ lw_tbl := by
  obtain ⟨w, hw, e⟩ := zfm_of zl_codes (List.contains_iff_mem.mp h)
  cases w with
  | code a b c d => cases e; exact hw
  | _ => cases e
theorem zw_stat {j : Nat} (h : zSq.contains j = true) : Jvm.Cond.static (zhj j).2.1 ∈ lw_tbl := by
  obtain ⟨w, hw, e⟩ := zfm_of zl_stat (List.contains_iff_mem.mp h)
  cases w with
  | static a => cases e; exact hw
  | _ => cases e
theorem zw_inst {j : Nat} (h : zIq.contains j = true) : Jvm.Cond.instanceMethod (zhj j).2.1 ∈ lw_tbl := by
  obtain ⟨w, hw, e⟩ := zfm_of zl_inst (List.contains_iff_mem.mp h)
  cases w with
  | instanceMethod a => cases e; exact hw
  | _ => cases e
theorem zw_sel {j : Nat} (h : zEq.contains j = true) : Jvm.Cond.selects (zcn (zhj j).1) (zhj j).2.1 (zhj j).2.1 ∈ lw_tbl := by
  obtain ⟨w, hw, e⟩ := zfm_of zl_sel (List.contains_iff_mem.mp h)
  cases w with
  | selects a b c => cases e; exact hw
  | _ => cases e
theorem zw_ini {c : Nat} (h : zNq.contains c = true) : Jvm.Cond.initialized (zcn c) ∈ lw_tbl := by
  obtain ⟨w, hw, e⟩ := zfm_of zl_ini (List.contains_iff_mem.mp h)
  cases w with
  | initialized a => cases e; exact hw
  | _ => cases e
theorem zhd_some {M : zMeth} {hd : zHdr} (h : zHd[M.1]? = some hd) : zhd M = hd := by unfold zhd; rw [h]; rfl
def zcat : zV → Nat
  | .inr (.inl _) => 2
  | _ => 1
theorem zcat_up {E : zE} (hf : (zfm E).category = 1) (S : List zV) : ((S.map (zup E)).map fun v => v.category).sum = (S.map zcat).sum := by
  congr 1
  rw [List.map_map]
  apply List.map_congr_left
  intro v _
  rw [Function.comp_apply, zup_cat1 E hf]
  match v with
  | .inl a => rfl
  | .inr (.inl a) => rfl
  | .inr (.inr a) => rfl
theorem zlf_at {E : zE} (hf : (zfm E).category = 1) : ∀ (as : List zV) (i0 j : Nat) (v : zV), (zlf as)[j]? = some v → v ≠ zJk → (i0 + j, zup E v) ∈ lv_args i0 (as.map (zup E)) := by
  intro as
  induction as with
  | nil => intro i0 j v h; simp [zlf] at h
  | cons w r ih =>
    intro i0 j v h hv
    rw [List.map_cons, lv_args, zup_cat1 E hf]
    match w, h with
    | .inl a, h =>
      have e : zlf (.inl a :: r) = .inl a :: zlf r := rfl
      rw [e] at h
      cases j with
      | zero => cases h; exact List.mem_cons_self
      | succ j =>
        have := ih (i0 + 1) j v h hv
        rw [show i0 + (j + 1) = i0 + 1 + j by omega]
        exact List.mem_cons_of_mem _ this
    | .inr (.inr a), h =>
      have e : zlf (.inr (.inr a) :: r) = .inr (.inr a) :: zlf r := rfl
      rw [e] at h
      cases j with
      | zero => cases h; exact List.mem_cons_self
      | succ j =>
        have := ih (i0 + 1) j v h hv
        rw [show i0 + (j + 1) = i0 + 1 + j by omega]
        exact List.mem_cons_of_mem _ this
    | .inr (.inl a), h =>
      have e : zlf (.inr (.inl a) :: r) = .inr (.inl a) :: zJk :: zlf r := rfl
      rw [e] at h
      match j, h with
      | 0, h => cases h; exact List.mem_cons_self
      | 1, h => cases h; exact absurd rfl hv
      | j + 2, h =>
        have := ih (i0 + 2) j v h hv
        rw [show i0 + (j + 2) = i0 + 2 + j by omega]
        exact List.mem_cons_of_mem _ this
theorem zlf_rv {as : List zV} (h : ∀ v ∈ as, zrv v) : ∀ v ∈ zlf as, zrv v := by
  intro v hv
  obtain ⟨w, hw, q⟩ := List.mem_flatMap.mp hv
  have hw := h w hw
  match w, hw, q with
  | .inl a, hw, q => rcases List.mem_singleton.mp q with rfl; exact hw
  | .inr (.inr a), hw, q => rcases List.mem_singleton.mp q with rfl; exact hw
  | .inr (.inl a), hw, q =>
    rcases List.mem_cons.mp q with rfl | q
    · exact hw
    · rcases List.mem_singleton.mp q with rfl; trivial
theorem zlf_sl {E : zE} (hf : (zfm E).category = 1) : ∀ as : List zV, (lg_sl (as.map (zup E))).length = (zlf as).length := by
  intro as
  induction as with
  | nil => rfl
  | cons w r ih =>
    have e1 : lg_sl ((w :: r).map (zup E)) = (if (zup E w).category = 2 then [.val (zup E w), .second] else [.val (zup E w)]) ++ lg_sl (r.map (zup E)) := rfl
    rw [e1, List.length_append, ih, zup_cat1 E hf]
    match w with
    | .inl a => show _ = (Sum.inl a :: zlf r).length; simp; omega
    | .inr (.inr a) => show _ = (Sum.inr (Sum.inr a) :: zlf r).length; simp; omega
    | .inr (.inl a) => show _ = (Sum.inr (Sum.inl a) :: zJk :: zlf r).length; simp; omega
theorem zrf_cat {E : zE} (hf : (zfm E).category = 1) (v : zV) : (zup E v).category = zcat v := by
  rw [zup_cat1 E hf]
  match v with
  | .inl a => rfl
  | .inr (.inl a) => rfl
  | .inr (.inr a) => rfl
theorem zri_n {M : zMeth} (h : zrt M = none) : zri M = .return_ := by unfold zri; rw [h]
theorem zri_l {M : zMeth} (h : zrt M = some .long) : zri M = .lreturn := by unfold zri; rw [h]
theorem zri_s {M : zMeth} {t : FieldType} (h : zrt M = some t) (hl : t ≠ .long) : zri M = .ireturn := by
  unfold zri
  rw [h]
  cases t <;> first | rfl | exact absurd rfl hl
theorem zrs_n {M : zMeth} {r : Int} (h : zrt M = none) : zrs M r = [] := by unfold zrs; rw [h]
theorem zrs_l {M : zMeth} {r : Int} (h : zrt M = some .long) : zrs M r = [.long (Int64.ofInt r)] := by unfold zrs; rw [h]
theorem zrs_s {M : zMeth} {r : Int} {t : FieldType} (h : zrt M = some t) (hl : t ≠ .long) : zrs M r = [.int (Int32.ofInt r)] := by
  unfold zrs
  rw [h]
  cases t <;> first | rfl | exact absurd rfl hl
theorem zRr_s {M : zMeth} {r : Int} {t : FieldType} (h : zrt M = some t) (hl : t ≠ .long) (hR : zRr M r) : zI32 r ∧ narrow t (.int (Int32.ofInt r)) = .int (Int32.ofInt r) := by
  unfold zRr at hR
  rw [h] at hR
  cases t <;> first | exact hR | exact absurd rfl hl
/-- a method, from its entry -/
theorem zC_of {l : Launch} {E : zE} {d : Nat} {M : zMeth} {as : List zV} {h : zHp} {Q : Int → zHp → Prop} (hc : zchk M = true) (hpl : plainName (zny M).cls = true) (hh : (zHd[M.1]?).isSome = true) (h0 : zpc M 0 = 0) (hn : (zlf as).length ≤ zml M) (hW : zW l E d M 0 (zla (zml M) as) [] h Q) : zC l E d M as h Q := by
  intro hrv hRg hEo hf
  obtain ⟨hd, hhd⟩ := Option.isSome_iff_exists.mp hh
  have ehd := zhd_some hhd
  have hok := List.all_eq_true.mp zHd_ok _ (List.mem_of_getElem? hhd)
  unfold zhok at hok
  simp only [Bool.and_eq_true, decide_eq_true_eq] at hok
  refine Met.ofW (cc := zby M) (maxL := zml M) (ret := zrt M) hpl rfl ?_
  intro p e s m args below meth c s₁ B hml hv
  obtain ⟨rfl, hRg', hP, hK, hstr⟩ := hv
  have hr := B.returns
  have hts := atoms_spec (ws := zws M) B.pre
  have hown : s.vm.findClass (zny M).cls = some m.cls := findClass_of_methodNamed B.named
  have hlocks := B.notSynchronized
  have hcl : (zny M).cls = zcl M := by show (zhd M).2.1.cls = zcn (zhd M).1; rw [ehd]; exact hok.1
  rw [hcl] at hown
  rw [lg_entry_eq]
  have hlen := zlf_sl hf as
  have hl := lv_entry (as.map (zup E)) (n := zml M) (by rw [hlen]; exact hn)
  have hX : zX E d M p (zrm d) s m (as.map (zup E)).toArray c 0 0 := ⟨B.exec, B.bytes, hml, hown, fun w hw => hts w (List.mem_cons_of_mem _ hw), hK, hEo, hc, ⟨Nat.le_refl _, Nat.le_refl _⟩, ⟨Nat.zero_le _, Nat.zero_le _⟩, hstr, hf⟩
  have hL : zLs E (zml M) (zla (zml M) as) (lg_sl (as.map (zup E)) ++ List.replicate (zml M - (lg_sl (as.map (zup E))).length) Slot.unset).toArray := by
    refine ⟨?_, ?_, _, hl, ?_⟩
    · unfold zla
      rw [List.length_append, List.length_replicate]
      omega
    · intro v hv
      rcases List.mem_append.mp hv with q | q
      · exact zlf_rv hrv v q
      · rw [(List.mem_replicate.mp q).2]; trivial
    · intro j v hj hv
      unfold zla at hj
      rcases Nat.lt_or_ge j (zlf as).length with q | q
      · rw [List.getElem?_append_left q] at hj
        have := zlf_at hf as 0 j v hj hv
        rwa [Nat.zero_add] at this
      · rw [List.getElem?_append_right q] at hj
        exact absurd (List.mem_replicate.mp (List.mem_of_getElem? hj)).2 hv
  have hE : zEd E M Q p l e (zrm d) s m (as.map (zup E)).toArray below meth c 0 0 (MQ below (zQc E M Q) (as.map (zup E)).toArray s 0 0 (zA E)) := by
    intro r h' H locs pc ls hS hR hQ hdg
    have hq : ∀ t : State, t.heap = H → s.WarmedH t.vm → zQc E M Q (as.map (zup E)).toArray s (.returned (zrs M r).head?) t := fun t ht _ => ⟨⟨r, h', rfl, hR, hQ, hS.1, by rw [ht]; exact hS.2.1⟩, hS.2.2.F ht⟩
    rcases hrt : zrt M with _ | t
    · rw [zri_n hrt] at hdg
      rw [zrs_n hrt] at hq ⊢
      rw [hrt] at hr
      exact W.vret B.exec B.bytes hr hq hS.2.2.2.2 hdg hlocks
    · by_cases hl : t = .long
      · subst hl
        rw [zri_l hrt] at hdg
        rw [zrs_l hrt] at hq ⊢
        rw [hrt] at hr
        exact W.lret B.exec B.bytes hr hq hS.2.2.2.2 hdg hlocks
      · rw [zri_s hrt hl] at hdg
        rw [zrs_s hrt hl] at hq ⊢
        have hR := zRr_s hrt hl hR
        rw [hrt] at hr
        exact W.zret B.exec B.bytes hr hR.2 hq hS.2.2.2.2 hdg hlocks
  have k1 := hW p e (zrm d) s m _ below meth c s.heap [] _ 0 0 _ hX hE ⟨hRg', hP, va_S.rf⟩ hL (fun v hv => by cases hv)
  rw [h0] at k1
  exact k1
section ZC
variable {l : Launch} {E : zE} {d : Nat} {M : zMeth} {k : Nat} {L S : List zV} {h : zHp} {Q : Int → zHp → Prop}
theorem zblind (av : List Value) (h : zHp) : FrameBlind (va_Pc av (fun U => zU E h U)) := by
  intro a U g mk q
  obtain ⟨q1, q2, q3, q4, q5⟩ := q
  exact ⟨q1, q2, q3, va_K.moved (u := U) (U := U.calling g mk a) (Vm.Alike.refl U.vm) q4, zStr_mv q5 (State.WarmedH.refl U) (Nat.le_refl _) (fun _ _ _ => rfl)⟩
theorem zU_of {s U : State} {H : Heap} {locs : List Loc} (hK : va_K (zgD E) vwCl (ztys E) s) (hstr : zStr E s) (hS : zSt E h s H locs) (hU : U.heap = H) (hW : s.WarmedH U.vm) : zU E h U := by
  refine ⟨hS.1, by rw [hU]; exact hS.2.1, va_K.moved hW.alike hK, zStr_mv hstr hW (by rw [hU]; exact hS.2.2.1) (fun q h1 h2 => by rw [hU]; exact hS.2.2.2.1 q h1 h2)⟩
/-- behind a call -/
theorem zbehind {M' : zMeth} {Q' : Int → zHp → Prop} {p : Program} {e : Env} {R : Room} {s : State} {m : MethodId} {args : Array Value} {below : List Frame} {meth : Method} {c : Code} {H : Heap} {locs : List Loc} {ls : Array Slot} {cells slots : Nat} {QQ : State → Prop} {st0 : List Value} {a : Array Value}
    (hX : zX E d M p R s m args c cells slots) (hE : zEd E M Q p l e R s m args below meth c cells slots QQ) (hS : zSt E h s H locs) (hL : zLs E (zml M) L ls) (hv : ∀ v ∈ S, zrv v) (hn : zpc M (k + 1) = zpc M k + 3)
    (hr : va_Run p l e R s m args below meth c H locs cells slots 0 0 (F0 m (zpc M k) ls st0) (S.map (zup E)) (zQc E M' Q' a) (zA E))
    (kk : ∀ (r : Int) (h' : zHp), zRr M' r → Q' r h' → zW l E d M (k + 1) L (zrz M' r ++ S) h' Q) : W p l e R s m args below meth c H locs cells slots QQ (F0 m (zpc M k) ls st0) := by
  intro T hT X
  obtain ⟨v, st₀, t, T', L', g0, X', hL', e1, e2, ⟨⟨r, h', hv', hR, hQ', hRg', hP'⟩, hz, hk⟩, st⟩ := hr T hT X
  cases hv'
  rw [g0] at hz hk
  have k1 := kk r h' hR hQ' p e R s m args below meth c T'.heap (locs ++ L') ls cells slots QQ hX hE ⟨hRg', by rw [e1]; exact hP', Nat.le_trans hS.2.2.1 (by rw [e1]; exact hz), fun q h1 h2 => by rw [e1, hk q (Nat.lt_of_lt_of_le h1 hS.2.2.1) h2]; exact hS.2.2.2.1 q h1 h2, fun q hq => (List.mem_append.mp hq).elim (hS.2.2.2.2 q) (hL' q)⟩ hL (fun v hv2 => (List.mem_append.mp hv2).elim (zRr_v hR v) (hv v))
  obtain ⟨t2, a1, b1⟩ := k1 T' rfl X'
  rw [List.map_append, ← zrs_z, hn] at a1
  have e9 : (zrs M' r).head?.toList = zrs M' r := by unfold zrs; split <;> rfl
  exact ⟨t2, st t2 (by rw [e9]; exact a1), b1⟩
theorem zhok_of {j : Nat} (h : zCq.contains j = true) : (zhj j).2.1.cls = zcn (zhj j).1 ∧ (zhj j).2.1.cls ≠ "java/lang/invoke/MethodHandle" ∧ (zhj j).2.1.cls ≠ "java/lang/invoke/VarHandle" ∧ (parseMethodDescriptor (zhj j).2.1.desc).map (fun d => d.parameters.length) = some (zhj j).2.2.2.2.2.2 ∧ (zhj j).2.2.2.1 ≤ 21 := by
  have h1 := List.all_eq_true.mp (by decide +kernel : zCq.all (fun j => (zHd[j]?).isSome) = true) _ (List.contains_iff_mem.mp h)
  obtain ⟨hd, hh⟩ := Option.isSome_iff_exists.mp h1
  have e : zhj j = hd := by unfold zhj; rw [hh]; rfl
  have hok := List.all_eq_true.mp zHd_ok _ (List.mem_of_getElem? hh)
  unfold zhok at hok
  simp only [Bool.and_eq_true, decide_eq_true_eq] at hok
  rw [e]
  exact hok
theorem z_inv {ix i ci : Nat} {M' : zMeth} {As : List zV} {d' : Nat} {Q' : Int → zHp → Prop} {ks : List Nat} (ho : zop M k = (49, 0, [ix, M'.1])) (hC : zC l E d' M' (.inr (.inr i) :: As) h Q') (hn : (zhd M').2.2.2.2.2 = (false, As.length)) (hO : zO[i]? = some (.inl (ci, ks))) (hcl : (zhd M').1 = ci) (hd : d' + 1 ≤ d) (hst : decide ((S.map zcat).sum ≤ 8) = true)
    (kk : ∀ (r : Int) (h' : zHp), zRr M' r → Q' r h' → zW l E d M (k + 1) L (zrz M' r ++ S) h' Q) : zW l E d M k L (As.reverse ++ .inr (.inr i) :: S) h Q := by
  intro p e R s m args below meth c H locs ls cells slots QQ hX hE hS hL hv
  have hck : (zdc M k 3 (.invokevirtual ix) && (zMp.contains ((zhd M).1, ix, M'.1, false) && zIok M'.1)) = true := zck_at hX.2.2.2.2.2.2.2.1 ho (by decide : (49 : Nat) ≠ 999)
  obtain ⟨hck, hmp⟩ := (Bool.and_eq_true _ _).mp hck
  obtain ⟨hdg, hpc⟩ := zdc_at hck
  obtain ⟨hmp, hi⟩ := (Bool.and_eq_true _ _).mp hmp
  unfold zIok at hi
  simp only [Bool.and_eq_true] at hi
  obtain ⟨hi1, hi2, hi3, hi4⟩ := hi
  obtain ⟨ok1, ok2, ok3, ok4, ok5⟩ := zhok_of hi1
  have hf := hX.2.2.2.2.2.2.2.2.2.2.2
  have hvA : ∀ v ∈ (.inr (.inr i) :: As : List zV), zrv v := zrv_k (v := .inr (.inr i)) trivial (fun v hq => hv v (List.mem_append_left _ (List.mem_reverse.mpr hq)))
  have hvS : ∀ v ∈ S, zrv v := fun v hq => hv v (List.mem_append_right _ (List.mem_cons_of_mem _ hq))
  have hM := hC hvA hS.1 hX.2.2.2.2.2.2.1 hf
  have gd : ∀ {w : Jvm.Cond}, w ∈ lw_tbl → goodWord w = true → w ∈ lw_tblg ∧ ((w.onTables && w.keeps) = true ∨ ∃ ty, w = .arrayClass ty) := fun h1 h2 => ⟨List.mem_filter.mpr ⟨h1, h2⟩, good_of_word h2⟩
  have hg : GoodIn lw_tblg (wsV (zcl M) ix (zny M').cls (zny M') (zws M')) := by
    intro w hw2
    unfold wsV zws at hw2
    simp only [List.cons_append, List.nil_append, List.mem_cons] at hw2
    rcases hw2 with rfl | rfl | rfl | rfl | rfl | h1
    · exact gd (zw_link hmp) rfl
    · exact gd (zw_inst hi2) rfl
    · refine gd ?_ rfl
      have h9 := zw_sel hi3
      rw [← ok1] at h9
      exact h9
    · refine gd ?_ rfl
      have h9 := zw_ini hi4
      rw [← ok1] at h9
      exact h9
    · exact gd (zw_code hi1) rfl
    · exact ⟨h1, good_of_word (lw_tblg_in _ h1).2⟩
  have hRm := hX.2.2.2.2.2.2.2.2.1
  have hnp : (zhj M'.1).2.2.2.2.2.2 = As.length := by show (zhd M').2.2.2.2.2.2 = _; rw [hn]
  have cw : CallW R s args (zcl M) (zny M').cls ix (zny M') (zby M') (zml M') (zrt M') (zws M') (zrm d') 0 0 As.length := cwV (ws' := lw_tblg) As.length hX.2.2.2.2.1 hg rfl rfl rfl ⟨rfl, ok2, ok3, by rw [← hnp]; exact ok4⟩ ⟨by show d' + 1 ≤ R.frames; omega, by show 8 + ((zhj M'.1).2.2.2.1 + 11) + 40 * d' ≤ R.locals; omega⟩
  have hrcv : ∃ cellB : Cell, H[zad E i]? = some cellB ∧ cellB.vm.isStatics = false ∧ s.vm.findClass (zny M').cls = some cellB.cls := by
    cases hc : vwCl[ci]? with
    | none =>
      exfalso
      obtain ⟨r, h1, -⟩ := hS.2.1 i _ (zwl_at hO)
      rw [hc] at h1
      cases h1
    | some q =>
      have h7 := va_recv hX.2.2.2.2.2.1 hS.2.1 hc (zwl_at hO)
      have e1 : q.1 = (zny M').cls := by
        show q.1 = (zhj M'.1).2.1.cls
        rw [ok1, show (zhj M'.1).1 = ci from hcl]
        have h8 : ∀ ci, ci < 13 → (vwCl[ci]?).map (·.1) = zcns[ci]? := by
          intro ci hci
          match ci, hci with
          | 0, _ | 1, _ | 2, _ | 3, _ | 4, _ | 5, _ | 6, _ | 7, _ | 8, _ | 9, _ | 10, _ | 11, _ | 12, _ => rfl
        have h2 := h8 ci (by have := (List.getElem?_eq_some_iff.mp hc).1; exact this)
        rw [hc] at h2
        unfold zcn
        rw [← h2]
        rfl
      rw [← e1]
      exact h7
  rw [List.map_append, List.map_cons, List.map_reverse, zrf_r (zO_lt hO)]
  have hU : ∀ U : State, U.heap = H → s.WarmedH U.vm → va_Pc ((.inr (.inr i) :: As : List zV).map (zup E)) (fun U => zU E h U) (Value.ref (zad E i) :: As.map (zup E)).toArray U := fun U hU hW => ⟨by rw [List.map_cons, zrf_r (zO_lt hO)], zU_of hX.2.2.2.2.2.1 hX.2.2.2.2.2.2.2.2.2.2.1 hS hU hW⟩
  exact zbehind hX hE hS hL hvS hpc (va_runV (As := As.map (zup E)) (rest := S.map (zup E)) ⟨hX.1, hX.2.1, hX.2.2.1, hX.2.2.2.1, hX.2.2.2.2.1⟩ hM cw ⟨zblind _ _, hrcv, hU⟩ rfl (by rw [List.length_map]) (by obtain ⟨-, -, lv, hh, -⟩ := hL; exact hh.1) rfl (lv_room (by rw [zcat_up hf]; exact of_decide_eq_true hst)) hdg hX.2.2.2.2.2.2.2.2.2.1) kk
theorem z_ivs {ix : Nat} {M' : zMeth} {As : List zV} {d' : Nat} {Q' : Int → zHp → Prop} (ho : zop M k = (50, 0, [ix, M'.1])) (hC : zC l E d' M' As h Q') (hn : (zhd M').2.2.2.2.2 = (true, As.length)) (hd : d' + 1 ≤ d) (hst : decide ((S.map zcat).sum ≤ 8) = true)
    (kk : ∀ (r : Int) (h' : zHp), zRr M' r → Q' r h' → zW l E d M (k + 1) L (zrz M' r ++ S) h' Q) : zW l E d M k L (As.reverse ++ S) h Q := by
  intro p e R s m args below meth c H locs ls cells slots QQ hX hE hS hL hv
  have hck : (zdc M k 3 (.invokestatic ix) && ((zMp.contains ((zhd M).1, ix, M'.1, false) || zMp.contains ((zhd M).1, ix, M'.1, true)) && zSok M'.1)) = true := zck_at hX.2.2.2.2.2.2.2.1 ho (by decide : (50 : Nat) ≠ 999)
  obtain ⟨hck, hmp⟩ := (Bool.and_eq_true _ _).mp hck
  obtain ⟨hdg, hpc⟩ := zdc_at hck
  obtain ⟨hmp, hi⟩ := (Bool.and_eq_true _ _).mp hmp
  unfold zSok at hi
  simp only [Bool.and_eq_true] at hi
  obtain ⟨hi1, hi2, hi4⟩ := hi
  obtain ⟨ok1, ok2, ok3, ok4, ok5⟩ := zhok_of hi1
  have hf := hX.2.2.2.2.2.2.2.2.2.2.2
  have hvA : ∀ v ∈ As, zrv v := fun v hq => hv v (List.mem_append_left _ (List.mem_reverse.mpr hq))
  have hvS : ∀ v ∈ S, zrv v := fun v hq => hv v (List.mem_append_right _ hq)
  have hM := hC hvA hS.1 hX.2.2.2.2.2.2.1 hf
  have hRm := hX.2.2.2.2.2.2.2.2.1
  have gd : ∀ {w : Jvm.Cond}, w ∈ lw_tbl → goodWord w = true → w ∈ lw_tblg ∧ ((w.onTables && w.keeps) = true ∨ ∃ ty, w = .arrayClass ty) := fun h1 h2 => ⟨List.mem_filter.mpr ⟨h1, h2⟩, good_of_word h2⟩
  have hU : ∀ U : State, U.heap = H → s.WarmedH U.vm → va_Pc (As.map (zup E)) (fun U => zU E h U) (As.map (zup E)).toArray U := fun U hU hW => ⟨rfl, zU_of hX.2.2.2.2.2.1 hX.2.2.2.2.2.2.2.2.2.2.1 hS hU hW⟩
  have hini : Jvm.Cond.initialized (zny M').cls ∈ lw_tbl := by
    have h9 := zw_ini hi4
    rw [← ok1] at h9
    exact h9
  have hnp : (zhj M'.1).2.2.2.2.2.2 = As.length := by show (zhd M').2.2.2.2.2.2 = _; rw [hn]
  rw [List.map_append, List.map_reverse]
  rcases (Bool.or_eq_true _ _).mp hmp with hmp | hmp
  · have hg : GoodIn lw_tblg (va_wsS (zcl M) ix (zny M') (zws M')) := by
      intro w hw2
      unfold va_wsS zws at hw2
      simp only [List.cons_append, List.nil_append, List.mem_cons] at hw2
      rcases hw2 with rfl | rfl | rfl | rfl | h1
      · exact gd (zw_link hmp) rfl
      · exact gd (zw_stat hi2) rfl
      · exact gd hini rfl
      · exact gd (zw_code hi1) rfl
      · exact ⟨h1, good_of_word (lw_tblg_in _ h1).2⟩
    have cw := va_cwS (R := R) (s := s) (args := args) (own := zcl M) (index := ix) (y := zny M') (bytes := zby M') (maxL := zml M') (ret := zrt M') (ws := zws M') (ws' := lw_tblg) (rm := zrm d') (mc := 0) (ms := 0) As.length hX.2.2.2.2.1 hg rfl rfl rfl ⟨ok2, ok3, by rw [← hnp]; exact ok4⟩ ⟨by show d' + 1 ≤ R.frames; omega, by show 8 + ((zhj M'.1).2.2.2.1 + 11) + 40 * d' ≤ R.locals; omega⟩
    exact zbehind hX hE hS hL hvS hpc (va_runS (As := As.map (zup E)) (rest := S.map (zup E)) ⟨hX.1, hX.2.1, hX.2.2.1, hX.2.2.2.1, hX.2.2.2.2.1⟩ hM cw ⟨zblind _ _, hU⟩ rfl (by rw [List.length_map]) (by obtain ⟨-, -, lv, hh, -⟩ := hL; exact hh.1) rfl (lv_room (by rw [zcat_up hf]; exact of_decide_eq_true hst)) hdg hX.2.2.2.2.2.2.2.2.2.1) kk
  · have hg : GoodIn lw_tblg (zws M') := by
      intro w hw2
      rcases List.mem_cons.mp hw2 with rfl | h1
      · exact gd (zw_code hi1) rfl
      · exact ⟨h1, good_of_word (lw_tblg_in _ h1).2⟩
    have cw := va_cnB (R := R) (s := s) (args := args) (own := zcl M) (host := "OxenHome") (index := ix) (y := zny M') (bytes := zby M') (maxL := zml M') (ret := zrt M') (ws := zws M') (ws' := lw_tblg) (rm := zrm d') (mc := 0) (ms := 0) As.length hX.2.2.2.2.1 hg rfl rfl rfl (hX.2.2.2.2.2.2.2.2.2.2.1.2.2.2.2.2.2.2.2 _ (zw_nest hmp) rfl) (hX.2.2.2.2.1 _ (List.mem_filter.mpr ⟨hini, rfl⟩)) ⟨ok2, ok3, by rw [← hnp]; exact ok4⟩ ⟨by show d' + 1 ≤ R.frames; omega, by show 8 + ((zhj M'.1).2.2.2.1 + 11) + 40 * d' ≤ R.locals; omega⟩
    exact zbehind hX hE hS hL hvS hpc (va_runSN (As := As.map (zup E)) (rest := S.map (zup E)) ⟨hX.1, hX.2.1, hX.2.2.1, hX.2.2.2.1, hX.2.2.2.2.1⟩ hM ⟨cw, hX.2.2.2.2.1 _ (List.mem_filter.mpr ⟨zw_stat hi2, rfl⟩), trivial⟩ ⟨zblind _ _, hU⟩ rfl (by rw [List.length_map]) (by obtain ⟨-, -, lv, hh, -⟩ := hL; exact hh.1) rfl (lv_room (by rw [zcat_up hf]; exact of_decide_eq_true hst)) hdg hX.2.2.2.2.2.2.2.2.2.1) kk
end ZC
