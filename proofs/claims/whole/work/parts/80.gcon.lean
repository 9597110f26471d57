/-! a constructor's contract, from the interpreter -/
theorem zgC2_of {l : Launch} {E : zE} {d : Nat} {M : zMeth} {As : List zV} {as : List Nat} {g g1 : List zGc} {mc ms : Nat} (hf : (zfm E).category = 1) (hM : M ∈ zGm) (hpl : plainName (zny M).cls = true) (hh : (zHd[M.1]?).isSome = true) (h0 : zpc M 0 = 0) (hn : (zlf As).length ≤ zml M) (hrt : zrt M = none) (hAs : zgS g As) (hW : zgW l E d M 0 (zla (zml M) As) [] g 0 0 g1 mc ms) : zgC2 l E d M As as g g1 mc ms := by
  obtain ⟨hd, hhd⟩ := Option.isSome_iff_exists.mp hh
  have ehd := zhd_some hhd
  have hok := List.all_eq_true.mp zHd_ok _ (List.mem_of_getElem? hhd)
  unfold zhok at hok
  simp only [Bool.and_eq_true, decide_eq_true_eq] at hok
  refine Met.ofW (cc := zby M) (maxL := zml M) (ret := zrt M) hpl rfl ?_
  intro p e s m args below meth c s₁ B hml hv
  obtain ⟨rfl, ⟨hP1, hP2, hP3⟩, hK, hAA⟩ := hv
  have hr := B.returns
  have hts := atoms_spec (ws := zws M) B.pre
  have hown : s.vm.findClass (zny M).cls = some m.cls := findClass_of_methodNamed B.named
  have hlocks := B.notSynchronized
  have hname : meth.name = (zny M).name := (name_of_methodNamed B.named B.method).1
  have hcl : (zny M).cls = zcl M := by show (zhd M).2.1.cls = zcn (zhd M).1; rw [ehd]; exact hok.1
  rw [hcl] at hown
  rw [lg_entry_eq]
  have hlen := zlf_sl (E := zEa E as) hf As
  have hl := lv_entry (As.map (zup (zEa E as))) (n := zml M) (by rw [hlen]; exact hn)
  have hX : zgX E d M p (zgrm d mc ms) s m (As.map (zup (zEa E as))).toArray meth c := ⟨B.exec, B.bytes, hml, hown, fun w hw => hts w (List.mem_cons_of_mem _ hw), hK, hAA, ⟨Nat.le_refl _, Nat.le_refl _⟩, hname⟩
  have hL : zLs (zEa E as) (zml M) (zla (zml M) As) (lg_sl (As.map (zup (zEa E as))) ++ List.replicate (zml M - (lg_sl (As.map (zup (zEa E as)))).length) Slot.unset).toArray := by
    refine ⟨?_, ?_, _, hl, ?_⟩
    · unfold zla
      rw [List.length_append, List.length_replicate]
      omega
    · intro v hv
      rcases List.mem_append.mp hv with q | q
      · exact zlf_rv (fun v hv => (hAs v hv).2.1) v q
      · rw [(List.mem_replicate.mp q).2]; trivial
    · intro j v hj hv
      unfold zla at hj
      rcases Nat.lt_or_ge j (zlf As).length with q | q
      · rw [List.getElem?_append_left q] at hj
        have := zlf_at (E := zEa E as) hf As 0 j v hj hv
        rwa [Nat.zero_add] at this
      · rw [List.getElem?_append_right q] at hj
        exact absurd (List.mem_replicate.mp (List.mem_of_getElem? hj)).2 hv
  have hLg : ∀ v ∈ zla (zml M) As, zgs v = true := by
    intro v hv
    unfold zla at hv
    rcases List.mem_append.mp hv with q | q
    · unfold zlf at q
      obtain ⟨w, hw, hq⟩ := List.mem_flatMap.mp q
      have h1 := (hAs w hw).1
      match w, h1, hq with
      | .inl a, _, hq => rw [List.mem_singleton.mp hq]; rfl
      | .inr (.inr r), _, hq => rw [List.mem_singleton.mp hq]; rfl
    · rw [(List.mem_replicate.mp q).2]; rfl
  have hE : zgEnd E M p l e (zgrm d mc ms) s m (As.map (zup (zEa E as))).toArray below meth c (0 + mc) (0 + ms) (MQ below (zgQ2 E as g1) (As.map (zup (zEa E as))).toArray s mc ms (zA E)) as g1 := by
    intro t H' locs' pc ls' hJ hdg
    rw [Nat.zero_add, Nat.zero_add]
    rw [hrt] at hr
    exact W.vret B.exec B.bytes hr (fun u hu _ => ⟨⟨rfl, t, hJ.1, by rw [hu]; exact hJ.2.1, hJ.2.2.1⟩, hJ.2.2.2.F hu⟩) hJ.2.2.2.2.2 hdg hlocks
  have k1 := hW p e (zgrm d mc ms) s m _ below meth c s.heap [] _ 0 0 _ as hX ⟨hP1, hP2, hP3, va_S.rf⟩ hL hLg (fun v hv => by cases hv) (by show 0 + mc ≤ mc; omega) (by show 0 + ms ≤ ms; omega) hE
  rw [h0] at k1
  exact k1
