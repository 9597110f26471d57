/-! the constructors' interpreter is sound: calls -/
def zgck3 (o : zI) (M : zMeth) : Bool := match o.1 with
  | 50 => zMp.contains ((zhd M).1, zg o.2.2 0, zg o.2.2 1, false)
  | 63 => decide ((zhj (zg o.2.2 1)).2.1.name = "<init>")
  | _ => true
theorem zgc3_ok : zGm.all (fun M => (List.range M.2.length).all (fun k => zgck3 (zop M k) M)) = true := by decide +kernel
theorem zGm_f : zGm.all (fun M => plainName (zny M).cls && ((zHd[M.1]?).isSome && (zpc M 0 == 0 && decide ((zhd M).2.2.2.2.2.2 + 1 ≤ zml M + (if (zhd M).2.2.2.2.2.1 = true then 1 else 0))))) = true := by decide +kernel
theorem zgck3_at {M : zMeth} {k : Nat} (hM : M ∈ zGm) (h9 : (zop M k).1 ≠ 999) : zgck3 (zop M k) M = true :=
  List.all_eq_true.mp (List.all_eq_true.mp zgc3_ok M hM) k (List.mem_range.mpr (zop_lt h9))
theorem zlf_len {As : List zV} (h : ∀ v ∈ As, zgs v = true) : (zlf As).length = As.length := by
  induction As with
  | nil => rfl
  | cons v As ih =>
    have h1 := h v List.mem_cons_self
    have h2 := ih (fun w hw => h w (List.mem_cons_of_mem _ hw))
    unfold zlf at h2 ⊢
    rw [List.flatMap_cons, List.length_append, h2]
    match v, h1 with
    | .inl a, _ => show 1 + _ = _ + 1; omega
    | .inr (.inr r), _ => show 1 + _ = _ + 1; omega
section ZGW
variable {l : Launch} {E : zE} {d : Nat} {M : zMeth} {k : Nat} {L S : List zV} {g : List zGc} {mc ms : Nat} {g1 : List zGc} {mc1 ms1 : Nat} {n : Int} {ix : List Nat}
theorem v_call {cc na d' mcc mss : Nat} {M' : zMeth} {g' : List zGc} (hf : (zfm E).category = 1) (hgl : g.length ≤ 1000) (hM : M ∈ zGm) (hM' : M' ∈ zGm) (hcc : cc = 49 ∨ cc = 50 ∨ cc = 63) (ho : zop M k = (cc, n, ix)) (hix : zg ix 1 = M'.1) (hna : na = (zhd M').2.2.2.2.2.2 + (if cc = 50 then 0 else 1)) (hw : zgw L S g = true) (hn1 : na ≤ S.length) (hn2 : S.length ≤ na + 8) (hrc : zgrc cc M' S g na = true)
    (hcall : zgW l E d' M' 0 (zla (zml M') (S.take na).reverse) [] g 0 0 g' mcc mss) (hg' : g.length ≤ g'.length) (hmo : mc + mcc ≤ mc1 ∧ ms + mss ≤ ms1) (kk : zgW l E (d' + 1) M (k + 1) L (S.drop na) g' (mc + mcc) (ms + mss) g1 mc1 ms1) : zgW l E (d' + 1) M k L S g mc ms g1 mc1 ms1 := by
  intro p e R s m args below meth c H locs ls c0 s0 QQ as hX hJ hL hLg hSg hcl hsl hE
  have hw2 := (Bool.and_eq_true _ _).mp hw
  have hal := hJ.1.1
  obtain ⟨f1, f2⟩ := hX.2.2.2.2.2.2.2.1
  have hls : ls.size = zml M := by obtain ⟨-, -, lv, hh, -⟩ := hL; exact hh.1
  unfold zgrc at hrc
  obtain ⟨hr1, hr2⟩ := (Bool.and_eq_true _ _).mp hrc
  obtain ⟨hr2, hr3⟩ := (Bool.and_eq_true _ _).mp hr2
  have hrt : zrt M' = none := Option.isNone_iff_eq_none.mp hr1
  have hst := beq_iff_eq.mp hr2
  have hff := List.all_eq_true.mp zGm_f M' hM'
  simp only [Bool.and_eq_true, decide_eq_true_eq] at hff
  obtain ⟨p1, p2, p3, p4⟩ := hff
  have hAs : zgS g (S.take na).reverse := fun v hv => hSg v (List.mem_of_mem_take (List.mem_reverse.mp hv))
  have hD : zgS g (S.drop na) := fun v hv => hSg v (List.mem_of_mem_drop hv)
  have hlA : (S.take na).reverse.length = na := by rw [List.length_reverse, List.length_take]; omega
  have hl0 : (zlf (S.take na).reverse).length ≤ zml M' := by
    rw [zlf_len (fun v hv => (hAs v hv).1), hlA, hna]
    rw [hst] at p4
    by_cases q : cc = 50
    · rw [if_pos q]
      rw [if_pos (by rw [q]; rfl)] at p4
      omega
    · rw [if_neg q]
      rw [if_neg (by rw [beq_iff_eq]; exact q)] at p4
      omega
  have hC := zgC2_of (as := as) hf hM' p1 p2 (beq_iff_eq.mp p3) hl0 hrt hAs hcall
  have hS8 : (((S.drop na).map (zup (zEa E as))).map (fun v => v.category)).sum ≤ 8 := by
    rw [zcat_s (E := zEa E as) hf (fun v hv => (hD v hv).1), List.length_drop]
    omega
  have cont : ∀ (t' : List Nat) (H1 : Heap) (locs1 : List Loc), zgJ E (as ++ t') g' s H1 locs1 → W p l e R s m args below meth c H1 locs1 (c0 + mc + mcc) (s0 + ms + mss) QQ (F0 m (zpc M (k + 1)) ls ((S.drop na).map (zup (zEa E as)))) := by
    intro t' H1 locs1 hJ1
    have k1 := kk p e R s m args below meth c H1 locs1 ls c0 s0 QQ (as ++ t') hX hJ1 (zLs_a hL (by rw [hal]; exact hw2.1)) hLg (zgS_l hD hg') hcl hsl (zgEnd_a hE)
    rw [zmap_a (fun v hv => by rw [hal]; exact (hD v hv).2.2)] at k1
    rw [Nat.add_assoc, Nat.add_assoc]
    exact k1
  have hSs : S.map (zup (zEa E as)) = (((S.take na).reverse).map (zup (zEa E as))).reverse ++ (S.drop na).map (zup (zEa E as)) := by
    rw [List.map_reverse, List.reverse_reverse, ← List.map_append, List.take_append_drop]
  rw [hSs]
  have hz := zgM_ok M hM
  by_cases q50 : cc = 50
  · subst q50
    have h3 := zgck3_at hM (k := k) (by rw [ho]; exact (by decide : (50 : Nat) ≠ 999))
    rw [ho] at h3
    have h3 : zMp.contains ((zhd M).1, zg ix 0, zg ix 1, false) = true := h3
    rw [hix] at h3
    rw [if_pos rfl, Nat.add_zero] at hna
    exact g_ivs hX.1 hX.2.1 hz.1 hX.2.2.1 hX.2.2.2.1 hX.2.2.2.2.1 hX.2.2.2.2.2.1 hX.2.2.2.2.2.2.1 hJ hls hC (by rw [hlA]; exact hna.symm) hrt (by omega) (by omega) (by omega) (by omega) hS8 ho hix h3 cont
  · rw [if_neg q50] at hna
    have hb : (cc == 50) = false := by rw [beq_eq_false_iff_ne]; exact q50
    rw [hb, Bool.false_or] at hr3
    obtain ⟨j, hj⟩ : ∃ j, na = j + 1 := ⟨_, hna⟩
    rw [hj, Nat.add_sub_cancel] at hr3
    cases hSj : S[j]? with
    | none => rw [hSj] at hr3; cases hr3
    | some v =>
      rw [hSj] at hr3
      match v, hSj, hr3 with
      | .inr (.inr r), hSj, hr3 =>
        cases hgr : g[r]? with
        | none => simp only [hgr] at hr3; cases hr3
        | some ce =>
          simp only [hgr] at hr3
          match ce, hgr, hr3 with
          | .inl (ci, fs), hgr, hr3 =>
            have hci : ci = (zhd M').1 := beq_iff_eq.mp hr3
            rw [hci] at hgr
            have hrl := (List.getElem?_eq_some_iff.mp hgr).1
            have hta : (S.take na).reverse = .inr (.inr r) :: (S.take j).reverse := by
              rw [hj, List.take_succ, hSj, List.reverse_append]
              rfl
            have hlj : (S.take j).reverse.length = j := by rw [List.length_reverse, List.length_take]; omega
            rw [hta] at hC ⊢
            have hmap : ((.inr (.inr r) :: (S.take j).reverse : List zV).map (zup (zEa E as))).reverse ++ (S.drop na).map (zup (zEa E as)) = (((S.take j).reverse).map (zup (zEa E as))).reverse ++ .ref (zad (zEa E as) r) :: (S.drop na).map (zup (zEa E as)) := by
              rw [List.map_cons, List.reverse_cons, List.append_assoc, zrf_r (by omega)]
              rfl
            rw [hmap]
            rcases hcc with q | q | q
            · subst q
              exact g_inv hX.1 hX.2.1 hz.1 hX.2.2.1 hX.2.2.2.1 hX.2.2.2.2.1 hX.2.2.2.2.2.1 hX.2.2.2.2.2.2.1 hJ hls hC (by rw [hlj]; omega) hrt (by omega) (by omega) (by omega) (by omega) hS8 (by omega) hgr ho hix cont
            · exact absurd q q50
            · subst q
              have h3 := zgck3_at hM (k := k) (by rw [ho]; exact (by decide : (63 : Nat) ≠ 999))
              rw [ho] at h3
              have h3 : decide ((zhj (zg ix 1)).2.1.name = "<init>") = true := h3
              rw [hix] at h3
              exact g_ivi hX.1 hX.2.1 hz.1 hX.2.2.1 hX.2.2.2.1 hX.2.2.2.2.1 hX.2.2.2.2.2.1 hX.2.2.2.2.2.2.1 hJ hls hC (by rw [hlj]; omega) hrt (by omega) (by omega) (by omega) (by omega) hS8 (by omega) (zgck_at hM (by rw [ho]; exact (by decide : (63 : Nat) ≠ 999))).1 ho hix (of_decide_eq_true h3) cont
end ZGW
