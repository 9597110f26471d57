/-! the world at the start -/
theorem zh0_f {id j ci : Nat} {fs : List zGf} (hg : zg2[id]? = some (.inl (ci, fs))) : zh0 id j = (match fs[j]? with
    | some (some (.inl a)) => a
    | some (some (.inr (.inl a))) => a
    | _ => 0) := by
  unfold zh0
  rw [hg]
  rfl
theorem zh0_a {id j kd n : Nat} {w : List (Nat × Int)} (hg : zg2[id]? = some (.inr (kd, n, w))) : zh0 id j = zgl w j := by
  unfold zh0
  rw [hg]
theorem zgw_wl (E : zE) : zgwl E zg2 = zwl E zh0 := by
  obtain ⟨hl, hz⟩ := zg_fit
  apply List.ext_getElem?
  intro id
  unfold zgwl zwl
  rw [List.getElem?_mapIdx, List.getElem?_mapIdx]
  cases hg : zg2[id]? with
  | none =>
    have : zO[id]? = none := by rw [List.getElem?_eq_none_iff, ← hl]; exact List.getElem?_eq_none_iff.mp hg
    rw [this]
    rfl
  | some c =>
    have hi := (List.getElem?_eq_some_iff.mp hg).1
    cases hO : zO[id]? with
    | none => exact absurd (List.getElem?_eq_none_iff.mp hO) (by omega)
    | some dd =>
      have hm : (dd, c) ∈ List.zip zO zg2 := by
        apply List.mem_of_getElem? (i := id)
        rw [List.getElem?_zip_eq_some]
        exact ⟨hO, hg⟩
      have hk := List.all_eq_true.mp hz _ hm
      show some (zad E id, zgcl E c) = some (zad E id, zce E zh0 id dd)
      congr 2
      match dd, c, hg, hk with
      | .inl (ci, ks), .inl (c2, fs), hg, hk =>
        have hk : (ci == c2 && (ks.length == fs.length && (List.zip ks fs).all (fun q => zgfk q.1 q.2))) = true := hk
        simp only [Bool.and_eq_true, beq_iff_eq] at hk
        obtain ⟨k1, k2, k3⟩ := hk
        show Sum.inr (c2, fs.map (zgvl E)) = Sum.inr (ci, ks.mapIdx (fun k kd => zfv E zh0 id k kd))
        rw [k1]
        congr 2
        apply List.ext_getElem?
        intro j
        rw [List.getElem?_map, List.getElem?_mapIdx]
        cases hf : fs[j]? with
        | none =>
          have : ks[j]? = none := by rw [List.getElem?_eq_none_iff, k2]; exact List.getElem?_eq_none_iff.mp hf
          rw [this]
          rfl
        | some f =>
          have hj := (List.getElem?_eq_some_iff.mp hf).1
          cases hks : ks[j]? with
          | none => exact absurd (List.getElem?_eq_none_iff.mp hks) (by omega)
          | some kd =>
            have hm2 : (kd, f) ∈ List.zip ks fs := by
              apply List.mem_of_getElem? (i := j)
              rw [List.getElem?_zip_eq_some]
              exact ⟨hks, hf⟩
            have h3 := List.all_eq_true.mp k3 _ hm2
            have h4 := zh0_f (j := j) hg
            rw [hf] at h4
            show some (zgvl E f) = some (zfv E zh0 id j kd)
            congr 1
            unfold zfv
            rw [h4]
            match kd, f, h3 with
            | 0, some (.inl a), _ => rfl
            | 1, some (.inr (.inl a)), _ => rfl
            | 2, some (.inl a), _ => rfl
            | r + 3, some (.inr (.inr t)), h3 =>
              have e : r = t := beq_iff_eq.mp (show (r == t) = true from h3)
              have ht : t < 1005 := by
                have h9 : zO.all (fun q => match q with | .inl q => q.2.all (fun kd => decide (kd < 1000)) | .inr _ => true) = true := by decide +kernel
                have h8 := List.all_eq_true.mp h9 _ (List.mem_of_getElem? hO)
                have h7 : ks.all (fun kd => decide (kd < 1000)) = true := h8
                have h6 := of_decide_eq_true (List.all_eq_true.mp h7 _ (List.mem_of_getElem? hks))
                omega
              rw [if_neg (by omega), if_neg (by omega)]
              show zup E (.inr (.inr t)) = _
              rw [zrf_r ht, e, Nat.add_sub_cancel]
      | .inr (kd, n), .inr (kd2, n2, w), hg, hk =>
        have hk : (kd == kd2 && n == n2) = true := hk
        simp only [Bool.and_eq_true, beq_iff_eq] at hk
        obtain ⟨k1, k2⟩ := hk
        have h4 : ∀ j, zh0 id j = zgl w j := fun j => zh0_a hg
        unfold zgcl zce
        simp only [h4, k1, k2]
