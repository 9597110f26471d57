/-! the constructors' interpreter is sound -/
set_option maxHeartbeats 4000000 in
theorem zgo_W {l : Launch} {E : zE} (hf : (zfm E).category = 1) : ∀ (n d : Nat) (M : zMeth) (k : Nat) (L S : List zV) (g : List zGc) (mc ms : Nat) (g1 : List zGc) (mc1 ms1 : Nat), zgo n d M k L S g mc ms = some (g1, mc1, ms1) → M ∈ zGm → g1.length ≤ 1000 → zgW l E d M k L S g mc ms g1 mc1 ms1 := by
  intro n
  induction n with
  | zero => intro d M k L S g mc ms g1 mc1 ms1 h; rw [zgo] at h; cases h
  | succ n ih =>
    intro d M k L S g mc ms g1 mc1 ms1 h hM hl
    have hlen := zgo_len _ _ _ _ _ _ _ _ _ _ _ _ h
    rw [zgo.eq_def] at h
    dsimp only at h
    obtain ⟨⟨o, a, ix⟩, ho⟩ : ∃ o, zop M k = o := ⟨_, rfl⟩
    rw [ho] at h
    dsimp only at h
    split at h
    · exact v_const hM ho (ih _ _ _ _ _ _ _ _ _ _ _ h hM hl)
    · split at h
      · rename_i hq
        exact v_iload hM ho hq (ih _ _ _ _ _ _ _ _ _ _ _ h hM hl)
      · cases h
    · split at h
      · rename_i hq
        exact v_istore hf hM ho hq (ih _ _ _ _ _ _ _ _ _ _ _ h hM hl)
      · cases h
    · split at h
      · rename_i hq
        split at h
        · rename_i hr
          exact v_aload (by omega) hM ho hq hr (ih _ _ _ _ _ _ _ _ _ _ _ h hM hl)
        · cases h
      · cases h
    · split at h
      · rename_i hq
        exact v_astore hf (by omega) hM ho hq.1 hq.2 (ih _ _ _ _ _ _ _ _ _ _ _ h hM hl)
      · cases h
    · split at h
      · rename_i hq
        exact v_iinc hf hM ho hq (ih _ _ _ _ _ _ _ _ _ _ _ h hM hl)
      · cases h
    · split at h
      · rename_i hq
        exact v_dup (by omega) hM ho hq (ih _ _ _ _ _ _ _ _ _ _ _ h hM hl)
      · cases h
    · exact v_icmp hM ho (ih _ _ _ _ _ _ _ _ _ _ _ h hM hl)
    · exact v_if hM ho (ih _ _ _ _ _ _ _ _ _ _ _ h hM hl)
    · exact v_goto hM ho (ih _ _ _ _ _ _ _ _ _ _ _ h hM hl)
    · split at h
      · rename_i h1
        split at h
        · rename_i h2
          split at h
          · rename_i hq
            rw [hq.1] at h1
            exact v_get (by omega) hM ho h1 h2 hq.2 (ih _ _ _ _ _ _ _ _ _ _ _ h hM hl)
          · cases h
        · cases h
      · cases h
    · split at h
      · rename_i h1
        split at h
        · rename_i hq
          rw [hq.1] at h1 h
          exact v_put (by omega) hM ho h1 hq.2.1 hq.2.2 (ih _ _ _ _ _ _ _ _ _ _ _ h hM hl)
        · cases h
      · cases h
    · split at h
      · rename_i h1
        split at h
        · rename_i hq
          rw [hq.1] at h1
          exact v_iald (by omega) hM ho h1 hq.2.1 hq.2.2 (ih _ _ _ _ _ _ _ _ _ _ _ h hM hl)
        · cases h
      · cases h
    · split at h
      · rename_i h1
        split at h
        · rename_i hq
          rw [hq.1] at h1 h
          exact v_iast (by omega) hM ho h1 hq.2.1 hq.2.2 (ih _ _ _ _ _ _ _ _ _ _ _ h hM hl)
        · cases h
      · cases h
    · split at h
      · rename_i h1
        exact v_alen (by omega) hM ho h1 (ih _ _ _ _ _ _ _ _ _ _ _ h hM hl)
      · cases h
    · cases h
      exact v_ret hM ho
    · split at h
      · rename_i hks
        split at h
        · rename_i hw
          have h2 := zgo_len _ _ _ _ _ _ _ _ _ _ _ _ h
          rw [List.length_append] at h2
          exact v_new (by simp only [List.length_cons, List.length_nil] at h2; omega) hM ho hks hw (zgo_mono _ _ _ _ _ _ _ _ _ _ _ _ h) (ih _ _ _ _ _ _ _ _ _ _ _ h hM hl)
        · cases h
      · cases h
    · split at h
      · rename_i hq
        exact v_obj hf (by omega) hM ho hq.1 hq.2.1 hq.2.2 (ih _ _ _ _ _ _ _ _ _ _ _ h hM hl)
      · cases h
    · split at h
      · rename_i hq
        have h2 := zgo_len _ _ _ _ _ _ _ _ _ _ _ _ h
        rw [List.length_append] at h2
        exact v_newa (by simp only [List.length_cons, List.length_nil] at h2; omega) hM ho hq.1 hq.2.1 hq.2.2 (zgo_mono _ _ _ _ _ _ _ _ _ _ _ _ h) (ih _ _ _ _ _ _ _ _ _ _ _ h hM hl)
      · cases h
    · split at h
      · rename_i hcc
        obtain ⟨cc, hc2⟩ : ∃ cc, cc = (zop M k).1 := ⟨_, rfl⟩
        rw [ho] at hc2
        dsimp only at hc2
        subst hc2
        split at h
        · rename_i d' M' hfd
          generalize hna : (zhd M').2.2.2.2.2.2 + (if cc = 50 then 0 else 1) = na at h
          split at h
          · rename_i hq
            split at h
            · rename_i hcall
              have hM' := List.mem_of_find?_eq_some hfd
              have hix0 : (M'.1 == zg ix 1) = true := List.find?_some (p := fun q : zMeth => q.1 == zg ix 1) hfd
              have hix := beq_iff_eq.mp hix0
              have h2 := zgo_len _ _ _ _ _ _ _ _ _ _ _ _ h
              exact v_call hf (by omega) hM hM' hcc ho hix.symm hna.symm hq.1 hq.2.1 hq.2.2.1 hq.2.2.2 (ih _ _ _ _ _ _ _ _ _ _ _ hcall hM' (by omega)) (zgo_len _ _ _ _ _ _ _ _ _ _ _ _ hcall) (zgo_mono _ _ _ _ _ _ _ _ _ _ _ _ h) (ih _ _ _ _ _ _ _ _ _ _ _ h hM hl)
            · cases h
          · cases h
        · cases h
      · cases h
