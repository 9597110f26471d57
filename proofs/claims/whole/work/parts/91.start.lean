/-! the law's start -/
theorem zgR_nil : zgR [] := ⟨fun _ h => (by cases h), fun _ h => (by cases h)⟩
theorem zgJ_nil {E : zE} {s : State} : zgJ E [] [] s s.heap [] := ⟨⟨rfl, zgR_nil⟩, fun k q h => (by cases h), ⟨fun i j p q h => (by cases h), fun k q h => (by cases h)⟩, va_S.rf⟩
theorem zgnew_11 : zgnew 11 = .inl (11, ((zGn[11]?).getD []).map zgz) := rfl
set_option maxHeartbeats 4000000 in
set_option maxRecDepth 100000 in
theorem whole_start {p : Program} {e : Env} {s : State} {m : MethodId} {below : List Frame} {meth : Method} {c : Code} (l : Launch) (hflags : l.flags = flags0) {b L : Nat} {xs : Nat → Int32} (hL : L ≤ 3584) (C0 : lw_At p s m meth c b L xs) : W p l e room_1 s m #[Value.ref b] below meth c s.heap [] 0 0 (lw_Z below #[Value.ref b] s) (entryFrame m ([Value.ref b] : List Value).toArray 4) := by
  obtain ⟨hx, hb, hr, hml, hown, hts, hX, hbl, hlocks, hgv⟩ := id C0
  have hA0 : ∀ a : Nat, a < s.heap.size → ¬ (fun q : Nat => s.heap.size ≤ q) a := fun a h => Nat.not_le.mpr h
  obtain ⟨adK, adV, hSS, hev⟩ := zst_S hgv hA0
  obtain ⟨fm, hfm, hF⟩ := zst_F hgv hts hA0
  have hC := zst_C hgv hts hA0
  obtain ⟨hR0, hR1⟩ := zst_R hts (hev 0 (by decide)) (hev 1 (by decide))
  obtain ⟨D, cI, cJ, cZ, hK⟩ := zst_K hts
  have hs := zst_str (xs := xs) (D := D) (cI := cI) (cJ := cJ) (cZ := cZ) hts hX hbl hSS hR0 hR1 hC hF
  have hz := fun a => zst_z (s := s) (b := b) (L := L) (xs := xs) (D := D) (cI := cI) (cJ := cJ) (cZ := cZ) (adK := adK) (adV := adV) (fm := fm) a
  have e1 : zgD (zstE s b L xs D cI cJ cZ adK adV fm) = D := rfl
  have e2 : ztys (zstE s b L xs D cI cJ cZ adK adV fm) = [(cI, .int), (cJ, .long), (cZ, .boolean)] := rfl
  have e3 : zA (zstE s b L xs D cI cJ cZ adK adV fm) = fun q : Nat => s.heap.size ≤ q := rfl
  have e4 : (zfm (zstE s b L xs D cI cJ cZ adK adV fm)).category = 1 := hfm
  have e5 : (zsc (zstE s b L xs D cI cJ cZ adK adV fm)).1 = L := rfl
  have e6 : zad (zstE s b L xs D cI cJ cZ adK adV fm) 1000 = b := rfl
  rw [← e1, ← e2] at hK
  generalize zstE s b L xs D cI cJ cZ adK adV fm = E at hs hz e3 e4 e5 e6 hK
  have hA : ∀ q : Nat, s.heap.size ≤ q → zA E q := fun q h => by rw [e3]; exact h
  have hw : ∀ w ∈ lw_tblg, w.before #[Value.ref b] s = true := fun w hw => hts w (lw_tblg_in w hw).1
  have hbz : c.code = zby zm_Ls := hb
  have hmlz : c.maxLocals = zml zm_Ls := hml
  have hownz : s.vm.findClass (zcl zm_Ls) = some m.cls := hown
  have hl := lv_entry ([.ref b]) (n := 4) (Nat.le_of_ble_eq_true rfl)
  rw [lg_entry_eq]
  generalize (lg_sl ([.ref b]) ++ List.replicate (4 - (lg_sl ([.ref b])).length) Slot.unset).toArray = ls at hl ⊢
  have hl : lv_has ls 4 [(0, .ref b)] := hl
  refine g_new (M := zm_Ls) (k := 0) (E := E) (as := []) (g := []) hx hbz zk_Ls hw hownz hK hA zgJ_nil rfl (zgk_at (by decide)) rfl (ks := (zGn[11]?).getD []) rfl (Nat.le_of_ble_eq_true rfl) (Nat.le_of_ble_eq_true rfl) (fun q0 H1 hJ1 => ?_)
  refine g_dup (M := zm_Ls) (k := 1) hx hbz zk_Ls rfl ?_
  refine g_ivi (M := zm_Ls) (k := 2) (M' := zm_Ox_init) (r := 0) (As := []) (S := [.ref q0]) (as := [q0]) (g := [zgnew 11]) hx hbz zk_Ls hmlz hownz hw hK hA hJ1 hl.1 (c_ox e4 [q0]) rfl rfl (Nat.le_of_ble_eq_true rfl) (Nat.le_of_ble_eq_true rfl) (Nat.le_of_ble_eq_true rfl) (Nat.le_of_ble_eq_true rfl) (Nat.le_of_ble_eq_true rfl) (by decide) (zgk_at (by decide)) rfl rfl rfl (fun t1 H2 locs2 hJ2 => ?_)
  refine g_astore (M := zm_Ls) (k := 3) hx hbz zk_Ls rfl hl (by decide) (fun ls hl => ?_)
  have hl : lv_has ls 4 [(1, .ref q0), (0, .ref b)] := hl
  refine g_new (M := zm_Ls) (k := 4) (E := E) hx hbz zk_Ls hw hownz hK hA hJ2 (zgall_of hJ2.1.2) (zgk_at (by decide)) rfl (ks := (zGn[12]?).getD []) rfl (Nat.le_of_ble_eq_true rfl) (Nat.le_of_ble_eq_true rfl) (fun q1 H3 hJ3 => ?_)
  have hlen : ([q0] ++ t1).length = 85 := by rw [hJ2.1.1]; exact zg1_len
  have h85 : zad (zEa E ([q0] ++ t1 ++ [q1])) 85 = q1 := by
    show (([q0] ++ t1 ++ [q1])[85]?).getD _ = q1
    rw [List.getElem?_append_right (by omega), hlen]
    rfl
  refine g_dup (M := zm_Ls) (k := 5) hx hbz zk_Ls rfl ?_
  have key := g_ivi (p := p) (l := l) (e := e) (R := room_1) (args := #[Value.ref b]) (below := below) (meth := meth) (c := c) (m := m) (locs := locs2) (cells := 0 + 1 + 84 + 1) (slots := 0 + ((zGn[11]?).getD []).length + 7387 + ((zGn[12]?).getD []).length) (QQ := lw_Z below #[Value.ref b] s) (ls := ls) (M := zm_Ls) (k := 6) (M' := zm_Mo_init) (r := 85) (As := []) (S := [.ref q1]) (as := [q0] ++ t1 ++ [q1]) (g := zg1 ++ [zgnew 12]) hx hbz zk_Ls hmlz hownz hw hK hA hJ3 hl.1 (c_mo e4 _) rfl rfl (Nat.le_of_ble_eq_true rfl) (Nat.le_of_ble_eq_true rfl) (Nat.le_of_ble_eq_true rfl) (Nat.le_of_ble_eq_true rfl) (Nat.le_of_ble_eq_true rfl) (by decide) (zgk_at (by decide)) rfl rfl rfl (fun t2 H4 locs4 hJ4 => ?_)
  · rw [h85] at key
    exact key
  refine g_astore (M := zm_Ls) (k := 7) hx hbz zk_Ls rfl hl (by decide) (fun ls hl => ?_)
  have hl : lv_has ls 4 [(2, .ref q1), (1, .ref q0), (0, .ref b)] := hl
  refine g_const (M := zm_Ls) (k := 8) hx hbz zk_Ls hownz hw rfl (fun _ => ?_)
  refine g_istore (M := zm_Ls) (k := 9) hx hbz zk_Ls rfl hl (by decide) (fun ls hl => ?_)
  have hl : lv_has ls 4 [(3, .int 0), (2, .ref q1), (1, .ref q0), (0, .ref b)] := hl
  refine zst_loop (as := [q0] ++ t1 ++ [q1] ++ t2) hL C0 e5 hz (fun q h => by rw [e3] at h; exact h) e4 hK hs e6 hJ4 rfl ?_ hl (Nat.le_of_ble_eq_true rfl) (Nat.le_of_ble_eq_true rfl)
  rw [zad_a (by rw [List.length_append, hlen]; exact Nat.lt_succ_self _)]
  exact h85
