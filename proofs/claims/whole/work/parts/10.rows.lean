/-! Row: copies; the String constants -/
def rcopy (h : zHp) (a n b m : Nat) : zHp := fun o j => if o = a ∧ j < n ∧ j < m then h b j else h o j
def rpartN (h : zHp) (a n b m : Nat) (to fr : Int) : Nat → zHp
  | 0 => h
  | k + 1 => rput (rpartN h a n b m to fr k) a n (w32 (to + k)) (rget (rpartN h a n b m to fr k) b m (w32 (fr + k)))
def rpart (h : zHp) (a n b m : Nat) (to fr count : Int) : zHp := rpartN h a n b m to fr count.toNat
def rcopyK (h : zHp) (a b k : Nat) : zHp := fun o j => if o = a ∧ j < k then h b j else h o j
section ZRow2
variable {l : Launch} {E : zE} {h : zHp}
theorem zl_Row_copyFrom {r a n r2 b m : Nat} (hr : zO[r]? = some (.inl (6, [3 + a]))) (ha : zO[a]? = some (.inr (0, n))) (hr2 : zO[r2]? = some (.inl (6, [3 + b]))) (hb : zO[b]? = some (.inr (0, m))) (hab : a ≠ b) (hn : n < 100000) {d : Nat} {Q : Int → zHp → Prop} (K : zW l E d zm_Row_copyFrom 22 [.inr (.inr r), .inr (.inr r2), zJk] [] (rcopy h a n b m) Q) :
    ∀ (f k : Nat), k ≤ n → k ≤ m → n - k < f → zW l E d zm_Row_copyFrom 2 [.inr (.inr r), .inr (.inr r2), .inl k] [] (rcopyK h a b k) Q := by
  have hrl := zO_lt hr
  have hal := zO_lt ha
  have hrl2 := zO_lt hr2
  have hbl := zO_lt hb
  intro f
  induction f with
  | zero => intro k h1 h2 h3; omega
  | succ f ih =>
    intro k h1 h2 h3
    have fin : (n ≤ k ∨ m ≤ k) → zW l E d zm_Row_copyFrom 22 [.inr (.inr r), .inr (.inr r2), .inl k] [] (rcopyK h a b k) Q := by
      intro q
      refine zsubL (L' := [.inr (.inr r), .inr (.inr r2), zJk]) ⟨Or.inl rfl, Or.inl rfl, Or.inr rfl, trivial⟩ ?_
      have e : rcopyK h a b k = rcopy h a n b m := by
        funext o j
        unfold rcopyK rcopy
        by_cases q1 : o = a
        · by_cases q2 : j < k
          · rw [if_pos ⟨q1, q2⟩, if_pos ⟨q1, by omega, by omega⟩]
          · rw [if_neg (fun z => q2 z.2), if_neg (fun z => by omega)]
        · rw [if_neg (fun z => q1 z.1), if_neg (fun z => q1 z.1)]
      rw [e]
      exact K
    refine z_iload rfl rfl ?_
    refine z_aload rfl rfl (by simpa using hrl) ?_
    refine z_getr rfl hr rfl (by simpa using hal) ?_
    refine z_alen rfl ha (by decide) ?_
    refine z_cge rfl (fun c1 => ?_) (fun c1 => ?_)
    · exact fin (Or.inl (by omega))
    · refine z_iload rfl rfl ?_
      refine z_aload rfl rfl (by simpa using hrl2) ?_
      refine z_getr rfl hr2 rfl (by simpa using hbl) ?_
      refine z_alen rfl hb (by decide) ?_
      refine z_cge rfl (fun c2 => ?_) (fun c2 => ?_)
      · exact fin (Or.inr (by omega))
      · refine z_aload rfl rfl (by simpa using hrl) ?_
        refine z_getr rfl hr rfl (by simpa using hal) ?_
        refine z_iload rfl rfl ?_
        refine z_aload rfl rfl (by simpa using hrl2) ?_
        refine z_getr rfl hr2 rfl (by simpa using hbl) ?_
        refine z_iload rfl rfl ?_
        refine z_iald rfl hb (by omega) (by omega) ?_
        refine z_iast rfl ha (by omega) (by omega) ?_
        refine z_iinc rfl rfl rfl ?_
        refine z_goto rfl ?_
        have e1 : w32 ((k : Int) + 1) = ((k + 1 : Nat) : Int) := by rw [w32_i ⟨by omega, by omega⟩]; omega
        have e2 : zst (rcopyK h a b k) a ((k : Int).toNat) (rcopyK h a b k b (k : Int).toNat) = rcopyK h a b (k + 1) := by
          funext o j
          unfold zst rcopyK
          by_cases q1 : o = a
          · by_cases q2 : j = k
            · subst q2
              rw [if_pos ⟨q1, by simp⟩, if_neg (fun z => hab z.1.symm), if_pos ⟨q1, by omega⟩]
              simp
            · rw [if_neg (fun z => q2 (by have := z.2; simpa using this))]
              by_cases q3 : j < k
              · rw [if_pos ⟨q1, q3⟩, if_pos ⟨q1, by omega⟩]
              · rw [if_neg (fun z => q3 z.2), if_neg (fun z => by omega)]
          · rw [if_neg (fun z => q1 z.1), if_neg (fun z => q1 z.1), if_neg (fun z => q1 z.1)]
        rw [e2]
        exact zcast (by rw [e1]; rfl) rfl (ih (k + 1) (by omega) (by omega) (by omega))
theorem zf_Row_copyFrom {r a n r2 b m : Nat} (hr : zO[r]? = some (.inl (6, [3 + a]))) (ha : zO[a]? = some (.inr (0, n))) (hr2 : zO[r2]? = some (.inl (6, [3 + b]))) (hb : zO[b]? = some (.inr (0, m))) (hab : a ≠ b ∧ n < 100000) {d : Nat} : zC l E d zm_Row_copyFrom [.inr (.inr r), .inr (.inr r2)] h (fun r0 h0 => 0 = r0 ∧ rcopy h a n b m = h0) := by
  refine zC_of zk_Row_copyFrom (by decide) rfl rfl (Nat.le_of_ble_eq_true rfl) ?_
  show zW l E d zm_Row_copyFrom 0 [.inr (.inr r), .inr (.inr r2), zJk] [] h _
  refine z_const rfl ?_
  refine z_istore rfl rfl rfl ?_
  have e : h = rcopyK h a b 0 := by funext o j; unfold rcopyK; rw [if_neg (fun z => by omega)]
  have k := zl_Row_copyFrom (l := l) (E := E) (h := h) (d := d) hr ha hr2 hb hab.1 hab.2 (Q := fun r0 h0 => 0 = r0 ∧ rcopy h a n b m = h0) (z_ret rfl rfl rfl ⟨rfl, rfl⟩) (n + 1) 0 (by omega) (by omega) (by omega)
  rw [← e] at k
  exact k
theorem zl_Row_copyPart {r a n r2 b m : Nat} (hr : zO[r]? = some (.inl (6, [3 + a]))) (ha : zO[a]? = some (.inr (0, n))) (hr2 : zO[r2]? = some (.inl (6, [3 + b]))) (hb : zO[b]? = some (.inr (0, m))) {d : Nat} (hd : 2 ≤ d) (to fr count : Int) (hc : zI32 count) {Q : Int → zHp → Prop} (K : Q 0 (rpart h a n b m to fr count)) :
    ∀ (f k : Nat), (k : Int) ≤ count ∨ k = 0 → count.toNat - k < f → zW l E d zm_Row_copyPart 2 [.inr (.inr r), .inl to, .inr (.inr r2), .inl fr, .inl count, .inl k] [] (rpartN h a n b m to fr k) Q := by
  have hrl := zO_lt hr
  have hrl2 := zO_lt hr2
  intro f
  induction f with
  | zero => intro k h1 h3; omega
  | succ f ih =>
    intro k h1 h3
    refine z_iload rfl rfl ?_
    refine z_iload rfl rfl ?_
    refine z_cge rfl (fun c1 => ?_) (fun c1 => ?_)
    · have e : k = count.toNat := by omega
      refine z_ret rfl rfl rfl ?_
      rw [e]
      exact K
    · refine z_aload rfl rfl (by simpa using hrl) ?_
      refine z_iload rfl rfl ?_
      refine z_iload rfl rfl ?_
      refine z_iadd rfl ?_
      refine z_aload rfl rfl (by simpa using hrl2) ?_
      refine z_iload rfl rfl ?_
      refine z_iload rfl rfl ?_
      refine z_iadd rfl ?_
      refine z_inv1 (d' := d - 1) (As := [.inl (w32 (fr + k))]) rfl rfl (zf_Row_get hr2 hb _) rfl hr2 rfl (by omega) rfl (fun r1 h1 hR1 hQ1 => ?_)
      obtain ⟨rfl, rfl⟩ := hQ1
      refine z_inv0 (d' := d - 1) (As := [.inl (w32 (to + k)), .inl (rget (rpartN h a n b m to fr k) b m (w32 (fr + k)))]) rfl rfl (zf_Row_put hr ha _ _) rfl hr rfl (by omega) rfl (fun r1 h1 hR1 hQ1 => ?_)
      obtain ⟨rfl, rfl⟩ := hQ1
      refine z_iinc rfl rfl rfl ?_
      refine z_goto rfl ?_
      have e1 : w32 ((k : Int) + 1) = ((k + 1 : Nat) : Int) := by rw [w32_i ⟨by omega, by have := hc.2; omega⟩]; omega
      exact zcast (by rw [e1]; rfl) rfl (ih (k + 1) (by omega) (by omega))
theorem zf_Row_copyPart {r a n r2 b m : Nat} (hr : zO[r]? = some (.inl (6, [3 + a]))) (ha : zO[a]? = some (.inr (0, n))) (hr2 : zO[r2]? = some (.inl (6, [3 + b]))) (hb : zO[b]? = some (.inr (0, m))) {d : Nat} (hd : 2 ≤ d) (to fr count : Int) : zC l E d zm_Row_copyPart [.inr (.inr r), .inl to, .inr (.inr r2), .inl fr, .inl count] h (fun r0 h0 => 0 = r0 ∧ rpart h a n b m to fr count = h0) := by
  intro hrv
  have hc : zI32 count := hrv (.inl count) (by simp)
  refine zC_of zk_Row_copyPart (by decide) rfl rfl (Nat.le_of_ble_eq_true rfl) ?_ hrv
  show zW l E d zm_Row_copyPart 0 [.inr (.inr r), .inl to, .inr (.inr r2), .inl fr, .inl count, zJk] [] h _
  refine z_const rfl ?_
  refine z_istore rfl rfl rfl ?_
  exact zl_Row_copyPart hr ha hr2 hb hd to fr count hc ⟨rfl, rfl⟩ (count.toNat + 1) 0 (Or.inr rfl) (by omega)
end ZRow2
def zchr (i : Nat) (k : Int) : Int := (((zsb[i]?).getD [])[k.toNat]?.getD 0).toInt
section ZStrings
variable {l : Launch} {E : zE} {d : Nat} {M : zMeth} {k : Nat} {L S : List zV} {h : zHp} {Q : Int → zHp → Prop}
theorem zrf_1 {i : Nat} (hi : i < 2) : zup E (.inr (.inr (1001 + i))) = .ref (zad E (1001 + i)) := by show zrf E _ = _; unfold zrf; rw [if_neg (by omega)]
theorem zrf_3 {i : Nat} (hi : i < 2) : zup E (.inr (.inr (1003 + i))) = .ref (zad E (1003 + i)) := by show zrf E _ = _; unfold zrf; rw [if_neg (by omega)]
theorem z_ldcs {i ix : Nat} (ho : zop M k = (54, 0, [ix, i])) (hdc : zdc M k 2 (.ldc ix) = true) (hcl : zcl M = "OxenHome$Reader") (hi : decide (i = 0 ∧ ix = 145 ∨ i = 1 ∧ ix = 161) = true) (kk : zW l E d M (k + 1) L (.inr (.inr (1001 + i)) :: S) h Q) : zW l E d M k L S h Q := by
  intro p e R s m args below meth c H locs ls cells slots QQ hX hE hS hL hv
  obtain ⟨hdg, hn⟩ := zdc_at hdc
  have hi := of_decide_eq_true hi
  have k1 := kk p e R s m args below meth c H locs ls cells slots QQ hX hE hS hL (zrv_k (v := .inr (.inr (1001 + i))) trivial hv)
  rw [hn, List.map_cons, zrf_1 (by omega)] at k1
  have hown := hX.2.2.2.1
  rw [hcl] at hown
  obtain ⟨-, -, -, -, r1, r2, -⟩ := hX.2.2.2.2.2.2.2.2.2.2.1
  rcases hi with ⟨rfl, rfl⟩ | ⟨rfl, rfl⟩
  · exact va_ldcS hX.1 hX.2.1 hown r1 hdg k1
  · exact va_ldcS hX.1 hX.2.1 hown r2 hdg k1
theorem z_sval {i ix : Nat} (hi : i < 2) (hdc : zdc M k 3 (.getfield ix) = true) (hw : Jvm.Cond.fieldLink (zcl M) ix "java/lang/String" "value" "[B" ∈ lw_tbl) (kk : zW l E d M (k + 1) L (.inr (.inr (1003 + i)) :: S) h Q) : zW l E d M k L (.inr (.inr (1001 + i)) :: S) h Q := by
  intro p e R s m args below meth c H locs ls cells slots QQ hX hE hS hL hv
  obtain ⟨hdg, hn⟩ := zdc_at hdc
  have k1 := kk p e R s m args below meth c H locs ls cells slots QQ hX hE hS hL (zrv_k (v := .inr (.inr (1003 + i))) trivial (zrv_c hv).2)
  rw [hn, List.map_cons, zrf_3 hi] at k1
  rw [List.map_cons, zrf_1 hi]
  obtain ⟨-, -, -, r1, -⟩ := hX.2.2.2.2.2.2.2.2.2.2.1
  exact vk_getf hX.1 hX.2.1 (r1.1 i hi).2.2.1 hS.2.2 hX.2.2.2.1 (hX.2.2.2.2.1 _ (List.mem_filter.mpr ⟨hw, rfl⟩)) (fun x hx => hx) hdg k1
theorem z_scod {i ix : Nat} (hi : i < 2) (hdc : zdc M k 3 (.getfield ix) = true) (hw : Jvm.Cond.fieldLink (zcl M) ix "java/lang/String" "coder" "B" ∈ lw_tbl) (kk : zW l E d M (k + 1) L (.inl 0 :: S) h Q) : zW l E d M k L (.inr (.inr (1001 + i)) :: S) h Q := by
  intro p e R s m args below meth c H locs ls cells slots QQ hX hE hS hL hv
  obtain ⟨hdg, hn⟩ := zdc_at hdc
  have k1 := kk p e R s m args below meth c H locs ls cells slots QQ hX hE hS hL (zrv_k (v := .inl 0) (by show zI32 0; unfold zI32; omega) (zrv_c hv).2)
  rw [hn] at k1
  rw [List.map_cons, zrf_1 hi]
  obtain ⟨-, -, -, r1, -⟩ := hX.2.2.2.2.2.2.2.2.2.2.1
  exact vk_getf hX.1 hX.2.1 (r1.1 i hi).2.1 hS.2.2 hX.2.2.2.1 (hX.2.2.2.2.1 _ (List.mem_filter.mpr ⟨hw, rfl⟩)) (fun x hx => hx) hdg k1
theorem z_gcs {ix : Nat} (hdc : zdc M k 3 (.getstatic ix) = true) (hw : Jvm.Cond.fieldLink (zcl M) ix "java/lang/String" "COMPACT_STRINGS" "Z" ∈ lw_tbl) (kk : zW l E d M (k + 1) L (.inl 1 :: S) h Q) : zW l E d M k L S h Q := by
  intro p e R s m args below meth c H locs ls cells slots QQ hX hE hS hL hv
  obtain ⟨hdg, hn⟩ := zdc_at hdc
  have k1 := kk p e R s m args below meth c H locs ls cells slots QQ hX hE hS hL (zrv_k (v := .inl 1) (by show zI32 1; unfold zI32; omega) hv)
  rw [hn] at k1
  obtain ⟨-, -, -, -, -, -, r1, -⟩ := hX.2.2.2.2.2.2.2.2.2.2.1
  exact va_gets hX.1 hX.2.1 r1 hS.2.2 hX.2.2.2.1 (hX.2.2.2.2.1 _ (List.mem_filter.mpr ⟨hw, rfl⟩)) (fun x hx => hx) hdg k1
theorem z_gfm {ix : Nat} (hdc : zdc M k 3 (.getstatic ix) = true) (hw : Jvm.Cond.fieldLink (zcl M) ix "jdk/internal/util/Preconditions" "SIOOBE_FORMATTER" "Ljava/util/function/BiFunction;" ∈ lw_tbl) (kk : zW l E d M (k + 1) L (.inr (.inr 1005) :: S) h Q) : zW l E d M k L S h Q := by
  intro p e R s m args below meth c H locs ls cells slots QQ hX hE hS hL hv
  obtain ⟨hdg, hn⟩ := zdc_at hdc
  have k1 := kk p e R s m args below meth c H locs ls cells slots QQ hX hE hS hL (zrv_k (v := .inr (.inr 1005)) trivial hv)
  rw [hn] at k1
  have e1 : zup E (.inr (.inr 1005)) = zfm E := by show zrf E 1005 = _; unfold zrf; rw [if_pos rfl]
  rw [List.map_cons, e1] at k1
  obtain ⟨-, -, -, -, -, -, -, r1, -⟩ := hX.2.2.2.2.2.2.2.2.2.2.1
  exact va_gets hX.1 hX.2.1 r1 hS.2.2 hX.2.2.2.1 (hX.2.2.2.2.1 _ (List.mem_filter.mpr ⟨hw, rfl⟩)) (fun x hx => hx) hdg k1
theorem z_blen {i : Nat} {n : Int} (hi : i < 2) (ho : zop M k = (48, 0, [])) (hn9 : (((zsl[i]?).getD 0 : Nat) : Int) = n) (kk : zW l E d M (k + 1) L (.inl n :: S) h Q) : zW l E d M k L (.inr (.inr (1003 + i)) :: S) h Q := by
  intro p e R s m args below meth c H locs ls cells slots QQ hX hE hS hL hv
  obtain ⟨hdg, hn⟩ := zsim_x hX ho (by decide) rfl
  have hz : zI32 n := by
    rcases (by omega : i = 0 ∨ i = 1) with rfl | rfl
    · rw [← hn9]; unfold zI32; show -2147483648 ≤ ((98 : Nat) : Int) ∧ ((98 : Nat) : Int) ≤ 2147483647; omega
    · rw [← hn9]; unfold zI32; show -2147483648 ≤ ((11 : Nat) : Int) ∧ ((11 : Nat) : Int) ≤ 2147483647; omega
  have k1 := kk p e R s m args below meth c H locs ls cells slots QQ hX hE hS hL (zrv_k (v := .inl n) hz (zrv_c hv).2)
  rw [hn] at k1
  rw [List.map_cons, zrf_3 hi]
  obtain ⟨-, -, -, r1, -⟩ := hX.2.2.2.2.2.2.2.2.2.2.1
  refine va_tlen hX.1 hX.2.1 (r1.1 i hi).2.2.2 hS.2.2 (v := Int32.ofInt n) ?_ hdg k1
  rw [← hn9]
  exact Int32.ofInt_eq_ofNat.symm
theorem z_bchr {i : Nat} {a : Int} (hi : i < 2) (ho : zop M k = (46, 0, [])) (h0 : 0 ≤ a) (h1 : a < ((zsl[i]?).getD 0 : Nat)) (kk : zW l E d M (k + 1) L (.inl (zchr i a) :: S) h Q) : zW l E d M k L (.inl a :: .inr (.inr (1003 + i)) :: S) h Q := by
  intro p e R s m args below meth c H locs ls cells slots QQ hX hE hS hL hv
  obtain ⟨hdg, hn⟩ := zsim_x hX ho (by decide) rfl
  have ha : zI32 a := (zrv_c hv).1
  have k1 := kk p e R s m args below meth c H locs ls cells slots QQ hX hE hS hL (zrv_k (v := .inl (zchr i a)) (zt32_r _) (zrv_c (zrv_c hv).2).2)
  rw [hn] at k1
  rw [List.map_cons, List.map_cons, zrf_3 hi]
  obtain ⟨-, -, -, r1, -⟩ := hX.2.2.2.2.2.2.2.2.2.2.1
  refine va_tb hX.1 hX.2.1 (r1.1 i hi).2.2.2 hS.2.2 (i := Int32.ofInt a) (v := .int (Int32.ofInt (zchr i a))) ?_ ?_ hdg k1
  · have := zvp (n := (zsl[i]?).getD 0) ha h0 h1
    rwa [← List.getD_eq_getElem?_getD] at this
  · rw [zcl_nat ha]
    show Value.int _ = Value.int _
    congr 1
    unfold zchr
    rw [Int32.ofInt_toInt, ← List.getD_eq_getElem?_getD, ← List.getD_eq_getElem?_getD]
theorem z_i2c {a : Int} (hdc : zdc M k 1 .i2c = true) (h0 : 0 ≤ a) (h1 : a < 65536) (kk : zW l E d M (k + 1) L (.inl a :: S) h Q) : zW l E d M k L (.inl a :: S) h Q := by
  intro p e R s m args below meth c H locs ls cells slots QQ hX hE hS hL hv
  obtain ⟨hdg, hn⟩ := zdc_at hdc
  have ha : zI32 a := (zrv_c hv).1
  have k1 := kk p e R s m args below meth c H locs ls cells slots QQ hX hE hS hL hv
  rw [hn] at k1
  refine lv_i2c hX.1 hX.2.1 hdg ?_ k1
  obtain ⟨j, rfl⟩ : ∃ j : Nat, a = (j : Int) := ⟨a.toNat, by omega⟩
  have e1 : Int32.ofInt (j : Int) = nI j := Int32.ofInt_eq_ofNat
  show ((Int32.ofInt (j : Int)).toUInt32 % 65536).toInt32 = Int32.ofInt (j : Int)
  rw [e1, pk_char, pk_tn (by omega), Nat.mod_eq_of_lt (by omega)]
theorem z_inS {ix i : Nat} {M' : zMeth} {As : List zV} {d' : Nat} {Q' : Int → zHp → Prop} (hi : i < 2) (ho : zop M k = (49, 0, [ix, M'.1])) (hC : zC l E d' M' (.inr (.inr (1001 + i)) :: As) h Q') (hn : (zhd M').2.2.2.2.2 = (false, As.length)) (hcl : (zny M').cls = "java/lang/String") (hd : d' + 1 ≤ d) (hst : decide ((S.map zcat).sum ≤ 8) = true)
    (kk : ∀ (r : Int) (h' : zHp), zRr M' r → Q' r h' → zW l E d M (k + 1) L (zrz M' r ++ S) h' Q) : zW l E d M k L (As.reverse ++ .inr (.inr (1001 + i)) :: S) h Q := by
  intro p e R s m args below meth c H locs ls cells slots QQ hX hE hS hL hv
  have hck : (zdc M k 3 (.invokevirtual ix) && (zMp.contains ((zhd M).1, ix, M'.1, false) && zIok M'.1)) = true := zck_at hX.2.2.2.2.2.2.2.1 ho (by decide : (49 : Nat) ≠ 999)
  obtain ⟨hck, hmp⟩ := (Bool.and_eq_true _ _).mp hck
  obtain ⟨hdg, hpc⟩ := zdc_at hck
  obtain ⟨hmp, hi9⟩ := (Bool.and_eq_true _ _).mp hmp
  unfold zIok at hi9
  simp only [Bool.and_eq_true] at hi9
  obtain ⟨hi1, hi2, hi3, hi4⟩ := hi9
  obtain ⟨ok1, ok2, ok3, ok4, ok5⟩ := zhok_of hi1
  have hf := hX.2.2.2.2.2.2.2.2.2.2.2
  have hvA : ∀ v ∈ (.inr (.inr (1001 + i)) :: As : List zV), zrv v := zrv_k (v := .inr (.inr (1001 + i))) trivial (fun v hq => hv v (List.mem_append_left _ (List.mem_reverse.mpr hq)))
  have hvS : ∀ v ∈ S, zrv v := fun v hq => hv v (List.mem_append_right _ (List.mem_cons_of_mem _ hq))
  have hM := hC hvA hS.1 hX.2.2.2.2.2.2.1 hf
  have gd : ∀ {w : Jvm.Cond}, w ∈ lw_tbl → goodWord w = true → w ∈ lw_tblg ∧ ((w.onTables && w.keeps) = true ∨ ∃ ty, w = .arrayClass ty) := fun h1 h2 => ⟨List.mem_filter.mpr ⟨h1, h2⟩, good_of_word h2⟩
  have hg : GoodIn lw_tblg (wsV (zcl M) ix (zny M').cls (zny M') (zws M')) := by
    intro w hw2
    unfold wsV zws at hw2
    simp only [List.cons_append, List.nil_append, List.mem_cons] at hw2
    rcases hw2 with rfl | rfl | rfl | rfl | rfl | h1
    · exact gd (zw_link hmp) rfl
    · exact gd (zw_inst hi2) rfl
    · refine gd ?_ rfl
      have h9 := zw_sel hi3
      rw [← ok1] at h9
      exact h9
    · refine gd ?_ rfl
      have h9 := zw_ini hi4
      rw [← ok1] at h9
      exact h9
    · exact gd (zw_code hi1) rfl
    · exact ⟨h1, good_of_word (lw_tblg_in _ h1).2⟩
  have hRm := hX.2.2.2.2.2.2.2.2.1
  have hnp : (zhj M'.1).2.2.2.2.2.2 = As.length := by show (zhd M').2.2.2.2.2.2 = _; rw [hn]
  have cw : CallW R s args (zcl M) (zny M').cls ix (zny M') (zby M') (zml M') (zrt M') (zws M') (zrm d') 0 0 As.length := cwV (ws' := lw_tblg) As.length hX.2.2.2.2.1 hg rfl rfl rfl ⟨rfl, ok2, ok3, by rw [← hnp]; exact ok4⟩ ⟨by show d' + 1 ≤ R.frames; omega, by show 8 + ((zhj M'.1).2.2.2.1 + 11) + 40 * d' ≤ R.locals; omega⟩
  have hstr := hX.2.2.2.2.2.2.2.2.2.2.1
  have hrcv : ∃ cellB : Cell, H[zad E (1001 + i)]? = some cellB ∧ cellB.vm.isStatics = false ∧ s.vm.findClass (zny M').cls = some cellB.cls := by
    rw [hcl]
    obtain ⟨-, -, -, r1, -⟩ := hstr
    exact vk_recv (adK := fun i => zad E (1001 + i)) (i := i) r1 hi hS.2.2
  rw [List.map_append, List.map_cons, List.map_reverse, zrf_1 hi]
  have hU : ∀ U : State, U.heap = H → s.WarmedH U.vm → va_Pc ((.inr (.inr (1001 + i)) :: As : List zV).map (zup E)) (fun U => zU E h U) (Value.ref (zad E (1001 + i)) :: As.map (zup E)).toArray U := fun U hU hW => ⟨by rw [List.map_cons, zrf_1 hi], zU_of hX.2.2.2.2.2.1 hstr hS hU hW⟩
  exact zbehind hX hE hS hL hvS hpc (va_runV (As := As.map (zup E)) (rest := S.map (zup E)) ⟨hX.1, hX.2.1, hX.2.2.1, hX.2.2.2.1, hX.2.2.2.2.1⟩ hM cw ⟨zblind _ _, hrcv, hU⟩ rfl (by rw [List.length_map]) (by obtain ⟨-, -, lv, hh, -⟩ := hL; exact hh.1) rfl (lv_room (by rw [zcat_up hf]; exact of_decide_eq_true hst)) hdg hX.2.2.2.2.2.2.2.2.2.1) kk
theorem z_aloadS {j i : Nat} (ho : zop M k = (3, 0, [j])) (hj : L[j]? = some (.inr (.inr i))) (hi : decide (1001 ≤ i ∧ i < 1005) = true) (kk : zW l E d M (k + 1) L (.inr (.inr i) :: S) h Q) : zW l E d M k L S h Q :=  by
  intro p e R s m args below meth c H locs ls cells slots QQ hX hE hS hL hv
  have hck : (zdc M k 2 (.aload j) || (decide (j < 4) && zdc M k 1 (.aload_n (Fin.ofNat 4 j)))) = true := zck_at hX.2.2.2.2.2.2.2.1 ho (by decide : (3 : Nat) ≠ 999)
  have hi := of_decide_eq_true hi
  obtain ⟨hl, hr⟩ := zLs_at hL hj (fun q => by cases q; omega)
  have e0 : zup E (.inr (.inr i)) = .ref (zad E i) := by show zrf E i = _; unfold zrf; rw [if_neg (by omega)]
  rw [e0] at hl
  have h1 := kk p e R s m args below meth c H locs ls cells slots QQ hX hE hS hL (zrv_k hr hv)
  rw [List.map_cons, e0] at h1
  rcases (Bool.or_eq_true _ _).mp hck with q | q
  · obtain ⟨hdg, hn⟩ := zdc_at q
    rw [hn] at h1
    exact lv_aload hX.1 hX.2.1 hdg hl h1
  · obtain ⟨q1, q⟩ := (Bool.and_eq_true _ _).mp q
    obtain ⟨hdg, hn⟩ := zdc_at q
    rw [hn] at h1
    exact lv_aload_n hX.1 hX.2.1 hdg (zfin (of_decide_eq_true q1)) hl h1
theorem zk_s1 : zchk zm_String_coder_7d493 = true := by decide +kernel
theorem zk_s2 : zchk zm_String_length_8abf5 = true := by decide +kernel
theorem zk_s3 : zchk zm_String_isLatin1_aae02 = true := by decide +kernel
theorem zk_s4 : zchk zm_Preconditions_checkIndex_8e157 = true := by decide +kernel
theorem zk_s5 : zchk zm_String_checkIndex_df160 = true := by decide +kernel
theorem zk_s6 : zchk zm_StringLatin1_charAt_3b067 = true := by decide +kernel
theorem zk_s7 : zchk zm_String_charAt_5068e = true := by decide +kernel
theorem zlw {n d : String} {ix : Nat} (h : (lw_tbl.any (fun w => decide (w = Jvm.Cond.fieldLink "java/lang/String" ix "java/lang/String" n d))) = true) : Jvm.Cond.fieldLink "java/lang/String" ix "java/lang/String" n d ∈ lw_tbl := by
  obtain ⟨w, hw, e⟩ := List.any_eq_true.mp h
  rw [← of_decide_eq_true e]
  exact hw
end ZStrings
section ZStrings2
variable {l : Launch} {E : zE} {h : zHp}
theorem zsf_coder {i d : Nat} (hi : i < 2) : zC l E d zm_String_coder_7d493 [.inr (.inr (1001 + i))] h (fun r1 h1 => 0 = r1 ∧ h = h1) := by
  refine zC_of zk_s1 (by decide) rfl rfl (Nat.le_of_ble_eq_true rfl) ?_
  show zW l E d zm_String_coder_7d493 0 [.inr (.inr (1001 + i))] [] h _
  refine z_gcs (ix := 38) (by decide +kernel) (by decide +kernel) ?_
  refine z_zeq rfl (fun q => by cases q) (fun _ => ?_)
  refine z_aloadS rfl rfl (by simp; omega) ?_
  refine z_scod (ix := 15) hi (by decide +kernel) (by decide +kernel) ?_
  refine z_goto rfl ?_
  exact zret0 (r := 0) (fun p R s m args c cells slots hX => by
    have hck : decide (decode (zby zm_String_coder_7d493) (zpc zm_String_coder_7d493 6) = .ok (.ireturn, 1)) = true := zck_at (k := 6) (o := (51, 0, [])) hX.2.2.2.2.2.2.2.1 rfl (by decide)
    exact of_decide_eq_true hck) (fun _ => ⟨by unfold zI32; omega, rfl⟩) rfl ⟨rfl, rfl⟩
theorem zsf_length {i d : Nat} (hi : i < 2) (hd : 2 ≤ d) : zC l E d zm_String_length_8abf5 [.inr (.inr (1001 + i))] h (fun r1 h1 => (((zsl[i]?).getD 0 : Nat) : Int) = r1 ∧ h = h1) := by
  refine zC_of zk_s2 (by decide) rfl rfl (Nat.le_of_ble_eq_true rfl) ?_
  show zW l E d zm_String_length_8abf5 0 [.inr (.inr (1001 + i))] [] h _
  refine z_aloadS rfl rfl (by simp; omega) ?_
  refine z_sval (ix := 9) hi (by decide +kernel) (by decide +kernel) ?_
  refine z_blen hi rfl rfl ?_
  refine z_aloadS rfl rfl (by simp; omega) ?_
  refine z_inS (d' := d - 1) (As := []) hi rfl (zsf_coder hi) rfl rfl (by omega) rfl (fun r1 h1 hR1 hQ1 => ?_)
  obtain ⟨rfl, rfl⟩ := hQ1
  show zW l E d zm_String_length_8abf5 5 [.inr (.inr (1001 + i))] [.inl 0, .inl (((zsl[i]?).getD 0 : Nat) : Int)] h _
  refine z_ishr rfl ?_
  refine z_iret rfl rfl ⟨?_, rfl⟩
  rcases (by omega : i = 0 ∨ i = 1) with rfl | rfl <;> decide
theorem zsf_latin {i d : Nat} (hi : i < 2) : zC l E d zm_String_isLatin1_aae02 [.inr (.inr (1001 + i))] h (fun r1 h1 => 1 = r1 ∧ h = h1) := by
  refine zC_of zk_s3 (by decide) rfl rfl (Nat.le_of_ble_eq_true rfl) ?_
  show zW l E d zm_String_isLatin1_aae02 0 [.inr (.inr (1001 + i))] [] h _
  refine z_gcs (ix := 38) (by decide +kernel) (by decide +kernel) ?_
  refine z_zeq rfl (fun q => by cases q) (fun _ => ?_)
  refine z_aloadS rfl rfl (by simp; omega) ?_
  refine z_scod (ix := 15) hi (by decide +kernel) (by decide +kernel) ?_
  refine z_zne rfl (fun q => absurd rfl q) (fun _ => ?_)
  refine z_const rfl ?_
  refine z_goto rfl ?_
  exact z_zret rfl rfl (Or.inr rfl) ⟨rfl, rfl⟩
theorem zsf_prec {d : Nat} (a n : Int) (h0 : 0 ≤ a) (h1 : a < n) : zC l E d zm_Preconditions_checkIndex_8e157 [.inl a, .inl n, .inr (.inr 1005)] h (fun r1 h1 => a = r1 ∧ h = h1) := by
  refine zC_of zk_s4 (by decide) rfl rfl (Nat.le_of_ble_eq_true rfl) ?_
  show zW l E d zm_Preconditions_checkIndex_8e157 0 (zla (zml zm_Preconditions_checkIndex_8e157) [.inl a, .inl n, .inr (.inr 1005)]) [] h _
  refine z_iload rfl rfl ?_
  refine z_zlt rfl (fun q => by omega) (fun _ => ?_)
  refine z_iload rfl rfl ?_
  refine z_iload rfl rfl ?_
  refine z_clt rfl (fun _ => ?_) (fun q => by omega)
  refine z_iload rfl rfl ?_
  exact z_iret rfl rfl ⟨rfl, rfl⟩
theorem zsf_chk {d : Nat} (hd : 2 ≤ d) (a n : Int) (h0 : 0 ≤ a) (h1 : a < n) : zC l E d zm_String_checkIndex_df160 [.inl a, .inl n] h (fun r1 h1 => 0 = r1 ∧ h = h1) := by
  refine zC_of zk_s5 (by decide) rfl rfl (Nat.le_of_ble_eq_true rfl) ?_
  show zW l E d zm_String_checkIndex_df160 0 [.inl a, .inl n] [] h _
  refine z_iload rfl rfl ?_
  refine z_iload rfl rfl ?_
  refine z_gfm (ix := 1053) (by decide +kernel) (by decide +kernel) ?_
  refine z_ivs1 (d' := d - 1) (As := [.inl a, .inl n, .inr (.inr 1005)]) rfl rfl (zsf_prec a n h0 h1) rfl (by omega) rfl (fun r1 h1 hR1 hQ1 => ?_)
  obtain ⟨rfl, rfl⟩ := hQ1
  refine z_pop rfl rfl ?_
  exact z_ret rfl rfl rfl ⟨rfl, rfl⟩
theorem zchr_r {i : Nat} (hi : i < 2) (a : Int) : 0 ≤ zchr i a ∧ zchr i a < 256 ∧ zand (zchr i a) 255 = zchr i a := by
  have h1 : (((zsb[0]?).getD [])).all (fun x => decide (0 ≤ x.toInt ∧ x.toInt < 256 ∧ zand x.toInt 255 = x.toInt)) = true := by decide +kernel
  have h2 : (((zsb[1]?).getD [])).all (fun x => decide (0 ≤ x.toInt ∧ x.toInt < 256 ∧ zand x.toInt 255 = x.toInt)) = true := by decide +kernel
  unfold zchr
  have h3 : (((zsb[i]?).getD [])).all (fun x => decide (0 ≤ x.toInt ∧ x.toInt < 256 ∧ zand x.toInt 255 = x.toInt)) = true := by
    rcases (by omega : i = 0 ∨ i = 1) with rfl | rfl
    · exact h1
    · exact h2
  cases hq : ((zsb[i]?).getD [])[a.toNat]? with
  | none => exact ⟨by decide, by decide, by decide⟩
  | some x => exact of_decide_eq_true (List.all_eq_true.mp h3 x (List.mem_of_getElem? hq))
theorem zsf_l1 {i d : Nat} (hi : i < 2) (hd : 3 ≤ d) (a : Int) (h0 : 0 ≤ a) (h1 : a < ((zsl[i]?).getD 0 : Nat)) : zC l E d zm_StringLatin1_charAt_3b067 [.inr (.inr (1003 + i)), .inl a] h (fun r1 h1 => zchr i a = r1 ∧ h = h1) := by
  obtain ⟨g1, g2, g3⟩ := zchr_r hi a
  refine zC_of zk_s6 (by decide) rfl rfl (Nat.le_of_ble_eq_true rfl) ?_
  show zW l E d zm_StringLatin1_charAt_3b067 0 [.inr (.inr (1003 + i)), .inl a] [] h _
  refine z_iload rfl rfl ?_
  refine z_aloadS rfl rfl (by simp; omega) ?_
  refine z_blen hi rfl rfl ?_
  refine z_ivs0 (d' := d - 1) (As := [.inl a, .inl (((zsl[i]?).getD 0 : Nat) : Int)]) rfl rfl (zsf_chk (by omega) a _ h0 h1) rfl (by omega) rfl (fun r1 h1 hR1 hQ1 => ?_)
  obtain ⟨rfl, rfl⟩ := hQ1
  refine z_aloadS rfl rfl (by simp; omega) ?_
  refine z_iload rfl rfl ?_
  refine z_bchr hi rfl h0 h1 ?_
  refine z_const rfl ?_
  refine z_iand rfl ?_
  rw [g3]
  refine z_i2c (by decide +kernel) g1 (by omega) ?_
  exact zret0 (r := zchr i a) (fun p R s m args c cells slots hX => by
    have hck : decide (decode (zby zm_StringLatin1_charAt_3b067) (zpc zm_StringLatin1_charAt_3b067 10) = .ok (.ireturn, 1)) = true := zck_at (k := 10) (o := (51, 0, [])) hX.2.2.2.2.2.2.2.1 rfl (by decide)
    exact of_decide_eq_true hck) (fun hv => ⟨(zrv_c hv).1, by
      obtain ⟨j, hj⟩ : ∃ j : Nat, zchr i a = (j : Int) := ⟨(zchr i a).toNat, by omega⟩
      rw [hj]
      have e1 : Int32.ofInt (j : Int) = nI j := Int32.ofInt_eq_ofNat
      rw [e1]
      exact (pk_charN (q := j) (by omega)).1⟩) rfl ⟨rfl, rfl⟩
theorem zsf_charAt {i d : Nat} (hi : i < 2) (hd : 4 ≤ d) (a : Int) (h0 : 0 ≤ a) (h1 : a < ((zsl[i]?).getD 0 : Nat)) : zC l E d zm_String_charAt_5068e [.inr (.inr (1001 + i)), .inl a] h (fun r1 h1 => zchr i a = r1 ∧ h = h1) := by
  obtain ⟨g1, g2, g3⟩ := zchr_r hi a
  refine zC_of zk_s7 (by decide) rfl rfl (Nat.le_of_ble_eq_true rfl) ?_
  show zW l E d zm_String_charAt_5068e 0 [.inr (.inr (1001 + i)), .inl a] [] h _
  refine z_aloadS rfl rfl (by simp; omega) ?_
  refine z_inS (d' := d - 1) (As := []) hi rfl (zsf_latin hi) rfl rfl (by omega) rfl (fun r1 h1 hR1 hQ1 => ?_)
  obtain ⟨rfl, rfl⟩ := hQ1
  show zW l E d zm_String_charAt_5068e 2 [.inr (.inr (1001 + i)), .inl a] [.inl 1] h _
  refine z_zeq rfl (fun q => by cases q) (fun _ => ?_)
  refine z_aloadS rfl rfl (by simp; omega) ?_
  refine z_sval (ix := 9) hi (by decide +kernel) (by decide +kernel) ?_
  refine z_iload rfl rfl ?_
  refine z_ivs1 (d' := d - 1) (As := [.inr (.inr (1003 + i)), .inl a]) rfl rfl (zsf_l1 hi (by omega) a h0 h1) rfl (by omega) rfl (fun r1 h1 hR1 hQ1 => ?_)
  obtain ⟨rfl, rfl⟩ := hQ1
  exact zret0 (r := zchr i a) (fun p R s m args c cells slots hX => by
    have hck : decide (decode (zby zm_String_charAt_5068e) (zpc zm_String_charAt_5068e 7) = .ok (.ireturn, 1)) = true := zck_at (k := 7) (o := (51, 0, [])) hX.2.2.2.2.2.2.2.1 rfl (by decide)
    exact of_decide_eq_true hck) (fun hv => ⟨(zrv_c hv).1, by
      obtain ⟨j, hj⟩ : ∃ j : Nat, zchr i a = (j : Int) := ⟨(zchr i a).toNat, by omega⟩
      rw [hj]
      have e1 : Int32.ofInt (j : Int) = nI j := Int32.ofInt_eq_ofNat
      rw [e1]
      exact (pk_charN (q := j) (by omega)).1⟩) rfl ⟨rfl, rfl⟩
variable {d : Nat} {M : zMeth} {k : Nat} {L S : List zV} {Q : Int → zHp → Prop}
theorem z_slen {i ix : Nat} {n : Int} (ho : zop M k = (49, 0, [ix, 236])) (hi : decide (i < 2) = true) (hn : (((zsl[i]?).getD 0 : Nat) : Int) = n) (hd : 8 ≤ d) (hst : decide ((S.map zcat).sum ≤ 8) = true) (kk : zW l E d M (k + 1) L (.inl n :: S) h Q) : zW l E d M k L (.inr (.inr (1001 + i)) :: S) h Q := by
  refine z_inS (d' := d - 1) (M' := zm_String_length_8abf5) (As := []) (of_decide_eq_true hi) ho (zsf_length (of_decide_eq_true hi) (by omega)) rfl rfl (by omega) hst (fun r1 h1 hR1 hQ1 => ?_)
  obtain ⟨rfl, rfl⟩ := hQ1
  rw [hn]
  exact kk
theorem z_schr {i ix : Nat} {a n : Int} (ho : zop M k = (49, 0, [ix, 237])) (hi : decide (i < 2) = true) (hn : (((zsl[i]?).getD 0 : Nat) : Int) = n) (hd : 8 ≤ d) (hst : decide ((S.map zcat).sum ≤ 8) = true) (h0 : 0 ≤ a) (h1 : a < n) (kk : zW l E d M (k + 1) L (.inl (zchr i a) :: S) h Q) : zW l E d M k L (.inl a :: .inr (.inr (1001 + i)) :: S) h Q := by
  refine z_inS (d' := d - 1) (M' := zm_String_charAt_5068e) (As := [.inl a]) (of_decide_eq_true hi) ho (zsf_charAt (of_decide_eq_true hi) (by omega) a h0 (by omega)) rfl rfl (by omega) hst (fun r1 h1 hR1 hQ1 => ?_)
  obtain ⟨rfl, rfl⟩ := hQ1
  exact kk
end ZStrings2
