/-! Row: copies; the String constants -/
def rcopy (h : zHp) (a n b m : Nat) : zHp := fun o j => if o = a ∧ j < n ∧ j < m then h b j else h o j
def rpartN (h : zHp) (a n b m : Nat) (to fr : Int) : Nat → zHp
  | 0 => h
  | k + 1 => rput (rpartN h a n b m to fr k) a n (w32 (to + k)) (rget (rpartN h a n b m to fr k) b m (w32 (fr + k)))
def rpart (h : zHp) (a n b m : Nat) (to fr count : Int) : zHp := rpartN h a n b m to fr count.toNat
def rcopyK (h : zHp) (a b k : Nat) : zHp := fun o j => if o = a ∧ j < k then h b j else h o j
section ZRow2
variable {l : Launch} {E : zE} {h : zHp}
theorem zl_Row_copyFrom {r a n r2 b m : Nat} (hr : zO[r]? = some (.inl (6, [3 + a]))) (ha : zO[a]? = some (.inr (0, n))) (hr2 : zO[r2]? = some (.inl (6, [3 + b]))) (hb : zO[b]? = some (.inr (0, m))) (hab : a ≠ b) (hn : n < 100000) {d : Nat} {Q : Int → zHp → Prop} (K : zW l E d zm_Row_copyFrom 22 [.inr (.inr r), .inr (.inr r2), zJk] [] (rcopy h a n b m) Q) :
    ∀ (f k : Nat), k ≤ n → k ≤ m → n - k < f → zW l E d zm_Row_copyFrom 2 [.inr (.inr r), .inr (.inr r2), .inl k] [] (rcopyK h a b k) Q := by
  have hrl := zO_lt hr
  have hal := zO_lt ha
  have hrl2 := zO_lt hr2
  have hbl := zO_lt hb
  intro f
  induction f with
  | zero => intro k h1 h2 h3; omega
  | succ f ih =>
    intro k h1 h2 h3
    have fin : (n ≤ k ∨ m ≤ k) → zW l E d zm_Row_copyFrom 22 [.inr (.inr r), .inr (.inr r2), .inl k] [] (rcopyK h a b k) Q := by
      intro q
      refine zsubL (L' := [.inr (.inr r), .inr (.inr r2), zJk]) ⟨Or.inl rfl, Or.inl rfl, Or.inr rfl, trivial⟩ ?_
      have e : rcopyK h a b k = rcopy h a n b m := by
        funext o j
        unfold rcopyK rcopy
        by_cases q1 : o = a
        · by_cases q2 : j < k
          · rw [if_pos ⟨q1, q2⟩, if_pos ⟨q1, by omega, by omega⟩]
          · rw [if_neg (fun z => q2 z.2), if_neg (fun z => by omega)]
        · rw [if_neg (fun z => q1 z.1), if_neg (fun z => q1 z.1)]
      rw [e]
      exact K
    refine z_iload rfl rfl ?_
    refine z_aload rfl rfl (by simpa using hrl) ?_
    refine z_getr rfl hr rfl (by simpa using hal) ?_
    refine z_alen rfl ha (by decide) ?_
    refine z_cge rfl (fun c1 => ?_) (fun c1 => ?_)
    · exact fin (Or.inl (by omega))
    · refine z_iload rfl rfl ?_
      refine z_aload rfl rfl (by simpa using hrl2) ?_
      refine z_getr rfl hr2 rfl (by simpa using hbl) ?_
      refine z_alen rfl hb (by decide) ?_
      refine z_cge rfl (fun c2 => ?_) (fun c2 => ?_)
      · exact fin (Or.inr (by omega))
      · refine z_aload rfl rfl (by simpa using hrl) ?_
        refine z_getr rfl hr rfl (by simpa using hal) ?_
        refine z_iload rfl rfl ?_
        refine z_aload rfl rfl (by simpa using hrl2) ?_
        refine z_getr rfl hr2 rfl (by simpa using hbl) ?_
        refine z_iload rfl rfl ?_
        refine z_iald rfl hb (by omega) (by omega) ?_
        refine z_iast rfl ha (by omega) (by omega) ?_
        refine z_iinc rfl rfl rfl ?_
        refine z_goto rfl ?_
        have e1 : w32 ((k : Int) + 1) = ((k + 1 : Nat) : Int) := by rw [w32_i ⟨by omega, by omega⟩]; omega
        have e2 : zst (rcopyK h a b k) a ((k : Int).toNat) (rcopyK h a b k b (k : Int).toNat) = rcopyK h a b (k + 1) := by
          funext o j
          unfold zst rcopyK
          by_cases q1 : o = a
          · by_cases q2 : j = k
            · subst q2
              rw [if_pos ⟨q1, by simp⟩, if_neg (fun z => hab z.1.symm), if_pos ⟨q1, by omega⟩]
              simp
            · rw [if_neg (fun z => q2 (by have := z.2; simpa using this))]
              by_cases q3 : j < k
              · rw [if_pos ⟨q1, q3⟩, if_pos ⟨q1, by omega⟩]
              · rw [if_neg (fun z => q3 z.2), if_neg (fun z => by omega)]
          · rw [if_neg (fun z => q1 z.1), if_neg (fun z => q1 z.1), if_neg (fun z => q1 z.1)]
        rw [e2]
        exact zcast (by rw [e1]; rfl) rfl (ih (k + 1) (by omega) (by omega) (by omega))
theorem zf_Row_copyFrom {r a n r2 b m : Nat} (hr : zO[r]? = some (.inl (6, [3 + a]))) (ha : zO[a]? = some (.inr (0, n))) (hr2 : zO[r2]? = some (.inl (6, [3 + b]))) (hb : zO[b]? = some (.inr (0, m))) (hab : a ≠ b ∧ n < 100000) {d : Nat} : zC l E d zm_Row_copyFrom [.inr (.inr r), .inr (.inr r2)] h (fun r0 h0 => 0 = r0 ∧ rcopy h a n b m = h0) := by
  refine zC_of zk_Row_copyFrom (by decide) rfl rfl (Nat.le_of_ble_eq_true rfl) ?_
  show zW l E d zm_Row_copyFrom 0 [.inr (.inr r), .inr (.inr r2), zJk] [] h _
  refine z_const rfl ?_
  refine z_istore rfl rfl rfl ?_
  have e : h = rcopyK h a b 0 := by funext o j; unfold rcopyK; rw [if_neg (fun z => by omega)]
  have k := zl_Row_copyFrom (l := l) (E := E) (h := h) (d := d) hr ha hr2 hb hab.1 hab.2 (Q := fun r0 h0 => 0 = r0 ∧ rcopy h a n b m = h0) (z_ret rfl rfl rfl ⟨rfl, rfl⟩) (n + 1) 0 (by omega) (by omega) (by omega)
  rw [← e] at k
  exact k
theorem zl_Row_copyPart {r a n r2 b m : Nat} (hr : zO[r]? = some (.inl (6, [3 + a]))) (ha : zO[a]? = some (.inr (0, n))) (hr2 : zO[r2]? = some (.inl (6, [3 + b]))) (hb : zO[b]? = some (.inr (0, m))) {d : Nat} (hd : 2 ≤ d) (to fr count : Int) (hc : zI32 count) {Q : Int → zHp → Prop} (K : Q 0 (rpart h a n b m to fr count)) :
    ∀ (f k : Nat), (k : Int) ≤ count ∨ k = 0 → count.toNat - k < f → zW l E d zm_Row_copyPart 2 [.inr (.inr r), .inl to, .inr (.inr r2), .inl fr, .inl count, .inl k] [] (rpartN h a n b m to fr k) Q := by
  have hrl := zO_lt hr
  have hrl2 := zO_lt hr2
  intro f
  induction f with
  | zero => intro k h1 h3; omega
  | succ f ih =>
    intro k h1 h3
    refine z_iload rfl rfl ?_
    refine z_iload rfl rfl ?_
    refine z_cge rfl (fun c1 => ?_) (fun c1 => ?_)
    · have e : k = count.toNat := by omega
      refine z_ret rfl rfl rfl ?_
      rw [e]
      exact K
    · refine z_aload rfl rfl (by simpa using hrl) ?_
      refine z_iload rfl rfl ?_
      refine z_iload rfl rfl ?_
      refine z_iadd rfl ?_
      refine z_aload rfl rfl (by simpa using hrl2) ?_
      refine z_iload rfl rfl ?_
      refine z_iload rfl rfl ?_
      refine z_iadd rfl ?_
      refine z_inv1 (d' := d - 1) (As := [.inl (w32 (fr + k))]) rfl rfl (zf_Row_get hr2 hb _) rfl hr2 rfl (by omega) rfl (fun r1 h1 hR1 hQ1 => ?_)
      obtain ⟨rfl, rfl⟩ := hQ1
      refine z_inv0 (d' := d - 1) (As := [.inl (w32 (to + k)), .inl (rget (rpartN h a n b m to fr k) b m (w32 (fr + k)))]) rfl rfl (zf_Row_put hr ha _ _) rfl hr rfl (by omega) rfl (fun r1 h1 hR1 hQ1 => ?_)
      obtain ⟨rfl, rfl⟩ := hQ1
      refine z_iinc rfl rfl rfl ?_
      refine z_goto rfl ?_
      have e1 : w32 ((k : Int) + 1) = ((k + 1 : Nat) : Int) := by rw [w32_i ⟨by omega, by have := hc.2; omega⟩]; omega
      exact zcast (by rw [e1]; rfl) rfl (ih (k + 1) (by omega) (by omega))
theorem zf_Row_copyPart {r a n r2 b m : Nat} (hr : zO[r]? = some (.inl (6, [3 + a]))) (ha : zO[a]? = some (.inr (0, n))) (hr2 : zO[r2]? = some (.inl (6, [3 + b]))) (hb : zO[b]? = some (.inr (0, m))) {d : Nat} (hd : 2 ≤ d) (to fr count : Int) : zC l E d zm_Row_copyPart [.inr (.inr r), .inl to, .inr (.inr r2), .inl fr, .inl count] h (fun r0 h0 => 0 = r0 ∧ rpart h a n b m to fr count = h0) := by
  intro hrv
  have hc : zI32 count := hrv (.inl count) (by simp)
  refine zC_of zk_Row_copyPart (by decide) rfl rfl (Nat.le_of_ble_eq_true rfl) ?_ hrv
  show zW l E d zm_Row_copyPart 0 [.inr (.inr r), .inl to, .inr (.inr r2), .inl fr, .inl count, zJk] [] h _
  refine z_const rfl ?_
  refine z_istore rfl rfl rfl ?_
  exact zl_Row_copyPart hr ha hr2 hb hd to fr count hc ⟨rfl, rfl⟩ (count.toNat + 1) 0 (Or.inr rfl) (by omega)
end ZRow2
def zchr (i : Nat) (k : Int) : Int := (((zsb[i]?).getD [])[k.toNat]?.getD 0).toInt
section ZStrings
variable {l : Launch} {E : zE} {d : Nat} {M : zMeth} {k : Nat} {L S : List zV} {h : zHp} {Q : Int → zHp → Prop}
theorem z_ldcs {i ix : Nat} (ho : zop M k = (54, 0, [ix, i])) (hi : decide (i < 2) = true) (kk : zW l E d M (k + 1) L (.inr (.inr (1001 + i)) :: S) h Q) : zW l E d M k L S h Q := by
  sorry
theorem z_slen {i ix : Nat} {n : Int} (ho : zop M k = (49, 0, [ix, 236])) (hi : decide (i < 2) = true) (hn : (((zsl[i]?).getD 0 : Nat) : Int) = n) (hd : 8 ≤ d) (hst : decide ((S.map zcat).sum ≤ 8) = true) (kk : zW l E d M (k + 1) L (.inl n :: S) h Q) : zW l E d M k L (.inr (.inr (1001 + i)) :: S) h Q := by
  sorry
theorem z_schr {i ix : Nat} {a n : Int} (ho : zop M k = (49, 0, [ix, 237])) (hi : decide (i < 2) = true) (hn : (((zsl[i]?).getD 0 : Nat) : Int) = n) (hd : 8 ≤ d) (hst : decide ((S.map zcat).sum ≤ 8) = true) (h0 : 0 ≤ a) (h1 : a < n) (kk : zW l E d M (k + 1) L (.inl (zchr i a) :: S) h Q) : zW l E d M k L (.inl a :: .inr (.inr (1001 + i)) :: S) h Q := by
  sorry
end ZStrings
