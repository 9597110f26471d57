/-! PURE: text, the reference's sums and ones -/
theorem zsmR_r {N : Nat} {b : zFn} {len t : Nat} {so : Int} {d : Nat} {O : Nat → zR} (hN : 1300 ≤ N) (ht : t ≤ 3) (hd : d ≤ 8) (hg : ∀ p, p ≤ len → zRG2 len p (zprd b len O p)) (hl : len ≤ 300) (G : zG2 N b len t so d (zprd b len O)) : zG3 N b len t so d (zsmR b len O) := by
  have hlp : ∀ (n p c : Nat) (Q ops e : List Int) (g : zHp), zRS g b len t so p (c + List.length e) (8 - (d : Int)) 1 (ops ++ Q) → (∀ x Q', Q = x :: Q' → x = 40) → zops 3 ops → ops.length ≤ 2 → c + (e ++ ops.map zoc).length + Q.length ≤ p → Q.length + 3 * d ≤ 24 → len ≤ p + n → zEm g t c e → zJ2 (zco b len p) = false →
      match zlpR b len zJ3 (zprd b len O) n p (e ++ ops.map zoc) with
      | .inl er => zFlt N len t c p g er
      | .inr (p', l) => ∃ k g1 ops e, k + p ≤ p' ∧ (∀ n, sh_Mo_summed_L6 N (n + k) g = sh_Mo_summed_L6 N n g1) ∧ zRS g1 b len t so p' (c + List.length e) (8 - (d : Int)) 1 (ops ++ Q) ∧ zops 3 ops ∧ ops.length ≤ 2 ∧ l = e ++ ops.map zoc ∧ zEm g1 t c e ∧ zFR t c g g1 ∧ zJ2 (zco b len p') = false ∧ zJ3 (zco b len p') = false := by
    intro n
    induction n with
    | zero =>
      intro p c Q ops e g S hQ ho h1 hc hL hn hE h2
      have hp := S.1.2.2
      have hb := zne_b (b := b) (len := len) hp
      refine ⟨0, g, ops, e, by omega, fun n => rfl, S, ho, h1, rfl, hE, zFR.refl g, h2, ?_⟩
      rw [zco_e (by omega)]; decide
    | succ n ih =>
      intro p c Q ops e g S hQ ho h1 hc hL hn hE h2
      have hp := S.1.2.2
      have hb := zne_b (b := b) (len := len) hp
      have hlen : (e ++ ops.map zoc).length = e.length + ops.length := by rw [List.length_append, List.length_map]
      rw [show zlpR b len zJ3 (zprd b len O) (n + 1) p (e ++ ops.map zoc) = if zJ3 (zco b len p) = true then (match zprd b len O (zne b len p) with
        | .inl e => .inl e
        | .inr (p', l') => zlpR b len zJ3 (zprd b len O) n p' ((e ++ ops.map zoc) ++ (l' ++ [20000 + zco b len p]))) else .inr (p, e ++ ops.map zoc) from rfl]
      by_cases c1 : zJ3 (zco b len p) = true
      case neg =>
        rw [if_neg c1]
        exact ⟨0, g, ops, e, by omega, fun n => rfl, S, ho, h1, rfl, hE, zFR.refl g, h2, by simpa using c1⟩
      rw [if_pos c1]
      have hk : zco b len p ≠ 35 := fun q => by rw [q] at c1; exact absurd c1 (by decide)
      have hlt := zco_ne (b := b) (len := len) hp hk
      have c2 : zco b len p = 24 ∨ zco b len p = 25 := of_decide_eq_true c1
      obtain ⟨x, hx, hx2⟩ : ∃ x : Int, ((zco b len p = 24 ∧ x = 3) ∨ (zco b len p = 25 ∧ x = 4)) ∧ zoc x = 20000 + zco b len p := by
        rcases c2 with h | h
        · exact ⟨3, Or.inl ⟨h, rfl⟩, by rw [h]; rfl⟩
        · exact ⟨4, Or.inr ⟨h, rfl⟩, by rw [h]; rfl⟩
      obtain ⟨g1, q1, q2, q3, q4⟩ := zbhd_r hN ht 3 x S (fun x Q' h => by have := hQ x Q' h; omega) ho (by omega) (by rw [List.length_append]; omega) (Or.inr ⟨rfl, hx⟩)
      have hG := G (zne b len p) (c + e.length + ops.length) (x :: Q) g1 q2 (fun y Q' h => by
        obtain ⟨rfl, -⟩ := List.cons.inj h
        omega) (by simp only [List.length_cons]; omega) (by simp only [List.length_cons]; omega)
      have hgs := hg (zne b len p) hb.2.1
      have hE1 : zEm g1 t c (e ++ ops.map zoc) := zEm_app hE q4 q3
      have f1 : zFR t c g g1 := ⟨q4.1, fun j hj => q4.2.1 j (by omega), q4.2.2⟩
      cases hr : zprd b len O (zne b len p) with
      | inl er =>
        rw [hr] at hG
        exact zFlt_p hG (by omega : 1 + p ≤ zne b len p) q1 f1 (by omega)
      | inr q =>
        obtain ⟨p', l'⟩ := q
        rw [hr] at hG hgs
        obtain ⟨g1', g2', g3'⟩ := hgs
        obtain ⟨k, g2, pd, e1, r1, r2, r3, r4, r5, r6, r7, r8, r9⟩ := hG
        have hlen1 : l'.length = e1.length + pd.length := by rw [r6, List.length_append, List.length_map]
        have hE2 : zEm g2 t c ((e ++ ops.map zoc) ++ e1) := zEm_app hE1 (by rw [hlen, ← Nat.add_assoc]; exact r8) (by rw [hlen, ← Nat.add_assoc]; exact r7)
        have hlen2 : ((e ++ ops.map zoc) ++ e1).length = e.length + ops.length + e1.length := by rw [List.length_append, hlen]
        have S2 : zRS g2 b len t so p' (c + ((e ++ ops.map zoc) ++ e1).length) (8 - (d : Int)) 1 ((pd ++ [x]) ++ Q) := by
          rw [hlen2, show c + (e.length + ops.length + e1.length) = c + e.length + ops.length + e1.length by omega, List.append_assoc]
          exact r3
        have hih := ih p' c Q (pd ++ [x]) ((e ++ ops.map zoc) ++ e1) g2 S2 hQ (fun y hy => by
          rcases List.mem_append.mp hy with h | h
          · have := r4 y h; omega
          · rcases List.mem_cons.mp h with rfl | h
            · omega
            · cases h) (by rw [List.length_append]; simp only [List.length_cons, List.length_nil]; omega) (by
            rw [List.length_append, hlen2, List.length_map, List.length_append]
            simp only [List.length_cons, List.length_nil]
            omega) hL (by omega) hE2 r9
        have eacc : ((e ++ ops.map zoc) ++ e1) ++ (pd ++ [x]).map zoc = (e ++ ops.map zoc) ++ (l' ++ [20000 + zco b len p]) := by
          rw [List.map_append, List.map_cons, List.map_nil, hx2, r6, List.append_assoc, List.append_assoc e1]
        rw [eacc] at hih
        have hL2 : ∀ n, sh_Mo_summed_L6 N (n + (k + 1)) g = sh_Mo_summed_L6 N n g2 := fun n => by
          rw [← Nat.add_assoc, q1, r2]
        have f2 : zFR t c g g2 := f1.trans r8 (by omega)
        show match zlpR b len zJ3 (zprd b len O) n p' ((e ++ ops.map zoc) ++ (l' ++ [20000 + zco b len p])) with
          | .inl er => zFlt N len t c p g er
          | .inr (p', l) => ∃ k g1 ops e, k + p ≤ p' ∧ (∀ n, sh_Mo_summed_L6 N (n + k) g = sh_Mo_summed_L6 N n g1) ∧ zRS g1 b len t so p' (c + List.length e) (8 - (d : Int)) 1 (ops ++ Q) ∧ zops 3 ops ∧ ops.length ≤ 2 ∧ l = e ++ ops.map zoc ∧ zEm g1 t c e ∧ zFR t c g g1 ∧ zJ2 (zco b len p') = false ∧ zJ3 (zco b len p') = false
        cases hz : zlpR b len zJ3 (zprd b len O) n p' ((e ++ ops.map zoc) ++ (l' ++ [20000 + zco b len p])) with
        | inl er =>
          rw [hz] at hih
          exact zFlt_p hih (by omega : k + 1 + p ≤ p') hL2 f2 (Nat.le_refl _)
        | inr q =>
          obtain ⟨p2, l2⟩ := q
          rw [hz] at hih
          obtain ⟨k3, g3, ops3, e3, u1, u2, u3, u4, u5, u6, u7, u8, u9, u10⟩ := hih
          exact ⟨k3 + (k + 1), g3, ops3, e3, by omega, fun n => by rw [← Nat.add_assoc, hL2, u2], u3, u4, u5, u6, u7, f2.trans u8 (Nat.le_refl _), u9, u10⟩
  intro p c Q g S hQ hc hL
  have hp := S.1.2.2
  have hG := G p c Q g S (fun x Q' h => Or.inl (hQ x Q' h)) hc (by omega)
  have hgs := hg p hp
  unfold zsmR zjnR
  cases hr : zprd b len O p with
  | inl er => rw [hr] at hG; exact hG
  | inr q =>
    obtain ⟨p', l'⟩ := q
    rw [hr] at hG hgs
    obtain ⟨g1', g2', g3'⟩ := hgs
    obtain ⟨k, g2, pd, e1, r1, r2, r3, r4, r5, r6, r7, r8, r9⟩ := hG
    have hih := hlp len p' c Q pd e1 g2 r3 hQ (fun y hy => by have := r4 y hy; omega) (by omega) (by rw [← r6]; omega) hL (by omega) r7 r9
    rw [← r6] at hih
    show match zlpR b len zJ3 (zprd b len O) len p' l' with
      | .inl er => zFlt N len t c p g er
      | .inr (p', l) => ∃ k g1 ops e, k + p ≤ p' ∧ (∀ n, sh_Mo_summed_L6 N (n + k) g = sh_Mo_summed_L6 N n g1) ∧ zRS g1 b len t so p' (c + List.length e) (8 - (d : Int)) 1 (ops ++ Q) ∧ zops 3 ops ∧ ops.length ≤ 2 ∧ l = e ++ ops.map zoc ∧ zEm g1 t c e ∧ zFR t c g g1 ∧ zJ2 (zco b len p') = false ∧ zJ3 (zco b len p') = false
    cases hz : zlpR b len zJ3 (zprd b len O) len p' l' with
    | inl er =>
      rw [hz] at hih
      exact zFlt_p hih r1 r2 r8 (Nat.le_refl _)
    | inr q =>
      obtain ⟨p2, l2⟩ := q
      rw [hz] at hih
      obtain ⟨k3, g3, ops3, e3, u1, u2, u3, u4, u5, u6, u7, u8, u9, u10⟩ := hih
      exact ⟨k3 + k, g3, ops3, e3, by omega, fun n => by rw [← Nat.add_assoc, r2, u2], u3, u4, u5, u6, u7, r8.trans u8 (Nat.le_refl _), u9, u10⟩
theorem zbar_z {so k : Int} {g : zHp} (hs : g 85 20 = so) (h : 0 ≤ k ∧ k ≤ 10) : (sh_Mo_isBarred k g = 0) = (zNok so k = true) := by
  apply propext
  unfold sh_Mo_isBarred zNok
  rw [hs]
  by_cases c3 : so = 3
  · rw [if_pos c3, if_neg (c := so = 4) (by omega), if_pos c3, decide_eq_true_iff]
    by_cases c : k ≤ 2
    · rw [if_pos c]; exact ⟨fun _ => ⟨h.1, c⟩, fun _ => rfl⟩
    · rw [if_neg c]; exact ⟨fun q => absurd q (by decide), fun q => absurd q.2 c⟩
  · rw [if_neg c3]
    by_cases c4 : so = 4
    · rw [if_pos c4, if_pos c4, isIn_z, decide_eq_true_iff]
      constructor <;> intro q <;> omega
    · rw [if_neg c4, if_neg c4, if_neg c3, decide_eq_true_iff]
      by_cases c : k ≤ 8
      · rw [if_pos c]; exact ⟨fun _ => ⟨h.1, c⟩, fun _ => rfl⟩
      · rw [if_neg c]; exact ⟨fun q => absurd q (by decide), fun q => absurd q.2 c⟩
theorem zflt_1 {N len t c p : Nat} {g : zHp} {k : Int} {q : Nat} (hp : p ≤ len) (h0 : g 85 19 = 0) (hk : k ≠ 0) (hb : sh_Mo_beginOne N g = some (k, g)) (h8 : g 85 8 = (q : Int)) : zFlt N len t c p g (k, q) := by
  refine ⟨1, g, by omega, fun n => ?_, h8, zFR.refl g⟩
  rw [zL6_0 h0, hb]
  simp only [zb2_some]
  rw [if_neg hk]
  rfl
/-- a number or a name: written, the next token, the minuses ahead of it -/
theorem zlit_r {N : Nat} {b : zFn} {len t : Nat} {so : Int} {d p c j : Nat} {Q : List Int} {g : zHp} (x v u : Int) (hN : 1300 ≤ N) (ht : t ≤ 3) (hl : len ≤ 300) (hd : d ≤ 8) (hz : zcd x v u) (hk : zco b len p ≠ 35) (S : zRS g b len t so p c (8 - (d : Int)) 0 (List.replicate j 2 ++ Q)) (hQ : ∀ x Q', Q = x :: Q' → x ≠ 2) (hc : c + j + Q.length ≤ p) (hL : j + Q.length + 3 * d ≤ 26) (hj : j + d ≤ 8)
    (hb : sh_Mo_beginOne N g = zb1 (sh_Mo_emit N x v g) fun h67 => zb1 (sh_Mo_nextToken N h67) fun h73 => zb1 (sh_Mo_whole N h73) fun h79 => some (0, h79)) :
    ∃ k g1, k + p ≤ zne b len p ∧ (∀ n, sh_Mo_summed_L6 N (n + k) g = sh_Mo_summed_L6 N n g1) ∧ zRS g1 b len t so (zne b len p) (c + [u].length + j) (8 - (d : Int) - j) 1 Q ∧ zEm g1 t c ([u] ++ List.replicate j 20033) ∧ zFR t c g g1 := by
  have hp := S.1.2.2
  have hb2 := zne_b (b := b) (len := len) hp
  have hlt := zco_ne (b := b) (len := len) hp hk
  obtain ⟨g1, q1, q2, q3, q4, -⟩ := zRS_emt (N := N) x v ht (by omega) S
  obtain ⟨g2, r1, r2, r3, r4⟩ := zRS_nxt hN q2
  obtain ⟨g3, s1, s2, s3, s4⟩ := zwh_r hN ht hQ r2 (by omega) (by omega) (by omega)
  refine ⟨1, g3, by omega, fun n => ?_, s2, ?_, (q3.trans r3 (by omega)).trans s3 (by omega)⟩
  · rw [zL6_0 S.2.2.2.2.1, hb, q1]
    simp only [zb1_some]
    rw [r1]
    simp only [zb1_some]
    rw [s1]
    simp only [zb1_some, zb2_some]
    rw [if_pos trivial]
  · exact zEm_app (l := [u]) (zEm_k (zEm_one q4 hz) r4) s3 s4
/-- a minus or a parenthesis -/
theorem zopn_r {N : Nat} {b : zFn} {len t : Nat} {so : Int} {d p c : Nat} {P : List Int} {g : zHp} (w : Int) (hN : 1300 ≤ N) (hd : d + 1 ≤ 8) (hw : w ≠ 0) (hl : P.length < 100) (S : zRS g b len t so p c (8 - ((d + 1 : Nat) : Int)) 0 P)
    (hb : sh_Mo_beginOne N g = if g 85 18 = 8 then some (3, g) else zb1 (sh_Mo_push N w (zst g 85 18 (w32 ((g 85 18) + 1)))) fun h19 => zb1 (sh_Mo_nextToken N h19) fun h25 => some (0, h25)) :
    ∃ g1, (∀ n, sh_Mo_summed_L6 N (n + 1) g = sh_Mo_summed_L6 N n g1) ∧ zRS g1 b len t so (zne b len p) c (8 - (d : Int)) 0 (w :: P) ∧ zFR t c g g1 := by
  have hS := S
  obtain ⟨-, -, s6, s7, s8, s9, s10⟩ := hS
  have e1 : w32 (8 - ((d + 1 : Nat) : Int) + 1) = 8 - (d : Int) := by rw [w32_s (by omega) (by omega)]; omega
  have S1 : zRS (zst g 85 18 (8 - (d : Int))) b len t so p c (8 - (d : Int)) 0 P := zRS_st S (Or.inr (Or.inr (Or.inl rfl))) (by rw [zst_if, if_pos rfl, zup1_ne _ _ (by decide)]; exact s6) (by rw [zst_if, if_pos rfl, zup1_ne _ _ (by decide)]; exact s9) (by rw [zst_if, if_pos rfl, zup1_eq]) (by rw [zst_if, if_pos rfl, zup1_ne _ _ (by decide)]; exact s8) s10
  obtain ⟨g1, q1, q2, q3, q4⟩ := zRS_psh (N := N) w (by omega) S1
  obtain ⟨g2, r1, r2, r3, r4⟩ := zRS_nxt hN q2
  refine ⟨g2, fun n => ?_, r2, (((zFR.refl g).st (by decide)).trans q3 (Nat.le_refl _)).trans r3 (Nat.le_refl _)⟩
  rw [zL6_0 s8, hb, s7, if_neg (by omega), e1, q1]
  simp only [zb1_some]
  rw [r1]
  simp only [zb1_some, zb2_some]
  rw [if_pos trivial]
theorem zone_r {N : Nat} {b : zFn} {len t : Nat} {so : Int} (hN : 1300 ≤ N) (ht : t ≤ 3) (hl : len ≤ 300) : ∀ d, d ≤ 8 → zG1 N b len t so d (zone b len so d) := by
  -- what beginOne says
  have hbeg : ∀ (p c : Nat) (o w : Int) (P : List Int) (g : zHp), zRS g b len t so p c o w P → sh_Mo_beginOne N g = (if zco b len p = 34 then (if znu b len p ≤ 9999 then zb1 (sh_Mo_emit N 0 (znu b len p) g) fun h67 => zb1 (sh_Mo_nextToken N h67) fun h73 => zb1 (sh_Mo_whole N h73) fun h79 => some (0, h79) else some (2, g))
      else if 0 ≤ zco b len p ∧ zco b len p < 11 then (if zNok so (zco b len p) = true then zb1 (sh_Mo_emit N 1 (zco b len p) g) fun h67 => zb1 (sh_Mo_nextToken N h67) fun h73 => zb1 (sh_Mo_whole N h73) fun h79 => some (0, h79) else some (5, g))
      else if zco b len p = 25 then (if g 85 18 = 8 then some (3, g) else zb1 (sh_Mo_push N 2 (zst g 85 18 (w32 ((g 85 18) + 1)))) fun h19 => zb1 (sh_Mo_nextToken N h19) fun h25 => some (0, h25))
      else if zco b len p = 28 then (if g 85 18 = 8 then some (3, g) else zb1 (sh_Mo_push N 40 (zst g 85 18 (w32 ((g 85 18) + 1)))) fun h19 => zb1 (sh_Mo_nextToken N h19) fun h25 => some (0, h25))
      else some (1, g)) := by
    intro p c o w P g S
    obtain ⟨⟨s1, s2, s3⟩, ⟨s4, s5⟩, -⟩ := S
    have hT := zTK_s s2
    have hnm := znm_r (N := N) s1 s3 s2
    have hkr := zco_r (b := b) (len := len) (p := p)
    unfold sh_Mo_beginOne
    by_cases c1 : zco b len p = 34
    · rw [if_pos (hT.2.1.mpr c1), if_pos c1]
      have hnr : znR (znu b len p) (g 85 10) := by
        rcases s2.2 with ⟨k, -⟩ | ⟨-, -, q⟩ | ⟨k, -⟩ | hm
        · rw [k] at c1; exact absurd c1 (by decide)
        · exact q
        · have := hT.2.1.mpr c1; rw [k] at this; exact absurd this (by decide)
        · exfalso
          rw [c1] at hm
          simp [zSgn] at hm
      by_cases c2 : znu b len p ≤ 9999
      · rw [if_pos c2, if_pos (by unfold znR at hnr; omega)]
        have : g 85 10 = znu b len p := by unfold znR at hnr; omega
        rw [this]
      · rw [if_neg c2, if_neg (by unfold znR at hnr; omega)]
    rw [if_neg (fun q => c1 (hT.2.1.mp q)), if_neg c1, hnm]
    simp only [zb1_some]
    by_cases c2 : 0 ≤ zco b len p ∧ zco b len p < 11
    · rw [if_pos (c := 0 ≤ zco b len p ∧ zco b len p ≤ 10) (by omega), if_neg (by omega), if_pos c2]
      simp only [zbar_z s5 (show 0 ≤ zco b len p ∧ zco b len p ≤ 10 by omega)]
    rw [if_neg (c := 0 ≤ zco b len p ∧ zco b len p ≤ 10) (by omega), if_pos (by decide), if_neg c2]
    by_cases c3 : zco b len p = 25
    · have t45 := hT.2.2.2.2.2.2.1.mpr c3
      rw [if_pos c3]
      have : (if g 85 9 = 40 then 40 else (if g 85 9 = 45 then 2 else 0 : Int) : Int) = 2 := by rw [if_neg (by omega), if_pos t45]
      rw [this, if_neg (by decide)]
    rw [if_neg c3]
    by_cases c4 : zco b len p = 28
    · have t40 := hT.2.2.1.mpr c4
      rw [if_pos c4]
      have : (if g 85 9 = 40 then 40 else (if g 85 9 = 45 then 2 else 0 : Int) : Int) = 40 := by rw [if_pos t40]
      rw [this, if_neg (by decide)]
    rw [if_neg c4]
    have : (if g 85 9 = 40 then 40 else (if g 85 9 = 45 then 2 else 0 : Int) : Int) = 0 := by rw [if_neg (fun q => c4 (hT.2.2.1.mp q)), if_neg (fun q => c3 (hT.2.2.2.2.2.2.1.mp q))]
    rw [this, if_pos rfl]
  -- numbers, names, and what is none of all
  have hlit : ∀ (d p c j : Nat) (Q : List Int) (g : zHp), d ≤ 8 → zRS g b len t so p c (8 - (d : Int)) 0 (List.replicate j 2 ++ Q) → (∀ x Q', Q = x :: Q' → x ≠ 2) → c + j + Q.length ≤ p → j + Q.length + 3 * d ≤ 26 → j + d ≤ 8 → zco b len p ≠ 25 → zco b len p ≠ 28 →
      match zone b len so d p with
      | .inl e => zFlt N len t c p g e
      | .inr (p', l) => ∃ k g1, k + p ≤ p' ∧ (∀ n, sh_Mo_summed_L6 N (n + k) g = sh_Mo_summed_L6 N n g1) ∧ zRS g1 b len t so p' (c + l.length + j) (8 - (d : Int) - j) 1 Q ∧ zEm g1 t c (l ++ List.replicate j 20033) ∧ zFR t c g g1 := by
    intro d p c j Q g hd S hQ hc hL hj n25 n28
    have hB := hbeg p c _ _ _ g S
    have hp := S.1.2.2
    have h8 : g 85 8 = (zPl2 b len p : Int) := S.1.2.1.1.2
    by_cases c1 : zco b len p = 34
    · rw [zoneU_34 d p c1]
      rw [if_pos c1] at hB
      by_cases c2 : znu b len p ≤ 9999
      · rw [if_pos c2] at hB
        rw [if_pos c2]
        have hn0 : 0 ≤ znu b len p := by
          have hT := zTK_s S.1.2.1
          rcases S.1.2.1.2 with ⟨k, -⟩ | ⟨-, -, q⟩ | ⟨k, -⟩ | hm
          · rw [k] at c1; exact absurd c1 (by decide)
          · unfold znR at q; omega
          · have := hT.2.1.mpr c1; rw [k] at this; exact absurd this (by decide)
          · exfalso
            rw [c1] at hm
            simp [zSgn] at hm
        exact zlit_r 0 (znu b len p) (znu b len p) hN ht hl hd (Or.inl ⟨rfl, hn0, c2, rfl⟩) (by omega) S hQ hc hL hj hB
      · rw [if_neg c2] at hB
        rw [if_neg c2]
        exact zflt_1 hp S.2.2.2.2.1 (by decide) hB h8
    rw [if_neg c1] at hB
    by_cases c2 : 0 ≤ zco b len p ∧ zco b len p < 11
    · rw [zoneU_nm d p c2]
      rw [if_pos c2] at hB
      by_cases c3 : zNok so (zco b len p) = true
      · rw [if_pos c3] at hB
        rw [if_pos c3]
        exact zlit_r 1 (zco b len p) (10000 + zco b len p) hN ht hl hd (Or.inr (Or.inl ⟨rfl, c2.1, c2.2, rfl⟩)) (by omega) S hQ hc hL hj hB
      · rw [if_neg c3] at hB
        rw [if_neg c3]
        exact zflt_1 hp S.2.2.2.2.1 (by decide) hB h8
    rw [zoneU_el d p c1 c2 n25 n28]
    rw [if_neg c2, if_neg n25, if_neg n28] at hB
    exact zflt_1 hp S.2.2.2.2.1 (by decide) hB h8
  intro d
  induction d with
  | zero =>
    intro hd p c j Q g S hQ hc hL hj
    by_cases c5 : zco b len p = 25 ∨ zco b len p = 28
    case neg => exact hlit 0 p c j Q g hd S hQ hc hL hj (fun q => c5 (Or.inl q)) (fun q => c5 (Or.inr q))
    have hB := hbeg p c _ _ _ g S
    have h18 : g 85 18 = 8 := by rw [S.2.2.2.1]; rfl
    rw [if_neg (by omega), if_neg (by omega), h18, if_pos rfl, if_pos rfl] at hB
    rw [zoneU_0 p c5]
    refine zflt_1 S.1.2.2 S.2.2.2.2.1 (by decide) ?_ S.1.2.1.1.2
    rw [hB]
    rcases c5 with c | c
    · rw [if_pos c]
    · rw [if_neg (by omega), if_pos c]
  | succ d ih =>
    intro hd p c j Q g S hQ hc hL hj
    have hp := S.1.2.2
    have hb2 := zne_b (b := b) (len := len) hp
    have hB := hbeg p c _ _ _ g S
    by_cases c3 : zco b len p = 25
    · have hlt := zco_ne (b := b) (len := len) hp (by omega)
      rw [if_neg (by omega), if_neg (by omega), if_pos c3] at hB
      obtain ⟨g1, q1, q2, q3⟩ := zopn_r 2 hN hd (by decide) (by rw [List.length_append, List.length_replicate]; omega) S hB
      have hI := ih (by omega) (zne b len p) c (j + 1) Q g1 (by rw [List.replicate_succ]; exact q2) hQ (by omega) (by omega) (by omega)
      rw [zoneU_m d p c3]
      cases hr : zone b len so d (zne b len p) with
      | inl e =>
        rw [hr] at hI
        exact zFlt_p hI (by omega : 1 + p ≤ zne b len p) q1 q3 (Nat.le_refl _)
      | inr q =>
        obtain ⟨p', l⟩ := q
        rw [hr] at hI
        obtain ⟨k, g2, r1, r2, r3, r4, r5⟩ := hI
        refine ⟨k + 1, g2, by omega, fun n => by rw [← Nat.add_assoc, q1, r2], ?_, ?_, q3.trans r5 (Nat.le_refl _)⟩
        · rw [show c + List.length (l ++ [(20033 : Int)]) + j = c + l.length + (j + 1) by simp only [List.length_append, List.length_cons, List.length_nil]; omega, show (8 : Int) - ((d + 1 : Nat) : Int) - (j : Int) = 8 - (d : Int) - ((j + 1 : Nat) : Int) by omega]
          exact r3
        · rw [List.append_assoc]
          exact r4
    by_cases c4 : zco b len p = 28
    case neg => exact hlit (d + 1) p c j Q g hd S hQ hc hL hj c3 c4
    have hlt := zco_ne (b := b) (len := len) hp (by omega)
    rw [if_neg (by omega), if_neg (by omega), if_neg c3, if_pos c4] at hB
    have hPl : (List.replicate j (2 : Int) ++ Q).length = j + Q.length := by rw [List.length_append, List.length_replicate]
    obtain ⟨g1, q1, q2, q3⟩ := zopn_r 40 hN hd (by decide) (by rw [hPl]; omega) S hB
    have G3 := zsmR_r hN ht (by omega) (fun p hp => zjn_g (by decide) (zone_g d) p hp) hl (zprd_r hN ht (by omega) (zone_g d) hl (ih (by omega)))
    have hI := G3 (zne b len p) c (40 :: (List.replicate j 2 ++ Q)) g1 q2 (fun x P' h => (List.cons.inj h).1.symm) (by simp only [List.length_cons]; rw [hPl]; omega) (by simp only [List.length_cons]; rw [hPl]; omega)
    have hgs := zsm_g (b := b) (len := len) (cl := so) d (zne b len p) hb2.2.1
    rw [zoneU_p d p c4]
    cases hr : zsmR b len (zone b len so d) (zne b len p) with
    | inl e =>
      rw [hr] at hI
      exact zFlt_p hI (by omega : 1 + p ≤ zne b len p) q1 q3 (Nat.le_refl _)
    | inr q =>
      obtain ⟨p', l⟩ := q
      rw [hr] at hI hgs
      obtain ⟨g1', g2', g3'⟩ := hgs
      obtain ⟨k, g2, ops, e, r1, r2, r3, r4, r5, r6, r7, r8, r9, r10⟩ := hI
      have hle : l.length = e.length + ops.length := by rw [r6, List.length_append, List.length_map]
      have hpl2 : (ops ++ 40 :: (List.replicate j (2 : Int) ++ Q)).length = ops.length + (j + Q.length + 1) := by rw [List.length_append, List.length_cons, hPl]
      have hL1 : ∀ n, sh_Mo_summed_L6 N (n + (k + 1)) g = sh_Mo_summed_L6 N n g2 := fun n => by rw [← Nat.add_assoc, q1, r2]
      have f2 : zFR t c g g2 := q3.trans r8 (Nat.le_refl _)
      have hgo := zgo_r hN (by rw [hpl2]; omega) r3
      obtain ⟨g3, u1, u2, u3, u4⟩ := zstl_r (w := 1) N 3 ht (by decide) (Q := 40 :: (List.replicate j 2 ++ Q)) (fun x Q' h => Or.inl (by rw [← (List.cons.inj h).1]; decide)) ops N (c + e.length) g2 r4 r3 (by omega) (by rw [hpl2]; omega) (by omega)
      have us : sh_Mo_settle N 3 g2 = some g3 := by
        unfold sh_Mo_settle
        exact congrArg (fun o => zb1 o fun h14 => some h14) u1
      have hE3 : zEm g3 t c l := by rw [r6]; exact zEm_app r7 u3 u4
      have f3 : zFR t c g g3 := f2.trans u3 (by omega)
      show match (if zco b len p' = 29 then (.inr (zne b len p', l) : zR) else .inl (1, zPl2 b len p')) with
        | .inl e => zFlt N len t c p g e
        | .inr (p', l) => ∃ k g1, k + p ≤ p' ∧ (∀ n, sh_Mo_summed_L6 N (n + k) g = sh_Mo_summed_L6 N n g1) ∧ zRS g1 b len t so p' (c + l.length + j) (8 - ((d + 1 : Nat) : Int) - j) 1 Q ∧ zEm g1 t c (l ++ List.replicate j 20033) ∧ zFR t c g g1
      by_cases c29 : zco b len p' = 29
      · rw [if_pos c29]
        have hp' : p' ≤ len := g2'
        have hb3 := zne_b (b := b) (len := len) hp'
        have hlt3 := zco_ne (b := b) (len := len) hp' (by omega)
        rw [if_pos (Or.inr (Or.inr ⟨c29, List.mem_append.mpr (Or.inr List.mem_cons_self)⟩))] at hgo
        have hT := zTK_s r3.1.2.1
        have hu := u2
        obtain ⟨-, -, v6, v7, v8, v9, v10⟩ := hu
        simp only [List.length_cons] at v9
        have e17 : w32 (((List.replicate j (2 : Int) ++ Q).length + 1 : Nat) - 1) = ((List.replicate j (2 : Int) ++ Q).length : Int) := by rw [w32_s (by omega) (by omega)]; omega
        have S4 : zRS (zst g3 85 17 ((List.replicate j (2 : Int) ++ Q).length : Int)) b len t so p' (c + e.length + ops.length) (8 - (d : Int)) 1 (List.replicate j 2 ++ Q) := zRS_st u2 (Or.inr (Or.inl rfl)) (by rw [zst_if, if_pos rfl, zup1_ne _ _ (by decide)]; exact v6) (by rw [zst_if, if_pos rfl, zup1_eq]) (by rw [zst_if, if_pos rfl, zup1_ne _ _ (by decide)]; exact v7) (by rw [zst_if, if_pos rfl, zup1_ne _ _ (by decide)]; exact v8) v10.2
        have hS4 := S4
        obtain ⟨-, -, w6, w7, w8, w9, w10⟩ := hS4
        have S5 : zRS (zst (zst g3 85 17 ((List.replicate j (2 : Int) ++ Q).length : Int)) 85 18 (8 - (d : Int) - 1)) b len t so p' (c + e.length + ops.length) (8 - (d : Int) - 1) 1 (List.replicate j 2 ++ Q) := zRS_st S4 (Or.inr (Or.inr (Or.inl rfl))) (by rw [zst_if, if_pos rfl, zup1_ne _ _ (by decide)]; exact w6) (by rw [zst_if, if_pos rfl, zup1_ne _ _ (by decide)]; exact w9) (by rw [zst_if, if_pos rfl, zup1_eq]) (by rw [zst_if, if_pos rfl, zup1_ne _ _ (by decide)]; exact w8) w10
        obtain ⟨g4, x1, x2, x3, x4⟩ := zwh_r hN ht hQ S5 (by omega) (by omega) (by omega)
        obtain ⟨g5, y1, y2, y3, y4⟩ := zRS_nxt hN x2
        have f5 : zFR t (c + e.length + ops.length) g3 g5 := ((((zFR.refl g3).st (by decide)).st (by decide)).trans x3 (Nat.le_refl _)).trans y3 (by omega)
        have hbh : sh_Mo_behindOne N g2 = some (0, g5) := by
          have t41 := hT.2.2.2.1.mpr c29
          unfold sh_Mo_behindOne
          rw [if_neg (by omega), if_neg (by omega), if_neg (by omega), if_neg (by omega), us]
          simp only [zb1_some]
          rw [v9, e17, w7, w32_s (a := 8 - (d : Int) - 1) (by omega) (by omega), x1]
          simp only [zb1_some]
          rw [y1]
          rfl
        refine ⟨k + 1 + 1, g5, by omega, fun n => ?_, ?_, ?_, f3.trans f5 (by omega)⟩
        · rw [show n + (k + 1 + 1) = n + 1 + (k + 1) by omega, hL1, zL6_1 r3.2.2.2.2.1 hgo, hbh]
          simp only [zb2_some]
          rw [if_pos trivial]
        · rw [hle, show c + (e.length + ops.length) + j = c + e.length + ops.length + j by omega, show (8 : Int) - ((d + 1 : Nat) : Int) - (j : Int) = 8 - (d : Int) - 1 - (j : Int) by omega]
          exact y2
        · refine zEm_app hE3 ?_ ?_
          · rw [hle, show c + (e.length + ops.length) = c + e.length + ops.length by omega]; exact f5
          · rw [hle, show c + (e.length + ops.length) = c + e.length + ops.length by omega]
            exact zEm_k x4 y4
      · rw [if_neg c29]
        have hn : ¬ (zJ3 (zco b len p') = true ∨ zJ2 (zco b len p') = true ∨ (zco b len p' = 29 ∧ (40 : Int) ∈ ops ++ 40 :: (List.replicate j 2 ++ Q))) := by
          rintro (q | q | q)
          · rw [r10] at q; exact absurd q (by decide)
          · rw [r9] at q; exact absurd q (by decide)
          · exact c29 q.1
        rw [if_neg hn] at hgo
        refine ⟨k + 1 + 1, g3, by omega, fun n => ?_, u2.1.2.1.1.2, f3⟩
        rw [show n + (k + 1 + 1) = n + 1 + (k + 1) by omega, hL1, zL6_e r3.2.2.2.2.1 hgo]
        show (zb1 (sh_Mo_settle N 3 g2) fun h55 => some ((if h55 85 17 ≤ 0 then 0 else 1 : Int), h55)) = _
        rw [us]
        simp only [zb1_some]
        rw [u2.2.2.2.2.2.1, if_neg (by simp only [List.length_cons]; omega)]
