/-! PURE: text, the class's step -/
def zstb : List (List Int) → Nat → Bool
  | [], c => decide (c = 98)
  | w :: ws, c => (List.range w.length).all (fun i => decide (zchr 0 ((c + i : Nat) : Int) = (w[i]?).getD 0 ∧ zchr 0 ((c + i : Nat) : Int) ≠ 32)) && decide (zchr 0 ((c + w.length : Nat) : Int) = 32 ∧ c + w.length < 98 ∧ w.length ≠ 0) && zstb ws (c + w.length + 1)
theorem zstb_W : zstb zWds 0 = true := by decide +kernel
theorem zwa_3 {b : zFn} {h : zHp} (N : Nat) (h25 : h 25 = b) {s e : Nat} (hs : s ≤ e) (he : e ≤ 300) : ∀ (ws : List (List Int)) (c n : Nat) (k : Int), zstb ws c = true → 99 ≤ n + c → 0 ≤ k → k + ws.length < 100 →
    (zb1 (sh_Reader_wordAt_L8 N h n (s : Int) (e : Int) k (s : Int) 1 (c : Int)) fun w15 => zsum2 w15 (zcu1 fun y16 => some y16) (zcu1 fun _ => some (36 : Int))) = some (zwx ws k (zBy b (e - s) s)) := by
  intro ws
  induction ws with
  | nil =>
    intro c n k hw hn hk hk2
    obtain rfl : c = 98 := of_decide_eq_true hw
    obtain ⟨n, rfl⟩ : ∃ m, n = m + 1 := ⟨n - 1, by omega⟩
    unfold sh_Reader_wordAt_L8
    rw [if_pos (by decide)]
    rfl
  | cons w ws ih =>
    intro c n k hw hn hk hk2
    rw [zstb, Bool.and_eq_true, Bool.and_eq_true] at hw
    obtain ⟨⟨w1, w2⟩, w3⟩ := hw
    obtain ⟨v1, v2, v3⟩ := of_decide_eq_true w2
    simp only [List.length_cons] at hk2
    obtain ⟨m, rfl⟩ : ∃ m, n = m + w.length + 1 := ⟨n - w.length - 1, by omega⟩
    rw [zwa_2 N h25 hs he k ⟨hk, by omega⟩ w c m (fun i hi => of_decide_eq_true (List.all_eq_true.mp w1 i (List.mem_range.mpr hi))) v1 v2 (fun q => v3 (by rw [q]; rfl))]
    unfold zwx
    by_cases c1 : zBy b (e - s) s = w
    · rw [if_pos c1, if_pos c1]; rfl
    · rw [if_neg c1, if_neg c1]
      exact ih (c + w.length + 1) m (k + 1) w3 (by omega) (by omega) (by omega)
theorem zwa_c {b : zFn} {h : zHp} {N : Nat} (hN : 1300 ≤ N) (h25 : h 25 = b) {s e : Nat} (hs : s ≤ e) (he : e ≤ 300) : sh_Reader_wordAt N (s : Int) (e : Int) h = some (zwx zWds 0 (zBy b (e - s) s)) := by
  unfold sh_Reader_wordAt
  exact zwa_3 N h25 hs he zWds 0 N 0 zstb_W (by omega) (by decide) (by decide)
def zsF (x : Int) : Nat → Nat → Int → Int
  | 0, _, v => v
  | d + 1, i, v => zsF x d (i + 1) (if zchr 1 (i : Int) = x then w32 (20 + (i : Int)) else v)
theorem zsF_c (c : Int) : zsF c 11 0 36 = zsg c := by
  have e : ∀ i : Nat, i < 11 → zchr 1 (i : Int) = ([60, 62, 61, 35, 43, 45, 42, 47, 40, 41, 59][i]?).getD 0 ∧ w32 (20 + (i : Int)) = 20 + (i : Int) := by decide +kernel
  simp only [zsF, Nat.zero_add, Nat.reduceAdd]
  simp only [(e 0 (by decide)).1, (e 1 (by decide)).1, (e 2 (by decide)).1, (e 3 (by decide)).1, (e 4 (by decide)).1, (e 5 (by decide)).1, (e 6 (by decide)).1, (e 7 (by decide)).1, (e 8 (by decide)).1, (e 9 (by decide)).1, (e 10 (by decide)).1, (e 0 (by decide)).2, (e 1 (by decide)).2, (e 2 (by decide)).2, (e 3 (by decide)).2, (e 4 (by decide)).2, (e 5 (by decide)).2, (e 6 (by decide)).2, (e 7 (by decide)).2, (e 8 (by decide)).2, (e 9 (by decide)).2, (e 10 (by decide)).2]
  show (if (59 : Int) = c then (30 : Int) else if (41 : Int) = c then 29 else if (40 : Int) = c then 28 else if (47 : Int) = c then 27 else if (42 : Int) = c then 26 else if (45 : Int) = c then 25 else if (43 : Int) = c then 24 else if (35 : Int) = c then 23 else if (61 : Int) = c then 22 else if (62 : Int) = c then 21 else if (60 : Int) = c then 20 else 36) = zsg c
  unfold zsg
  by_cases h1 : c = 60
  · subst h1; decide
  by_cases h2 : c = 62
  · subst h2; decide
  by_cases h3 : c = 61
  · subst h3; decide
  by_cases h4 : c = 35
  · subst h4; decide
  by_cases h5 : c = 43
  · subst h5; decide
  by_cases h6 : c = 45
  · subst h6; decide
  by_cases h7 : c = 42
  · subst h7; decide
  by_cases h8 : c = 47
  · subst h8; decide
  by_cases h9 : c = 40
  · subst h9; decide
  by_cases h10 : c = 41
  · subst h10; decide
  by_cases h11 : c = 59
  · subst h11; decide
  rw [if_neg (fun q => h11 q.symm), if_neg (fun q => h10 q.symm), if_neg (fun q => h9 q.symm), if_neg (fun q => h8 q.symm), if_neg (fun q => h7 q.symm), if_neg (fun q => h6 q.symm), if_neg (fun q => h5 q.symm), if_neg (fun q => h4 q.symm), if_neg (fun q => h3 q.symm), if_neg (fun q => h2 q.symm), if_neg (fun q => h1 q.symm), if_neg h1, if_neg h2, if_neg h3, if_neg h4, if_neg h5, if_neg h6, if_neg h7, if_neg h8, if_neg h9, if_neg h10, if_neg h11]
theorem zsgL_c (N : Nat) (x : Int) : ∀ (d n i : Nat) (h : zHp), i + d = 11 → d < n → ∃ h1, sh_Reader_takeSign_L11 N n x (i : Int) h = some h1 ∧ h1 67 10 = zsF x d i (h 67 10) ∧ zF67 [10] h h1 := by
  intro d
  induction d with
  | zero =>
    intro n i h hi hn
    obtain ⟨n, rfl⟩ : ∃ m, n = m + 1 := ⟨n - 1, by omega⟩
    refine ⟨h, ?_, rfl, zF67.refl h⟩
    unfold sh_Reader_takeSign_L11
    rw [if_pos (by omega)]
  | succ d ih =>
    intro n i h hi hn
    obtain ⟨n, rfl⟩ : ∃ m, n = m + 1 := ⟨n - 1, by omega⟩
    have e1 : w32 ((i : Int) + 1) = ((i + 1 : Nat) : Int) := by rw [w32_s (by omega) (by omega)]; omega
    unfold sh_Reader_takeSign_L11
    rw [if_neg (c := 11 ≤ (i : Int)) (by omega), if_pos (c := 0 ≤ (i : Int) ∧ (i : Int) < 11) (by omega), e1]
    rw [show zsF x (d + 1) i (h 67 10) = zsF x d (i + 1) (if zchr 1 (i : Int) = x then w32 (20 + (i : Int)) else h 67 10) from rfl]
    by_cases c : zchr 1 (i : Int) = x
    · rw [if_pos c, if_pos c]
      obtain ⟨h1, r1, r2, r3⟩ := ih n (i + 1) (zst h 67 10 (w32 (20 + (i : Int)))) (by omega) (by omega)
      refine ⟨h1, r1, ?_, ((zF67.refl h).st (by decide)).trans r3⟩
      rw [r2, zst_if, if_pos rfl, zup1_eq]
    · rw [if_neg c, if_neg c]
      exact ih n (i + 1) h (by omega) (by omega)
theorem zsg_20 (c : Int) : (zsg c = 20 ↔ c = 60) ∧ (zsg c = 21 ↔ c = 62) := by
  unfold zsg
  constructor
  · repeat' split
    all_goals constructor <;> intro q <;> omega
  · repeat' split
    all_goals constructor <;> intro q <;> omega
/-- the class steps -/
theorem zstp_c {b : zFn} {len p : Nat} {h : zHp} {N : Nat} (hN : 1300 ≤ N) (hl : len ≤ 300) (hp : p ≤ len) (h25 : h 25 = b) (h4 : h 67 4 = len) (h9 : h 67 9 = p) :
    ∃ h1, sh_Reader_step N h = some h1 ∧ h1 67 8 = (zPl2 b len p : Int) ∧ h1 67 9 = (zne b len p : Int) ∧ h1 67 10 = zco b len p ∧ (zco b len p = 34 → h1 67 11 = znu b len p) ∧ zF67 [8, 9, 10, 11] h h1 := by
  obtain ⟨h1, p1, p2, p3⟩ := zstL_c (b := b) (len := len) N hl (len - p) N 0 p h rfl h25 h4 h9 (Nat.zero_le _) hp (by omega)
  have hs : zru zbk b len p = zPl2 b len p := rfl
  have hsb := (zne_b (b := b) (len := len) hp)
  rw [hs] at p2
  obtain ⟨h2, e2⟩ : ∃ h2, zst h1 67 8 (h1 67 9) = h2 := ⟨_, rfl⟩
  have f2 : zF67 [8, 9, 10, 11] h h2 := by rw [← e2]; exact (p3.mono (by simp)).st (by decide)
  have v8 : h2 67 8 = (zPl2 b len p : Int) := by rw [← e2, zst_if, if_pos rfl, zup1_eq]; exact p2
  have v9 : h2 67 9 = (zPl2 b len p : Int) := by rw [← e2, zst_if, if_pos rfl, zup1_ne _ _ (by decide)]; exact p2
  have v4 : h2 67 4 = len := by rw [f2.2 4 (by decide)]; exact h4
  have v25 : h2 25 = b := by rw [f2.1 25 (by decide)]; exact h25
  unfold zco zCo1 znu zne zNx1
  generalize zPl2 b len p = s at *
  have hstep : sh_Reader_step N h = (if h2 67 9 < h2 67 4 then (if sh_Reader_isLetter (rget h2 25 300 (h2 67 9)) = 0 then (if sh_Reader_isFigure (rget h2 25 300 (h2 67 9)) = 0 then zb1 (sh_Reader_takeSign N (rget h2 25 300 (h2 67 9)) h2) fun h41 => some h41 else zb1 (sh_Reader_takeNumber N h2) fun h47 => some h47) else zb1 (sh_Reader_passLetters N h2) fun h53 => zb1 (sh_Reader_wordAt N (h53 67 8) (h53 67 9) h53) fun r59 => some (zst h53 67 10 r59)) else some (zst h2 67 10 35)) := by
    have hgo : ∀ K : zHp → Option zHp, zb1 (sh_Reader_step_L2 N N 0 h) K = K h1 := fun K => (congrArg (fun o => zb1 o K) p1).trans rfl
    unfold sh_Reader_step
    rw [hgo]
    rw [e2]
  rw [hstep, v9, v4]
  by_cases c0 : len ≤ s
  · rw [if_neg (by omega), if_pos c0, if_pos c0]
    refine ⟨_, rfl, ?_, ?_, ?_, fun q => absurd q (by decide), f2.st (by decide)⟩
    · rw [zst_if, if_pos rfl, zup1_ne _ _ (by decide)]; exact v8
    · rw [zst_if, if_pos rfl, zup1_ne _ _ (by decide)]; exact v9
    · rw [zst_if, if_pos rfl, zup1_eq]
  rw [if_pos (by omega), if_neg c0, if_neg c0, rget_in (by omega) (by omega), v25, Int.toNat_natCast]
  simp only [islt_z, isdt_z]
  by_cases c1 : zlt (b s) = true
  · rw [if_neg (fun q => q c1), if_pos c1, if_pos c1]
    obtain ⟨h3, q1, q2, q3⟩ := zleL_c (b := b) (len := len) N hl (len - s) N 0 s h2 rfl v25 v4 v9 (Nat.zero_le _) (by omega) (by omega)
    have hz := zru_b (P := zlt) (b := b) (len := len) (p := s)
    have q8 : h3 67 8 = s := by rw [q3.2 8 (by decide)]; exact v8
    have hw := zwa_c (b := b) (h := h3) hN (by rw [q3.1 25 (by decide)]; exact v25) (s := s) (e := zru zlt b len s) hz.1 (by omega)
    refine ⟨zst h3 67 10 (zwx zWds 0 (zBy b (zru zlt b len s - s) s)), ?_, ?_, ?_, ?_, fun q => ?_, (f2.trans (q3.mono (by simp))).st (by decide)⟩
    · unfold sh_Reader_passLetters
      refine (congrArg (fun o => zb1 (zb1 o fun h13 => some h13) fun h53 => zb1 (sh_Reader_wordAt N (h53 67 8) (h53 67 9) h53) fun r59 => some (zst h53 67 10 r59)) q1).trans ?_
      simp only [zb1_some]
      rw [q8, q2, hw]
      rfl
    · rw [zst_if, if_pos rfl, zup1_ne _ _ (by decide)]; exact q8
    · rw [zst_if, if_pos rfl, zup1_ne _ _ (by decide)]; exact q2
    · rw [zst_if, if_pos rfl, zup1_eq]
    · have := zwx_r zWds 0 (zBy b (zru zlt b len s - s) s)
      have h19 : (zWds.length : Int) = 19 := rfl
      omega
  rw [if_pos c1, if_neg c1, if_neg c1]
  by_cases c2 : zdt (b s) = true
  · rw [if_neg (fun q => q c2), if_pos c2, if_pos c2]
    obtain ⟨h3, q1, q2, q3, q4⟩ := zdgL_c (b := b) (len := len) N hl (len - s) N 0 s 0 (zst (zst h2 67 10 34) 67 11 0) rfl (by rw [zst_if, if_neg (by decide), zst_if, if_neg (by decide)]; exact v25) (by rw [zst_if, if_pos rfl, zup1_ne _ _ (by decide), zst_if, if_pos rfl, zup1_ne _ _ (by decide)]; exact v4) (by rw [zst_if, if_pos rfl, zup1_ne _ _ (by decide), zst_if, if_pos rfl, zup1_ne _ _ (by decide)]; exact v9) (by rw [zst_if, if_pos rfl, zup1_eq]) (by omega) (Nat.zero_le _) (by omega) (by omega)
    refine ⟨h3, ?_, ?_, q2, ?_, fun _ => q3, (((f2.st (by decide)).st (by decide)).trans (q4.mono (by simp)))⟩
    · unfold sh_Reader_takeNumber
      exact congrArg (fun o => zb1 (zb1 o fun h17 => some h17) fun h47 => some h47) q1
    · rw [q4.2 8 (by decide), zst_if, if_pos rfl, zup1_ne _ _ (by decide), zst_if, if_pos rfl, zup1_ne _ _ (by decide)]; exact v8
    · rw [q4.2 10 (by decide), zst_if, if_pos rfl, zup1_ne _ _ (by decide), zst_if, if_pos rfl, zup1_eq]
  rw [if_pos c2, if_neg c2, if_neg c2]
  have e9 : w32 ((s : Int) + 1) = ((s + 1 : Nat) : Int) := by rw [w32_s (by omega) (by omega)]; omega
  obtain ⟨h3, q1, q2, q3⟩ := zsgL_c N (b s) 11 N 0 (zst (zst h2 67 9 (w32 ((h2 67 9) + 1))) 67 10 36) (by decide) (by omega)
  rw [zst_if, if_pos rfl, zup1_eq, zsF_c] at q2
  have w9 : h3 67 9 = ((s + 1 : Nat) : Int) := by rw [q3.2 9 (by decide), zst_if, if_pos rfl, zup1_ne _ _ (by decide), zst_if, if_pos rfl, zup1_eq, v9, e9]
  have w8 : h3 67 8 = s := by rw [q3.2 8 (by decide), zst_if, if_pos rfl, zup1_ne _ _ (by decide), zst_if, if_pos rfl, zup1_ne _ _ (by decide)]; exact v8
  have w4 : h3 67 4 = len := by rw [q3.2 4 (by decide), zst_if, if_pos rfl, zup1_ne _ _ (by decide), zst_if, if_pos rfl, zup1_ne _ _ (by decide)]; exact v4
  have w25 : h3 25 = b := by rw [q3.1 25 (by decide), zst_if, if_neg (by decide), zst_if, if_neg (by decide)]; exact v25
  have f3 : zF67 [8, 9, 10, 11] h h3 := ((f2.st (by decide)).st (by decide)).trans (q3.mono (by simp))
  have hts : ∀ G : zHp → zHp, (zb1 (sh_Reader_takeSign N (b s) h2) fun h41 => some h41) = if (len : Int) ≤ ((s + 1 : Nat) : Int) then some h3 else if rget h3 25 300 ((s + 1 : Nat) : Int) = 61 then (if zsg (b s) = 20 then some (zst (zst h3 67 9 (w32 (((s + 1 : Nat) : Int) + 1))) 67 10 31) else if zsg (b s) = 21 then some (zst (zst h3 67 9 (w32 (((s + 1 : Nat) : Int) + 1))) 67 10 32) else some h3) else some h3 := by
    intro _
    have hgo : ∀ K : zHp → Option zHp, zb1 (sh_Reader_takeSign_L11 N N (b s) 0 (zst (zst h2 67 9 (w32 ((h2 67 9) + 1))) 67 10 36)) K = K h3 := fun K => (congrArg (fun o => zb1 o K) q1).trans rfl
    unfold sh_Reader_takeSign
    rw [hgo]
    rw [w4, w9, q2]
    have e10 : zst h3 67 9 (w32 (((s + 1 : Nat) : Int) + 1)) 67 10 = zsg (b s) := by rw [zst_if, if_pos rfl, zup1_ne _ _ (by decide)]; exact q2
    rw [e10]
    by_cases d1 : (len : Int) ≤ ((s + 1 : Nat) : Int)
    · rw [if_pos d1, if_pos d1]; rfl
    · rw [if_neg d1, if_neg d1]
      by_cases d2 : rget h3 25 300 ((s + 1 : Nat) : Int) = 61
      · rw [if_pos d2, if_pos d2]
        by_cases d3 : zsg (b s) = 20
        · rw [if_pos d3, if_pos d3, if_pos d3]; rfl
        · by_cases d4 : zsg (b s) = 21
          · simp only [if_neg d3, if_pos d4]; rfl
          · simp only [if_neg d3, if_neg d4]; rfl
      · rw [if_neg d2, if_neg d2]; rfl
  rw [hts (fun h => h)]
  have hsg := zsg_20 (b s)
  by_cases c3 : zeq b len s = true
  · have h3' := of_decide_eq_true c3
    rw [if_pos c3, if_pos c3, if_neg (by omega), rget_in (by omega) (by omega), w25, Int.toNat_natCast, if_pos h3'.2.2]
    have e92 : w32 (((s + 1 : Nat) : Int) + 1) = ((s + 2 : Nat) : Int) := by rw [w32_s (by omega) (by omega)]; omega
    rw [e92]
    by_cases d3 : b s = 60
    · rw [if_pos (hsg.1.mpr d3), if_pos d3]
      refine ⟨_, rfl, ?_, ?_, ?_, fun q => absurd q (by decide), (f3.st (by decide)).st (by decide)⟩
      · rw [zst_if, if_pos rfl, zup1_ne _ _ (by decide), zst_if, if_pos rfl, zup1_ne _ _ (by decide)]; exact w8
      · rw [zst_if, if_pos rfl, zup1_ne _ _ (by decide), zst_if, if_pos rfl, zup1_eq]
      · rw [zst_if, if_pos rfl, zup1_eq]
    · rw [if_neg (fun q => d3 (hsg.1.mp q)), if_pos (hsg.2.mpr (h3'.1.resolve_left d3)), if_neg d3]
      refine ⟨_, rfl, ?_, ?_, ?_, fun q => absurd q (by decide), (f3.st (by decide)).st (by decide)⟩
      · rw [zst_if, if_pos rfl, zup1_ne _ _ (by decide), zst_if, if_pos rfl, zup1_ne _ _ (by decide)]; exact w8
      · rw [zst_if, if_pos rfl, zup1_ne _ _ (by decide), zst_if, if_pos rfl, zup1_eq]
      · rw [zst_if, if_pos rfl, zup1_eq]
  · rw [if_neg c3, if_neg c3]
    have hres : (if (len : Int) ≤ ((s + 1 : Nat) : Int) then some h3 else if rget h3 25 300 ((s + 1 : Nat) : Int) = 61 then (if zsg (b s) = 20 then some (zst (zst h3 67 9 (w32 (((s + 1 : Nat) : Int) + 1))) 67 10 31) else if zsg (b s) = 21 then some (zst (zst h3 67 9 (w32 (((s + 1 : Nat) : Int) + 1))) 67 10 32) else some h3) else some h3) = some h3 := by
      by_cases d1 : (len : Int) ≤ ((s + 1 : Nat) : Int)
      · rw [if_pos d1]
      · rw [if_neg d1, rget_in (by omega) (by omega), w25, Int.toNat_natCast]
        by_cases d2 : b (s + 1) = 61
        · rw [if_pos d2, if_neg (fun q => c3 (decide_eq_true ⟨Or.inl (hsg.1.mp q), by omega, d2⟩)), if_neg (fun q => c3 (decide_eq_true ⟨Or.inr (hsg.2.mp q), by omega, d2⟩))]
        · rw [if_neg d2]
    rw [hres]
    refine ⟨h3, rfl, w8, w9, q2, fun q => ?_, f3⟩
    have := zsg_r (b s)
    omega
