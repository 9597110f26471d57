/-! the constructors: their tables and an interpreter for them, by program (wip/whole/con.py) -/
def zm_Herd_init : zMeth := (0, [(0, (3, 0, [0])), (1, (66, 0, [5])), (4, (3, 0, [0])), (5, (64, 0, [11, 6])), (8, (32, 0, [])), (9, (0, 71, [])), (11, (63, 0, [13, 69])), (14, (41, 0, [16, 0, 0])), (17, (3, 0, [0])), (18, (40, 0, [16, 0, 0])), (21, (0, 0, [])), (22, (0, 6, [])), (24, (49, 0, [20, 71])), (27, (53, 0, []))])
def zm_Laws_init : zMeth := (16, [(0, (3, 0, [0])), (1, (66, 0, [3])), (4, (3, 0, [0])), (5, (3, 0, [1])), (6, (41, 0, [9, 1, 0])), (9, (3, 0, [0])), (10, (3, 0, [2])), (11, (41, 0, [15, 1, 1])), (14, (3, 0, [0])), (15, (64, 0, [19, 6])), (18, (32, 0, [])), (19, (0, 11, [])), (21, (63, 0, [23, 69])), (24, (41, 0, [26, 1, 2])), (27, (3, 0, [0])), (28, (64, 0, [19, 6])), (31, (32, 0, [])), (32, (0, 64, [])), (34, (63, 0, [23, 69])), (37, (41, 0, [30, 1, 3])), (40, (53, 0, []))])
def zm_Odds_init : zMeth := (27, [(0, (3, 0, [0])), (1, (66, 0, [3])), (4, (3, 0, [0])), (5, (3, 0, [1])), (6, (41, 0, [9, 2, 0])), (9, (3, 0, [0])), (10, (3, 0, [2])), (11, (41, 0, [15, 2, 1])), (14, (53, 0, []))])
def zm_Pitches_init : zMeth := (33, [(0, (3, 0, [0])), (1, (66, 0, [3])), (4, (3, 0, [0])), (5, (3, 0, [1])), (6, (41, 0, [9, 3, 0])), (9, (3, 0, [0])), (10, (3, 0, [2])), (11, (41, 0, [15, 3, 1])), (14, (3, 0, [0])), (15, (64, 0, [19, 6])), (18, (32, 0, [])), (19, (0, 50, [])), (21, (63, 0, [21, 69])), (24, (41, 0, [24, 3, 2])), (27, (3, 0, [0])), (28, (64, 0, [19, 6])), (31, (32, 0, [])), (32, (0, 5, [])), (33, (63, 0, [21, 69])), (36, (41, 0, [28, 3, 3])), (39, (3, 0, [0])), (40, (64, 0, [19, 6])), (43, (32, 0, [])), (44, (0, 5, [])), (45, (63, 0, [21, 69])), (48, (41, 0, [31, 3, 4])), (51, (53, 0, []))])
def zm_Planner_init : zMeth := (39, [(0, (3, 0, [0])), (1, (66, 0, [3])), (4, (3, 0, [0])), (5, (3, 0, [1])), (6, (41, 0, [9, 4, 0])), (9, (3, 0, [0])), (10, (3, 0, [2])), (11, (41, 0, [15, 4, 1])), (14, (3, 0, [0])), (15, (64, 0, [19, 6])), (18, (32, 0, [])), (19, (0, 400, [])), (22, (63, 0, [21, 69])), (25, (41, 0, [24, 4, 2])), (28, (3, 0, [0])), (29, (64, 0, [19, 6])), (32, (32, 0, [])), (33, (0, 1024, [])), (36, (63, 0, [21, 69])), (39, (41, 0, [28, 4, 3])), (42, (3, 0, [0])), (43, (64, 0, [19, 6])), (46, (32, 0, [])), (47, (0, 1024, [])), (50, (63, 0, [21, 69])), (53, (41, 0, [31, 4, 4])), (56, (3, 0, [0])), (57, (64, 0, [19, 6])), (60, (32, 0, [])), (61, (0, 4, [])), (62, (63, 0, [21, 69])), (65, (41, 0, [34, 4, 5])), (68, (53, 0, []))])
def zm_Reader_init : zMeth := (45, [(0, (3, 0, [0])), (1, (66, 0, [3])), (4, (3, 0, [0])), (5, (3, 0, [1])), (6, (41, 0, [9, 5, 0])), (9, (3, 0, [0])), (10, (3, 0, [2])), (11, (41, 0, [15, 5, 1])), (14, (3, 0, [0])), (15, (0, (-1), [])), (16, (41, 0, [19, 5, 2])), (19, (3, 0, [0])), (20, (0, (-1), [])), (21, (41, 0, [23, 5, 3])), (24, (53, 0, []))])
def zm_Row_init : zMeth := (69, [(0, (3, 0, [0])), (1, (66, 0, [1])), (4, (3, 0, [0])), (5, (1, 0, [1])), (6, (36, 0, [5, 7])), (9, (1, 0, [1])), (10, (37, 0, [8])), (13, (0, 0, [])), (14, (67, 0, [0])), (16, (41, 0, [7, 6, 0])), (19, (53, 0, []))])
def zm_Stays_init : zMeth := (74, [(0, (3, 0, [0])), (1, (66, 0, [3])), (4, (3, 0, [0])), (5, (3, 0, [1])), (6, (41, 0, [9, 7, 0])), (9, (3, 0, [0])), (10, (3, 0, [2])), (11, (41, 0, [15, 7, 1])), (14, (3, 0, [0])), (15, (64, 0, [19, 6])), (18, (32, 0, [])), (19, (0, 8, [])), (21, (63, 0, [21, 69])), (24, (41, 0, [24, 7, 2])), (27, (53, 0, []))])
def zm_Steps_init : zMeth := (81, [(0, (3, 0, [0])), (1, (66, 0, [3])), (4, (3, 0, [0])), (5, (64, 0, [9, 6])), (8, (32, 0, [])), (9, (0, 1420, [])), (12, (63, 0, [13, 69])), (15, (41, 0, [16, 8, 0])), (18, (53, 0, []))])
def zm_Texts_init : zMeth := (86, [(0, (3, 0, [0])), (1, (66, 0, [3])), (4, (3, 0, [0])), (5, (64, 0, [9, 6])), (8, (32, 0, [])), (9, (0, 1200, [])), (12, (63, 0, [11, 69])), (15, (41, 0, [14, 9, 0])), (18, (3, 0, [0])), (19, (64, 0, [9, 6])), (22, (32, 0, [])), (23, (0, 20, [])), (25, (63, 0, [11, 69])), (28, (41, 0, [20, 9, 1])), (31, (3, 0, [0])), (32, (64, 0, [9, 6])), (35, (32, 0, [])), (36, (0, 20, [])), (38, (63, 0, [11, 69])), (41, (41, 0, [23, 9, 2])), (44, (53, 0, []))])
def zm_Yard_init : zMeth := (90, [(0, (3, 0, [0])), (1, (66, 0, [3])), (4, (3, 0, [0])), (5, (64, 0, [9, 6])), (8, (32, 0, [])), (9, (0, 5, [])), (10, (63, 0, [11, 69])), (13, (41, 0, [14, 10, 1])), (16, (3, 0, [0])), (17, (64, 0, [9, 6])), (20, (32, 0, [])), (21, (0, 5, [])), (22, (63, 0, [11, 69])), (25, (41, 0, [20, 10, 2])), (28, (3, 0, [0])), (29, (64, 0, [9, 6])), (32, (32, 0, [])), (33, (0, 5, [])), (34, (63, 0, [11, 69])), (37, (41, 0, [23, 10, 3])), (40, (3, 0, [0])), (41, (64, 0, [9, 6])), (44, (32, 0, [])), (45, (0, 4, [])), (46, (63, 0, [11, 69])), (49, (41, 0, [26, 10, 4])), (52, (3, 0, [0])), (53, (64, 0, [9, 6])), (56, (32, 0, [])), (57, (0, 4, [])), (58, (63, 0, [11, 69])), (61, (41, 0, [29, 10, 5])), (64, (3, 0, [0])), (65, (64, 0, [9, 6])), (68, (32, 0, [])), (69, (0, 4, [])), (70, (63, 0, [11, 69])), (73, (41, 0, [32, 10, 6])), (76, (3, 0, [0])), (77, (64, 0, [35, 0])), (80, (32, 0, [])), (81, (63, 0, [37, 0])), (84, (41, 0, [38, 10, 7])), (87, (3, 0, [0])), (88, (64, 0, [42, 8])), (91, (32, 0, [])), (92, (63, 0, [44, 81])), (95, (41, 0, [45, 10, 8])), (98, (3, 0, [0])), (99, (64, 0, [9, 6])), (102, (32, 0, [])), (103, (0, 8, [])), (105, (63, 0, [11, 69])), (108, (41, 0, [49, 10, 10])), (111, (3, 0, [0])), (112, (64, 0, [9, 6])), (115, (32, 0, [])), (116, (0, 8, [])), (118, (63, 0, [11, 69])), (121, (41, 0, [52, 10, 11])), (124, (3, 0, [0])), (125, (0, (-1), [])), (126, (41, 0, [55, 10, 13])), (129, (53, 0, []))])
def zm_Ox_init : zMeth := (94, [(0, (3, 0, [0])), (1, (66, 0, [1])), (4, (64, 0, [7, 10])), (7, (32, 0, [])), (8, (63, 0, [9, 90])), (11, (4, 0, [1])), (12, (64, 0, [10, 6])), (15, (32, 0, [])), (16, (0, 300, [])), (19, (63, 0, [14, 69])), (22, (4, 0, [2])), (23, (64, 0, [17, 9])), (26, (32, 0, [])), (27, (63, 0, [19, 86])), (30, (4, 0, [3])), (31, (64, 0, [20, 1])), (34, (32, 0, [])), (35, (3, 0, [1])), (36, (3, 0, [3])), (37, (63, 0, [22, 16])), (40, (4, 0, [4])), (42, (64, 0, [25, 7])), (45, (32, 0, [])), (46, (3, 0, [1])), (47, (3, 0, [4])), (49, (63, 0, [27, 74])), (52, (4, 0, [5])), (54, (3, 0, [0])), (55, (3, 0, [2])), (56, (41, 0, [30, 11, 0])), (59, (3, 0, [0])), (60, (3, 0, [1])), (61, (41, 0, [34, 11, 2])), (64, (3, 0, [0])), (65, (64, 0, [7, 10])), (68, (32, 0, [])), (69, (63, 0, [9, 90])), (72, (41, 0, [38, 11, 3])), (75, (3, 0, [0])), (76, (64, 0, [41, 0])), (79, (32, 0, [])), (80, (63, 0, [43, 0])), (83, (41, 0, [44, 11, 4])), (86, (3, 0, [0])), (87, (64, 0, [48, 5])), (90, (32, 0, [])), (91, (3, 0, [2])), (92, (3, 0, [3])), (93, (63, 0, [50, 45])), (96, (41, 0, [53, 11, 5])), (99, (3, 0, [0])), (100, (3, 0, [4])), (102, (41, 0, [57, 11, 6])), (105, (3, 0, [0])), (106, (3, 0, [5])), (108, (41, 0, [61, 11, 7])), (111, (3, 0, [0])), (112, (64, 0, [65, 4])), (115, (32, 0, [])), (116, (3, 0, [1])), (117, (3, 0, [5])), (119, (63, 0, [67, 39])), (122, (41, 0, [70, 11, 8])), (125, (3, 0, [0])), (126, (64, 0, [74, 2])), (129, (32, 0, [])), (130, (3, 0, [1])), (131, (3, 0, [4])), (133, (63, 0, [76, 27])), (136, (41, 0, [77, 11, 9])), (139, (3, 0, [0])), (140, (64, 0, [81, 3])), (143, (32, 0, [])), (144, (3, 0, [1])), (145, (3, 0, [4])), (147, (63, 0, [83, 33])), (150, (41, 0, [84, 11, 10])), (153, (53, 0, []))])
def zm_Mo_init : zMeth := (137, [(0, (3, 0, [0])), (1, (66, 0, [1])), (4, (3, 0, [0])), (5, (0, 1061, [])), (8, (67, 0, [0])), (10, (41, 0, [7, 12, 0])), (13, (3, 0, [0])), (14, (0, 1061, [])), (17, (67, 0, [0])), (19, (41, 0, [13, 12, 1])), (22, (3, 0, [0])), (23, (0, 2500, [])), (26, (67, 0, [0])), (28, (41, 0, [16, 12, 2])), (31, (3, 0, [0])), (32, (0, 300, [])), (35, (67, 0, [0])), (37, (41, 0, [19, 12, 3])), (40, (3, 0, [0])), (41, (0, (-1), [])), (42, (41, 0, [22, 12, 5])), (45, (3, 0, [0])), (46, (0, (-1), [])), (47, (41, 0, [26, 12, 6])), (50, (3, 0, [0])), (51, (0, 160, [])), (54, (67, 0, [0])), (56, (41, 0, [29, 12, 16])), (59, (3, 0, [0])), (60, (0, 11, [])), (62, (67, 0, [0])), (64, (41, 0, [32, 12, 22])), (67, (3, 0, [0])), (68, (0, 330, [])), (71, (67, 0, [1])), (73, (41, 0, [35, 12, 23])), (76, (3, 0, [0])), (77, (0, 330, [])), (80, (67, 0, [2])), (82, (41, 0, [39, 12, 24])), (85, (3, 0, [0])), (86, (0, 8, [])), (88, (67, 0, [0])), (90, (41, 0, [43, 12, 25])), (93, (3, 0, [0])), (94, (0, 320, [])), (97, (67, 0, [0])), (99, (41, 0, [46, 12, 26])), (102, (3, 0, [0])), (103, (0, 1280, [])), (106, (67, 0, [0])), (108, (41, 0, [49, 12, 27])), (111, (3, 0, [0])), (112, (0, 50, [])), (114, (67, 0, [2])), (116, (41, 0, [52, 12, 28])), (119, (3, 0, [0])), (120, (0, 5, [])), (121, (67, 0, [0])), (123, (41, 0, [55, 12, 29])), (126, (3, 0, [0])), (127, (0, 5, [])), (128, (67, 0, [0])), (130, (41, 0, [58, 12, 30])), (133, (3, 0, [0])), (134, (0, 8, [])), (136, (67, 0, [0])), (138, (41, 0, [61, 12, 31])), (141, (3, 0, [0])), (142, (0, 8, [])), (144, (67, 0, [0])), (146, (41, 0, [64, 12, 32])), (149, (3, 0, [0])), (150, (40, 0, [7, 12, 0])), (153, (0, 5, [])), (154, (0, (-1), [])), (155, (43, 0, [])), (156, (3, 0, [0])), (157, (40, 0, [7, 12, 0])), (160, (0, 3, [])), (161, (0, 6, [])), (163, (43, 0, [])), (164, (3, 0, [0])), (165, (40, 0, [7, 12, 0])), (168, (3, 0, [0])), (169, (40, 0, [13, 12, 1])), (172, (50, 0, [67, 138])), (175, (53, 0, []))])
def zGm : List zMeth := [zm_Herd_init, zm_Laws_init, zm_Odds_init, zm_Pitches_init, zm_Planner_init, zm_Reader_init, zm_Row_init, zm_Stays_init, zm_Steps_init, zm_Texts_init, zm_Yard_init, zm_Ox_init, zm_Mo_init, zm_Row_put, zm_Mo_copy]
def zGn : List (List Nat) := [[3], [3, 3, 3, 3, 0], [3, 3, 1, 1], [3, 3, 3, 3, 3, 0, 0], [3, 3, 3, 3, 3, 3, 0], [3, 3, 0, 0, 0, 0, 0, 0, 0, 0, 0, 0], [3], [3, 3, 3], [3, 0, 0], [3, 3, 3], [0, 3, 3, 3, 3, 3, 3, 3, 3, 0, 3, 3, 0, 0], [3, 0, 3, 3, 3, 3, 3, 3, 3, 3, 3], [3, 3, 3, 3, 0, 0, 0, 0, 0, 0, 0, 1, 0, 0, 0, 0, 3, 0, 0, 2, 0, 0, 3, 3, 3, 3, 3, 3, 3, 3, 3, 3, 3]]
abbrev zGf : Type := Option zV
abbrev zGc : Type := (Nat × List zGf) ⊕ (Nat × Nat × List (Nat × Int))
def zgz (kd : Nat) : zGf := if kd = 1 then some (.inr (.inl 0)) else if kd < 3 then some (.inl 0) else none
def zgl (w : List (Nat × Int)) (i : Nat) : Int := ((w.find? (fun q => q.1 == i)).map (·.2)).getD 0
def zgwv (n : Nat) : zV → Bool
  | .inr (.inr r) => decide (r < n)
  | _ => true
def zgwj (n : Nat) : zV → Bool
  | .inr (.inr r) => decide (r < n) || decide (r = 9999)
  | _ => true
def zgwc (n : Nat) : zGc → Bool
  | .inl q => q.2.all (fun f => match f with | none => true | some v => zgwv n v)
  | .inr _ => true
def zgw (L S : List zV) (g : List zGc) : Bool := L.all (zgwj g.length) && (S.all (zgwv g.length) && g.all (zgwc g.length))
def zgb (c : Nat) (a b : Int) : Bool := match c with
  | 0 => decide (a = b)
  | 1 => decide (a ≠ b)
  | 2 => decide (a < b)
  | 3 => decide (b ≤ a)
  | 4 => decide (b < a)
  | _ => decide (a ≤ b)
def zgkv : Nat → zV → Bool
  | 0, .inl _ => true
  | 3, .inr (.inr _) => true
  | _, _ => false
def zgs : zV → Bool
  | .inr (.inl _) => false
  | _ => true
/-- what a call asks of its method: no answer, and a cell of its class to run on -/
def zgrc (c : Nat) (M' : zMeth) (S : List zV) (g : List zGc) (na : Nat) : Bool := (zrt M').isNone && ((zhd M').2.2.2.2.2.1 == (c == 50) && (c == 50 || (match S[na - 1]? with
  | some (.inr (.inr r)) => match g[r]? with
    | some (.inl (ci, _)) => ci == (zhd M').1
    | _ => false
  | _ => false)))
def zgo : Nat → Nat → zMeth → Nat → List zV → List zV → List zGc → Nat → Nat → Option (List zGc × Nat × Nat)
  | 0, _, _, _, _, _, _, _, _ => none
  | n + 1, d, M, k, L, S, g, mc, ms =>
    let o := zop M k
    let x := zg o.2.2 0
    let y := zg o.2.2 1
    let z := zg o.2.2 2
    match o.1, S with
    | 0, S => zgo n d M (k + 1) L (.inl o.2.1 :: S) g mc ms
    | 1, S => match L[x]? with
      | some (.inl a) => zgo n d M (k + 1) L (.inl a :: S) g mc ms
      | _ => none
    | 2, .inl a :: S => if x < L.length then zgo n d M (k + 1) (L.set x (.inl a)) S g mc ms else none
    | 3, S => match L[x]? with
      | some (.inr (.inr r)) => if r < g.length then zgo n d M (k + 1) L (.inr (.inr r) :: S) g mc ms else none
      | _ => none
    | 4, .inr (.inr r) :: S => if x < L.length ∧ r < g.length then zgo n d M (k + 1) (L.set x (.inr (.inr r))) S g mc ms else none
    | 7, S => match L[x]? with
      | some (.inl a) => zgo n d M (k + 1) (L.set x (.inl (w32 (a + o.2.1)))) S g mc ms
      | _ => none
    | 32, .inr (.inr r) :: S => if r < g.length then zgo n d M (k + 1) L (.inr (.inr r) :: .inr (.inr r) :: S) g mc ms else none
    | 35, .inl b :: .inl a :: S => zgo n d M (if zgb x a b then y else k + 1) L S g mc ms
    | 36, .inl a :: S => zgo n d M (if zgb x a 0 then y else k + 1) L S g mc ms
    | 37, S => zgo n d M x L S g mc ms
    | 40, .inr (.inr r) :: S => match g[r]? with
      | some (.inl (ci, fs)) => match fs[z]? with
        | some (some v) => if ci = y ∧ zgs v = true then zgo n d M (k + 1) L (v :: S) g mc ms else none
        | _ => none
      | _ => none
    | 41, v :: .inr (.inr r) :: S => match g[r]? with
      | some (.inl (ci, fs)) => if ci = y ∧ z < fs.length ∧ zgkv (zg ((zGn[y]?).getD []) z) v = true then zgo n d M (k + 1) L S (g.set r (.inl (ci, fs.set z (some v)))) mc ms else none
      | _ => none
    | 42, .inl i :: .inr (.inr r) :: S => match g[r]? with
      | some (.inr (kd, N, w)) => if kd = 0 ∧ 0 ≤ i ∧ i < N then zgo n d M (k + 1) L (.inl (zgl w i.toNat) :: S) g mc ms else none
      | _ => none
    | 43, .inl a :: .inl i :: .inr (.inr r) :: S => match g[r]? with
      | some (.inr (kd, N, w)) => if kd = 0 ∧ 0 ≤ i ∧ i < N then zgo n d M (k + 1) L S (g.set r (.inr (kd, N, (if a = zgl w i.toNat then w else (i.toNat, a) :: w)))) mc ms else none
      | _ => none
    | 48, .inr (.inr r) :: S => match g[r]? with
      | some (.inr (_, N, _)) => zgo n d M (k + 1) L (.inl (N : Int) :: S) g mc ms
      | _ => none
    | 53, [] => some (g, mc, ms)
    | 64, S => match zGn[y]? with
      | some ks => if zgw L S g then zgo n d M (k + 1) L (.inr (.inr g.length) :: S) (g ++ [.inl (y, ks.map zgz)]) (mc + 1) (ms + ks.length) else none
      | none => none
    | 66, .inr (.inr r) :: S => if r < g.length ∧ 1 ≤ d ∧ S.length ≤ 8 then zgo n d M (k + 1) L S g mc ms else none
    | 67, .inl a :: S => if 0 ≤ a ∧ a < 100000 ∧ zgw L S g then zgo n d M (k + 1) L (.inr (.inr g.length) :: S) (g ++ [.inr (x, a.toNat, [])]) (mc + 1) (ms + a.toNat) else none
    | c, S => if c = 49 ∨ c = 50 ∨ c = 63 then
        match d, zGm.find? (fun q => q.1 == y) with
        | d + 1, some M' =>
          let na := (zhd M').2.2.2.2.2.2 + (if c = 50 then 0 else 1)
          if zgw L S g ∧ na ≤ S.length ∧ S.length ≤ na + 8 ∧ zgrc c M' S g na = true then
            match zgo n d M' 0 (zla (zml M') (S.take na).reverse) [] g 0 0 with
            | some (g1, mc1, ms1) => zgo n (d + 1) M (k + 1) L (S.drop na) g1 (mc + mc1) (ms + ms1)
            | none => none
          else none
        | _, _ => none
      else none

def zg1 : List zGc := [.inl (11, [some (.inr (.inr 24)), some (.inl 0), some (.inr (.inr 1)), some (.inr (.inr 41)), some (.inr (.inr 64)), some (.inr (.inr 67)), some (.inr (.inr 33)), some (.inr (.inr 38)), some (.inr (.inr 68)), some (.inr (.inr 77)), some (.inr (.inr 78))]), .inl (10, [some (.inl 0), some (.inr (.inr 2)), some (.inr (.inr 4)), some (.inr (.inr 6)), some (.inr (.inr 8)), some (.inr (.inr 10)), some (.inr (.inr 12)), some (.inr (.inr 14)), some (.inr (.inr 17)), some (.inl 0), some (.inr (.inr 20)), some (.inr (.inr 22)), some (.inl 0), some (.inl (-1))]), .inl (6, [some (.inr (.inr 3))]), .inr (0, 5, []), .inl (6, [some (.inr (.inr 5))]), .inr (0, 5, []), .inl (6, [some (.inr (.inr 7))]), .inr (0, 5, []), .inl (6, [some (.inr (.inr 9))]), .inr (0, 4, []), .inl (6, [some (.inr (.inr 11))]), .inr (0, 4, []), .inl (6, [some (.inr (.inr 13))]), .inr (0, 4, []), .inl (0, [some (.inr (.inr 15))]), .inl (6, [some (.inr (.inr 16))]), .inr (0, 71, [(0, 6)]), .inl (8, [some (.inr (.inr 18)), some (.inl 0), some (.inl 0)]), .inl (6, [some (.inr (.inr 19))]), .inr (0, 1420, []), .inl (6, [some (.inr (.inr 21))]), .inr (0, 8, []), .inl (6, [some (.inr (.inr 23))]), .inr (0, 8, []), .inl (6, [some (.inr (.inr 25))]), .inr (0, 300, []), .inl (9, [some (.inr (.inr 27)), some (.inr (.inr 29)), some (.inr (.inr 31))]), .inl (6, [some (.inr (.inr 28))]), .inr (0, 1200, []), .inl (6, [some (.inr (.inr 30))]), .inr (0, 20, []), .inl (6, [some (.inr (.inr 32))]), .inr (0, 20, []), .inl (1, [some (.inr (.inr 1)), some (.inr (.inr 26)), some (.inr (.inr 34)), some (.inr (.inr 36)), some (.inl 0)]), .inl (6, [some (.inr (.inr 35))]), .inr (0, 11, []), .inl (6, [some (.inr (.inr 37))]), .inr (0, 64, []), .inl (7, [some (.inr (.inr 1)), some (.inr (.inr 33)), some (.inr (.inr 39))]), .inl (6, [some (.inr (.inr 40))]), .inr (0, 8, []), .inl (10, [some (.inl 0), some (.inr (.inr 42)), some (.inr (.inr 44)), some (.inr (.inr 46)), some (.inr (.inr 48)), some (.inr (.inr 50)), some (.inr (.inr 52)), some (.inr (.inr 54)), some (.inr (.inr 57)), some (.inl 0), some (.inr (.inr 60)), some (.inr (.inr 62)), some (.inl 0), some (.inl (-1))]), .inl (6, [some (.inr (.inr 43))]), .inr (0, 5, []), .inl (6, [some (.inr (.inr 45))]), .inr (0, 5, []), .inl (6, [some (.inr (.inr 47))]), .inr (0, 5, []), .inl (6, [some (.inr (.inr 49))]), .inr (0, 4, []), .inl (6, [some (.inr (.inr 51))]), .inr (0, 4, []), .inl (6, [some (.inr (.inr 53))]), .inr (0, 4, []), .inl (0, [some (.inr (.inr 55))]), .inl (6, [some (.inr (.inr 56))]), .inr (0, 71, [(0, 6)]), .inl (8, [some (.inr (.inr 58)), some (.inl 0), some (.inl 0)]), .inl (6, [some (.inr (.inr 59))]), .inr (0, 1420, []), .inl (6, [some (.inr (.inr 61))]), .inr (0, 8, []), .inl (6, [some (.inr (.inr 63))]), .inr (0, 8, []), .inl (0, [some (.inr (.inr 65))]), .inl (6, [some (.inr (.inr 66))]), .inr (0, 71, [(0, 6)]), .inl (5, [some (.inr (.inr 24)), some (.inr (.inr 26)), some (.inl (-1)), some (.inl (-1)), some (.inl 0), some (.inl 0), some (.inl 0), some (.inl 0), some (.inl 0), some (.inl 0), some (.inl 0), some (.inl 0)]), .inl (4, [some (.inr (.inr 1)), some (.inr (.inr 38)), some (.inr (.inr 69)), some (.inr (.inr 71)), some (.inr (.inr 73)), some (.inr (.inr 75)), some (.inl 0)]), .inl (6, [some (.inr (.inr 70))]), .inr (0, 400, []), .inl (6, [some (.inr (.inr 72))]), .inr (0, 1024, []), .inl (6, [some (.inr (.inr 74))]), .inr (0, 1024, []), .inl (6, [some (.inr (.inr 76))]), .inr (0, 4, []), .inl (2, [some (.inr (.inr 1)), some (.inr (.inr 33)), some (.inr (.inl 0)), some (.inr (.inl 0))]), .inl (3, [some (.inr (.inr 1)), some (.inr (.inr 33)), some (.inr (.inr 79)), some (.inr (.inr 81)), some (.inr (.inr 83)), some (.inl 0), some (.inl 0)]), .inl (6, [some (.inr (.inr 80))]), .inr (0, 50, []), .inl (6, [some (.inr (.inr 82))]), .inr (0, 5, []), .inl (6, [some (.inr (.inr 84))]), .inr (0, 5, [])]
def zg2 : List zGc := [.inl (11, [some (.inr (.inr 24)), some (.inl 0), some (.inr (.inr 1)), some (.inr (.inr 41)), some (.inr (.inr 64)), some (.inr (.inr 67)), some (.inr (.inr 33)), some (.inr (.inr 38)), some (.inr (.inr 68)), some (.inr (.inr 77)), some (.inr (.inr 78))]), .inl (10, [some (.inl 0), some (.inr (.inr 2)), some (.inr (.inr 4)), some (.inr (.inr 6)), some (.inr (.inr 8)), some (.inr (.inr 10)), some (.inr (.inr 12)), some (.inr (.inr 14)), some (.inr (.inr 17)), some (.inl 0), some (.inr (.inr 20)), some (.inr (.inr 22)), some (.inl 0), some (.inl (-1))]), .inl (6, [some (.inr (.inr 3))]), .inr (0, 5, []), .inl (6, [some (.inr (.inr 5))]), .inr (0, 5, []), .inl (6, [some (.inr (.inr 7))]), .inr (0, 5, []), .inl (6, [some (.inr (.inr 9))]), .inr (0, 4, []), .inl (6, [some (.inr (.inr 11))]), .inr (0, 4, []), .inl (6, [some (.inr (.inr 13))]), .inr (0, 4, []), .inl (0, [some (.inr (.inr 15))]), .inl (6, [some (.inr (.inr 16))]), .inr (0, 71, [(0, 6)]), .inl (8, [some (.inr (.inr 18)), some (.inl 0), some (.inl 0)]), .inl (6, [some (.inr (.inr 19))]), .inr (0, 1420, []), .inl (6, [some (.inr (.inr 21))]), .inr (0, 8, []), .inl (6, [some (.inr (.inr 23))]), .inr (0, 8, []), .inl (6, [some (.inr (.inr 25))]), .inr (0, 300, []), .inl (9, [some (.inr (.inr 27)), some (.inr (.inr 29)), some (.inr (.inr 31))]), .inl (6, [some (.inr (.inr 28))]), .inr (0, 1200, []), .inl (6, [some (.inr (.inr 30))]), .inr (0, 20, []), .inl (6, [some (.inr (.inr 32))]), .inr (0, 20, []), .inl (1, [some (.inr (.inr 1)), some (.inr (.inr 26)), some (.inr (.inr 34)), some (.inr (.inr 36)), some (.inl 0)]), .inl (6, [some (.inr (.inr 35))]), .inr (0, 11, []), .inl (6, [some (.inr (.inr 37))]), .inr (0, 64, []), .inl (7, [some (.inr (.inr 1)), some (.inr (.inr 33)), some (.inr (.inr 39))]), .inl (6, [some (.inr (.inr 40))]), .inr (0, 8, []), .inl (10, [some (.inl 0), some (.inr (.inr 42)), some (.inr (.inr 44)), some (.inr (.inr 46)), some (.inr (.inr 48)), some (.inr (.inr 50)), some (.inr (.inr 52)), some (.inr (.inr 54)), some (.inr (.inr 57)), some (.inl 0), some (.inr (.inr 60)), some (.inr (.inr 62)), some (.inl 0), some (.inl (-1))]), .inl (6, [some (.inr (.inr 43))]), .inr (0, 5, []), .inl (6, [some (.inr (.inr 45))]), .inr (0, 5, []), .inl (6, [some (.inr (.inr 47))]), .inr (0, 5, []), .inl (6, [some (.inr (.inr 49))]), .inr (0, 4, []), .inl (6, [some (.inr (.inr 51))]), .inr (0, 4, []), .inl (6, [some (.inr (.inr 53))]), .inr (0, 4, []), .inl (0, [some (.inr (.inr 55))]), .inl (6, [some (.inr (.inr 56))]), .inr (0, 71, [(0, 6)]), .inl (8, [some (.inr (.inr 58)), some (.inl 0), some (.inl 0)]), .inl (6, [some (.inr (.inr 59))]), .inr (0, 1420, []), .inl (6, [some (.inr (.inr 61))]), .inr (0, 8, []), .inl (6, [some (.inr (.inr 63))]), .inr (0, 8, []), .inl (0, [some (.inr (.inr 65))]), .inl (6, [some (.inr (.inr 66))]), .inr (0, 71, [(0, 6)]), .inl (5, [some (.inr (.inr 24)), some (.inr (.inr 26)), some (.inl (-1)), some (.inl (-1)), some (.inl 0), some (.inl 0), some (.inl 0), some (.inl 0), some (.inl 0), some (.inl 0), some (.inl 0), some (.inl 0)]), .inl (4, [some (.inr (.inr 1)), some (.inr (.inr 38)), some (.inr (.inr 69)), some (.inr (.inr 71)), some (.inr (.inr 73)), some (.inr (.inr 75)), some (.inl 0)]), .inl (6, [some (.inr (.inr 70))]), .inr (0, 400, []), .inl (6, [some (.inr (.inr 72))]), .inr (0, 1024, []), .inl (6, [some (.inr (.inr 74))]), .inr (0, 1024, []), .inl (6, [some (.inr (.inr 76))]), .inr (0, 4, []), .inl (2, [some (.inr (.inr 1)), some (.inr (.inr 33)), some (.inr (.inl 0)), some (.inr (.inl 0))]), .inl (3, [some (.inr (.inr 1)), some (.inr (.inr 33)), some (.inr (.inr 79)), some (.inr (.inr 81)), some (.inr (.inr 83)), some (.inl 0), some (.inl 0)]), .inl (6, [some (.inr (.inr 80))]), .inr (0, 50, []), .inl (6, [some (.inr (.inr 82))]), .inr (0, 5, []), .inl (6, [some (.inr (.inr 84))]), .inr (0, 5, []), .inl (12, [some (.inr (.inr 86)), some (.inr (.inr 87)), some (.inr (.inr 88)), some (.inr (.inr 89)), some (.inl 0), some (.inl (-1)), some (.inl (-1)), some (.inl 0), some (.inl 0), some (.inl 0), some (.inl 0), some (.inr (.inl 0)), some (.inl 0), some (.inl 0), some (.inl 0), some (.inl 0), some (.inr (.inr 90)), some (.inl 0), some (.inl 0), some (.inl 0), some (.inl 0), some (.inl 0), some (.inr (.inr 91)), some (.inr (.inr 92)), some (.inr (.inr 93)), some (.inr (.inr 94)), some (.inr (.inr 95)), some (.inr (.inr 96)), some (.inr (.inr 97)), some (.inr (.inr 98)), some (.inr (.inr 99)), some (.inr (.inr 100)), some (.inr (.inr 101))]), .inr (0, 1061, [(3, 6), (5, -1)]), .inr (0, 1061, [(5, -1), (3, 6)]), .inr (0, 2500, []), .inr (0, 300, []), .inr (0, 160, []), .inr (0, 11, []), .inr (1, 330, []), .inr (2, 330, []), .inr (0, 8, []), .inr (0, 320, []), .inr (0, 1280, []), .inr (2, 50, []), .inr (0, 5, []), .inr (0, 5, []), .inr (0, 8, []), .inr (0, 8, [])]
def zgnew (ci : Nat) : zGc := .inl (ci, ((zGn[ci]?).getD []).map zgz)
def zgve : zV → zV → Bool
  | .inl a, .inl b => decide (a = b)
  | .inr (.inl a), .inr (.inl b) => decide (a = b)
  | .inr (.inr a), .inr (.inr b) => decide (a = b)
  | _, _ => false
theorem zgve_eq {v w : zV} (h : zgve v w = true) : v = w := by
  match v, w, h with
  | .inl a, .inl b, h => rw [of_decide_eq_true (show decide (a = b) = true from h)]
  | .inr (.inl a), .inr (.inl b), h => rw [of_decide_eq_true (show decide (a = b) = true from h)]
  | .inr (.inr a), .inr (.inr b), h => rw [of_decide_eq_true (show decide (a = b) = true from h)]
def zgle {α : Type} (e : α → α → Bool) : List α → List α → Bool
  | [], [] => true
  | a :: s, b :: t => e a b && zgle e s t
  | _, _ => false
theorem zgle_eq {α : Type} {e : α → α → Bool} (he : ∀ a b, e a b = true → a = b) : ∀ s t : List α, zgle e s t = true → s = t := by
  intro s
  induction s with
  | nil => intro t h; cases t with
    | nil => rfl
    | cons b t => cases h
  | cons a s ih => intro t h; cases t with
    | nil => cases h
    | cons b t =>
      have h2 := (Bool.and_eq_true _ _).mp (show (e a b && zgle e s t) = true from h)
      rw [he a b h2.1, ih t h2.2]
def zgfe : zGf → zGf → Bool
  | none, none => true
  | some a, some b => zgve a b
  | _, _ => false
theorem zgfe_eq (a b : zGf) (h : zgfe a b = true) : a = b := by
  match a, b, h with
  | none, none, _ => rfl
  | some a, some b, h => rw [zgve_eq (show zgve a b = true from h)]
def zgce : zGc → zGc → Bool
  | .inl (a, s), .inl (b, t) => decide (a = b) && zgle zgfe s t
  | .inr a, .inr b => decide (a = b)
  | _, _ => false
theorem zgce_eq (a b : zGc) (h : zgce a b = true) : a = b := by
  match a, b, h with
  | .inl (a, s), .inl (b, t), h =>
    have h2 := (Bool.and_eq_true _ _).mp (show (decide (a = b) && zgle zgfe s t) = true from h)
    rw [of_decide_eq_true h2.1, zgle_eq zgfe_eq s t h2.2]
  | .inr a, .inr b, h => rw [of_decide_eq_true (show decide (a = b) = true from h)]
def zgre (q : Option (List zGc × Nat × Nat)) (g : List zGc) (mc ms : Nat) : Bool := match q with
  | some (g1, a, b) => zgle zgce g1 g && (decide (a = mc) && decide (b = ms))
  | none => false
theorem zgre_eq {q : Option (List zGc × Nat × Nat)} {g : List zGc} {mc ms : Nat} (h : zgre q g mc ms = true) : q = some (g, mc, ms) := by
  match q, h with
  | some (g1, a, b), h =>
    have h2 := (Bool.and_eq_true _ _).mp (show (zgle zgce g1 g && (decide (a = mc) && decide (b = ms))) = true from h)
    have h3 := (Bool.and_eq_true _ _).mp h2.2
    rw [zgle_eq zgce_eq _ _ h2.1, of_decide_eq_true h3.1, of_decide_eq_true h3.2]
set_option maxRecDepth 100000 in
theorem zg_run1 : zgo 846 9 zm_Ox_init 0 (zla (zml zm_Ox_init) [.inr (.inr 0)]) [] [zgnew 11] 0 0 = some (zg1, 84, 7387) := zgre_eq (by decide +kernel)
set_option maxRecDepth 100000 in
theorem zg_run2 : zgo 11815 9 zm_Mo_init 0 (zla (zml zm_Mo_init) [.inr (.inr 85)]) [] (zg1 ++ [zgnew 12]) 0 0 = some (zg2, 16, 7437) := zgre_eq (by decide +kernel)
def zgfk : Nat → zGf → Bool
  | 0, some (.inl _) => true
  | 1, some (.inr (.inl _)) => true
  | 2, some (.inl a) => decide (a = 0 ∨ a = 1)
  | r + 3, some (.inr (.inr t)) => r == t
  | _, _ => false
def zgdk : zDsc → zGc → Bool
  | .inl (c, ks), .inl (c2, fs) => c == c2 && (ks.length == fs.length && (List.zip ks fs).all (fun q => zgfk q.1 q.2))
  | .inr (kd, n), .inr (kd2, n2, _) => kd == kd2 && n == n2
  | _, _ => false
theorem zg_fit : zg2.length = zO.length ∧ (List.zip zO zg2).all (fun q => zgdk q.1 q.2) = true := by decide +kernel
