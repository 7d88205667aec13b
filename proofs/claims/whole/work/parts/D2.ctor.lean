/-! the constructors -/
/-- the start, the script hidden -/
def zM1 : zM := (2, fun a => if a = 0 then (25, 6) else (0, 0), fun _ _ => 0, fun a j => if a = 0 then zpat j else 0, fun _ _ => none)
theorem zRel_0 (L : Nat) (xs : Nat → Int32) : zRel (zM0 L xs) zM1 := by
  refine ⟨rfl, (show 1 < 2 by decide), fun a ha => ⟨?_, ?_⟩, rfl, rfl, rfl⟩
  · show (if a = 0 then (25, 6) else (0, 0)) = (if a = 0 then (25, 6) else if a = 1 then (24, L) else (0, 0))
    rw [if_neg (c := a = 1) ha]
  · funext j
    show (0 : Int32) = if a = 1 then xs j else 0
    rw [if_neg ha]
def zRls : List (Nat × Nat × Nat) := [(2, 0, 3), (2, 1, 4), (2, 2, 18), (2, 3, 19), (2, 4, 21), (2, 5, 22), (2, 6, 23), (2, 7, 24), (2, 8, 25), (3, 0, 4), (3, 1, 6), (3, 2, 8), (4, 0, 5), (6, 0, 7), (8, 0, 9), (8, 1, 10), (8, 2, 11), (8, 3, 12), (8, 4, 13), (19, 0, 20), (146, 0, 147), (146, 1, 148), (146, 2, 149), (146, 3, 150), (146, 4, 151), (146, 5, 152), (146, 6, 153), (146, 7, 154), (146, 9, 155), (146, 10, 156), (146, 11, 157), (146, 12, 158), (146, 21, 159), (146, 22, 160), (146, 23, 161), (146, 24, 162), (146, 25, 163), (146, 26, 164), (146, 28, 165), (146, 29, 166), (146, 30, 167), (146, 31, 168), (146, 32, 169), (146, 33, 170), (146, 34, 171), (146, 35, 172), (146, 36, 173), (146, 40, 174), (146, 41, 175), (146, 42, 176), (146, 43, 177), (146, 44, 178), (146, 48, 179), (146, 49, 180), (146, 50, 181), (24, 0, 26), (25, 0, 36), (18, 0, 46), (23, 0, 138), (26, 0, 27), (26, 1, 31), (26, 2, 35), (27, 0, 28), (27, 1, 29), (27, 2, 30), (31, 0, 32), (31, 1, 33), (31, 2, 34), (36, 0, 37), (36, 1, 41), (36, 2, 45), (37, 0, 38), (37, 1, 39), (37, 2, 40), (41, 0, 42), (41, 1, 43), (41, 2, 44), (46, 0, 47), (46, 1, 48), (46, 2, 49), (46, 3, 50), (46, 4, 51), (46, 5, 52), (138, 0, 139), (24, 1, 53), (25, 1, 63), (18, 1, 73), (23, 1, 140), (53, 0, 54), (53, 1, 58), (53, 2, 62), (54, 0, 55), (54, 1, 56), (54, 2, 57), (58, 0, 59), (58, 1, 60), (58, 2, 61), (63, 0, 64), (63, 1, 68), (63, 2, 72), (64, 0, 65), (64, 1, 66), (64, 2, 67), (68, 0, 69), (68, 1, 70), (68, 2, 71), (73, 0, 74), (73, 1, 75), (73, 2, 76), (73, 3, 77), (73, 4, 78), (73, 5, 79), (140, 0, 141), (24, 2, 80), (25, 2, 90), (18, 2, 100), (23, 2, 142), (80, 0, 81), (80, 1, 85), (80, 2, 89), (81, 0, 82), (81, 1, 83), (81, 2, 84), (85, 0, 86), (85, 1, 87), (85, 2, 88), (90, 0, 91), (90, 1, 95), (90, 2, 99), (91, 0, 92), (91, 1, 93), (91, 2, 94), (95, 0, 96), (95, 1, 97), (95, 2, 98), (100, 0, 101), (100, 1, 102), (100, 2, 103), (100, 3, 104), (100, 4, 105), (100, 5, 106), (142, 0, 143), (24, 3, 107), (25, 3, 117), (18, 3, 127), (23, 3, 144), (107, 0, 108), (107, 1, 112), (107, 2, 116), (108, 0, 109), (108, 1, 110), (108, 2, 111), (112, 0, 113), (112, 1, 114), (112, 2, 115), (117, 0, 118), (117, 1, 122), (117, 2, 126), (118, 0, 119), (118, 1, 120), (118, 2, 121), (122, 0, 123), (122, 1, 124), (122, 2, 125), (127, 0, 128), (127, 1, 129), (127, 2, 130), (127, 3, 131), (127, 4, 132), (127, 5, 133), (144, 0, 145), (21, 0, 134), (134, 0, 135), (21, 1, 136), (136, 0, 137), (14, 0, 15), (14, 1, 16), (14, 2, 17)]
def zIls : List (Nat × Nat × Int32) := [(4, 1, 0), (146, 13, 0), (2, 9, 0), (146, 8, 0), (2, 10, 0), (146, 18, 0), (2, 11, 0), (146, 51, 0), (19, 1, 0), (155, 0, 0), (22, 0, 0), (22, 1, 0), (157, 0, 0), (157, 1, 0), (138, 2, -1), (140, 2, -1), (142, 2, -1), (144, 2, -1), (179, 0, -4), (179, 1, -4), (179, 2, -4), (179, 3, -4)]
def zC1 : zO := zEn zT 700 9 n_PT_init [.ref 2] (znew zM1 10 12)
def zC2f (o : zO) : zO := zbV o (fun N => zEn zT 700 9 n_Mo_init [.ref (zN N)] (znew N 11 52))
def zChN (o : zO) : Bool := match o with
  | some (none, N) => Nat.beq (zN N) 146
  | _ => false
def zChA (o : zO) : Bool := match o with
  | some (none, N) => Nat.beq (zN N) 182
  | _ => false
def zChK (o : zO) : Bool := match o with
  | some (none, N) => (List.range 182).all (fun a => Nat.beq a 1 || (Nat.beq (zK N a).1 (zKc 0 a).1 && Nat.beq (zK N a).2 (zKc 0 a).2))
  | _ => false
def zob (o : Option Nat) (v : Nat) : Bool := match o with
  | some u => Nat.beq u v
  | none => false
def zChR (o : zO) : Bool := match o with
  | some (none, N) => zRls.all (fun t => zob (zR N t.1 t.2.1) t.2.2)
  | _ => false
def zChI (o : zO) : Bool := match o with
  | some (none, N) => zIls.all (fun t => decide (zI N t.1 t.2.1 = t.2.2))
  | _ => false
def zChP (o : zO) : Bool := match o with
  | some (none, N) => (List.range 6).all (fun k => decide (zL N 0 k = zL N 165 k))
  | _ => false
set_option maxRecDepth 100000 in
theorem zChN_ok : zChN zC1 = true := by decide +kernel
set_option maxRecDepth 100000 in
theorem zChA_ok : zChA (zC2f zC1) = true := by decide +kernel
set_option maxRecDepth 100000 in
theorem zChK_ok : zChK (zC2f zC1) = true := by decide +kernel
set_option maxRecDepth 100000 in
theorem zChR_ok : zChR (zC2f zC1) = true := by decide +kernel
set_option maxRecDepth 100000 in
theorem zChI_ok : zChI (zC2f zC1) = true := by decide +kernel
set_option maxRecDepth 100000 in
theorem zChP_ok : zChP (zC2f zC1) = true := by decide +kernel
