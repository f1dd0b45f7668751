/-! STEP 2: the state behind the constructors -/
def g0 : TG := (18, fun i => if i = 0 then 0 else if i < 16 then 2 else if i = 16 then 1 else 6, fun i => if i = 17 then [0] else [], fun i => if i < 16 then ltT i else if i = 16 then [1] else [6, 0], fun _ => 0, 1, fun _ => 0)
def ls0 : List (Nat × Nat) := [(1, 16), (3, 1024), (4, 1024), (5, 1024), (6, 1024), (7, 1024), (8, 1024), (9, 1024), (10, 1024), (11, 1024), (12, 4096), (13, 2048), (14, 1024), (16, 64), (18, 64), (20, 64), (23, 64), (25, 16), (26, 150), (76, 100), (77, 1700), (79, 64), (81, 150), (82, 150), (83, 150), (84, 150), (85, 150), (87, 300), (88, 300), (89, 300), (90, 300), (91, 300), (92, 300), (94, 2550), (95, 150), (96, 150), (98, 1600), (99, 16), (100, 130000), (101, 130000), (102, 400), (103, 400), (104, 400), (105, 400), (106, 4000), (107, 4000), (108, 45000), (109, 150), (110, 600), (111, 600), (112, 150), (113, 150), (114, 150), (115, 150), (116, 2700), (117, 22500), (118, 22500), (119, 22600), (120, 22500), (121, 1700), (122, 100), (123, 1)]
def fs0 : List (Nat × Nat × Int32) := [(2, 16, 18), (2, 17, 1), (2, 18, 768), (2, 19, 1536), (15, 1, 0), (17, 1, 0), (19, 1, 0), (22, 1, 0), (78, 1, 0), (86, 7, -1), (97, 27, -1)]
def ck1 (M : MS) : Bool := ls0.all (fun p => decide (gL M p.1 = p.2)) && fs0.all (fun p => decide (gI M p.1 p.2.1 = p.2.2)) && (List.range 16).all (fun j => decide (gL M (28 + 3 * j) = 600) && (decide (gL M (29 + 3 * j) = 150) && decide (gI M (27 + 3 * j) 2 = 0))) && (decide (gD M 93 1 = 95) && decide (gD M 93 2 = 96))
def ck2 (M : MS) : Bool := (List.range 16).all (fun s => decide (gA M 1 s = 0) && (decide (gA M 98 (100 * s) = 0) && decide (gA M 99 s = 1))) && (List.range 18).all (fun i => decide (gA M 3 i = Int32.ofNat (tso g0 i)) && (decide (gA M 4 i = Int32.ofNat (ttx g0 i).length) && (decide (gA M 5 i = b01 (NS (ttx g0 i))) && (decide (gA M 6 i = 0) && (decide (gA M 7 i = Int32.ofNat (tkd g0 i).length) && decide (gA M 10 i = 0)))))) && decide (gA M 13 0 = 0)
def ck3 (M : MS) : Bool := (List.range 1024).all (fun b => decide (gA M 14 b = -1)) && (List.range 72).all (fun p => decide (gA M 12 p = -1)) && (decide ((cM M).2 ≤ 1100000 + pot M) && decide ((cM M).1 ≤ 400000))
set_option maxRecDepth 1000000 in
theorem x_ck1 : x_St.map (fun S => ck1 (MofL S)) = some true := by
  delta x_St m_iD m_iTerms
  rw [mL_fil_eq]
  decide +kernel
set_option maxRecDepth 1000000 in
theorem x_ck2 : x_St.map (fun S => ck2 (MofL S)) = some true := by
  delta x_St m_iD m_iTerms
  rw [mL_fil_eq]
  decide +kernel
set_option maxRecDepth 1000000 in
theorem x_ck3 : x_St.map (fun S => ck3 (MofL S)) = some true := by
  delta x_St m_iD m_iTerms
  rw [mL_fil_eq]
  decide +kernel
