/-! Tables of the function, by wip/whole/gensh.py -/
def sh_fl0 : List (Nat × (Nat × Nat × FieldType × Bool)) := [(10, (0, 0, (.object "CobolParser$Row"), true)), (19, (0, 1, (.object "CobolParser$Tree"), true)), (46, (0, 2, (.object "CobolParser$Clauses"), true))]
theorem sh_fle0 : nm_fl.filterMap (fun e => if e.1.1 == "CobolParser" then some (e.1.2, e.2) else none) = sh_fl0 := by rfl
theorem sh_flk0 (k : Nat) : nm_fl.lookup ("CobolParser", k) = sh_fl0.lookup k := by rw [am_onc, sh_fle0]
def sh_nw0 : List (Nat × (Nat × List Value)) := [(7, (1, [.null, .null, .int 0, .int 0, .int 0, .null, .null, .int 0])), (16, (2, [.null, .int 0, .int 0, .int 0, .int 0])), (23, (3, [.null, .null])), (28, (4, [.null, .null, .null, .null])), (30, (5, [.null, .null, .null, .int 0, .int 0])), (38, (6, [.null, .null, .null, .null, .null, .null, .int 0, .int 0, .int 0, .int 0])), (40, (7, [.null, .null, .null, .null, .null, .int 0, .int 0]))]
theorem sh_nwe0 : nm_nw.filterMap (fun e => if e.1.1 == "CobolParser" then some (e.1.2, e.2) else none) = sh_nw0 := by rfl
theorem sh_nwk0 (k : Nat) : nm_nw.lookup ("CobolParser", k) = sh_nw0.lookup k := by rw [am_onc, sh_nwe0]
def sh_ld0 : List (Nat × Int32) := [(138, 99999)]
theorem sh_lde0 : nm_ld.filterMap (fun e => if e.1.1 == "CobolParser" then some (e.1.2, e.2) else none) = sh_ld0 := by rfl
theorem sh_ldk0 (k : Nat) : nm_ld.lookup ("CobolParser", k) = sh_ld0.lookup k := by rw [am_onc, sh_lde0]
def sh_ct0 : List (Nat × (Nat × Nat)) := [(1, (0, 5)), (25, (3, 1)), (32, (4, 1)), (35, (5, 1)), (42, (6, 1)), (43, (7, 1)), (50, (10, 2)), (54, (11, 0)), (58, (12, 0)), (85, (15, 0)), (89, (18, 0)), (92, (19, 0)), (95, (20, 0)), (98, (21, 0)), (101, (23, 0)), (104, (25, 0)), (107, (27, 0)), (110, (29, 0)), (113, (30, 0)), (116, (32, 0)), (121, (34, 0)), (124, (36, 0)), (127, (38, 0)), (130, (39, 0)), (133, (40, 0)), (62, (43, 0)), (65, (44, 0)), (66, (46, 0)), (67, (48, 0)), (70, (49, 0)), (75, (150, 0)), (78, (151, 0)), (81, (152, 0)), (139, (153, 0)), (149, (154, 0)), (9, (1, 4)), (18, (2, 4))]
theorem sh_cte0 : nm_ct.filterMap (fun e => if e.1.1 == "CobolParser" then some (e.1.2, e.2) else none) = sh_ct0 := by decide +kernel
theorem sh_ctk0 (k : Nat) : nm_ct.lookup ("CobolParser", k) = sh_ct0.lookup k := by rw [am_onc, sh_cte0]
def sh_t0 (L : Nat) (xs : Nat → Int32) : am_F := (fun _ k => sh_fl0.lookup k, fun _ k => sh_nw0.lookup k, fun _ k => sh_ld0.lookup k, fun _ k => sh_ct0.lookup k, fun _ _ => none, L, xs)
set_option maxRecDepth 10000 in
theorem sh_a0 (L : Nat) (xs : Nat → Int32) : fn_agr (nm_F L xs) (sh_t0 L xs) "CobolParser" := ⟨sh_flk0, sh_nwk0, sh_ldk0, rfl, rfl, sh_ctk0⟩
def sh_fl1 : List (Nat × (Nat × Nat × FieldType × Bool)) := [(31, (6, 0, (.object "CobolParser$Row"), true)), (35, (6, 1, (.object "CobolParser$Tree"), true)), (39, (6, 2, (.object "CobolParser$Leaves"), true)), (43, (6, 3, (.object "CobolParser$Statements"), true)), (47, (6, 4, (.object "CobolParser$Items"), true)), (12, (6, 5, (.object "CobolParser$Units"), true)), (18, (6, 6, .int, false)), (22, (6, 7, .int, false)), (25, (6, 8, .int, false)), (28, (6, 9, .int, false))]
theorem sh_fle1 : nm_fl.filterMap (fun e => if e.1.1 == "CobolParser$Clauses" then some (e.1.2, e.2) else none) = sh_fl1 := by rfl
theorem sh_flk1 (k : Nat) : nm_fl.lookup ("CobolParser$Clauses", k) = sh_fl1.lookup k := by rw [am_onc, sh_fle1]
def sh_nw1 : List (Nat × (Nat × List Value)) := [(9, (8, [.null, .null, .null, .null, .int 0]))]
theorem sh_nwe1 : nm_nw.filterMap (fun e => if e.1.1 == "CobolParser$Clauses" then some (e.1.2, e.2) else none) = sh_nw1 := by rfl
theorem sh_nwk1 (k : Nat) : nm_nw.lookup ("CobolParser$Clauses", k) = sh_nw1.lookup k := by rw [am_onc, sh_nwe1]
def sh_ld1 : List (Nat × Int32) := []
theorem sh_lde1 : nm_ld.filterMap (fun e => if e.1.1 == "CobolParser$Clauses" then some (e.1.2, e.2) else none) = sh_ld1 := by rfl
theorem sh_ldk1 (k : Nat) : nm_ld.lookup ("CobolParser$Clauses", k) = sh_ld1.lookup k := by rw [am_onc, sh_lde1]
def sh_ct1 : List (Nat × (Nat × Nat)) := [(3, (0, 5)), (51, (47, 0)), (70, (50, 0)), (74, (51, 0)), (194, (52, 0)), (77, (53, 0)), (54, (54, 0)), (112, (55, 0)), (97, (56, 0)), (222, (57, 0)), (61, (58, 0)), (160, (59, 0)), (149, (45, 0)), (186, (62, 0)), (164, (63, 0)), (225, (64, 0)), (125, (65, 0)), (80, (66, 0)), (85, (85, 0)), (91, (86, 0)), (94, (124, 0)), (101, (60, 0)), (104, (125, 0)), (58, (126, 0)), (167, (127, 0)), (170, (128, 0)), (173, (129, 0)), (118, (130, 0)), (121, (131, 0)), (154, (61, 0)), (157, (83, 0)), (176, (132, 0)), (109, (133, 0)), (179, (134, 0)), (182, (69, 0)), (128, (135, 0)), (189, (91, 0)), (198, (136, 0)), (201, (137, 0)), (131, (138, 0)), (207, (80, 0)), (134, (139, 0)), (137, (140, 0)), (210, (141, 0)), (213, (142, 0)), (216, (143, 0)), (66, (144, 0)), (219, (145, 0)), (140, (146, 0)), (143, (147, 0)), (204, (148, 0)), (146, (149, 0)), (11, (8, 4)), (228, (87, 3))]
theorem sh_cte1 : nm_ct.filterMap (fun e => if e.1.1 == "CobolParser$Clauses" then some (e.1.2, e.2) else none) = sh_ct1 := by decide +kernel
theorem sh_ctk1 (k : Nat) : nm_ct.lookup ("CobolParser$Clauses", k) = sh_ct1.lookup k := by rw [am_onc, sh_cte1]
def sh_t1 (L : Nat) (xs : Nat → Int32) : am_F := (fun _ k => sh_fl1.lookup k, fun _ k => sh_nw1.lookup k, fun _ k => sh_ld1.lookup k, fun _ k => sh_ct1.lookup k, fun _ _ => none, L, xs)
set_option maxRecDepth 10000 in
theorem sh_a1 (L : Nat) (xs : Nat → Int32) : fn_agr (nm_F L xs) (sh_t1 L xs) "CobolParser$Clauses" := ⟨sh_flk1, sh_nwk1, sh_ldk1, rfl, rfl, sh_ctk1⟩
def sh_fl2 : List (Nat × (Nat × Nat × FieldType × Bool)) := [(18, (5, 0, (.object "CobolParser$Row"), true)), (22, (5, 1, (.object "CobolParser$Tree"), true)), (26, (5, 2, (.object "CobolParser$Leaves"), true)), (9, (5, 3, .int, false)), (15, (5, 4, .int, false))]
theorem sh_fle2 : nm_fl.filterMap (fun e => if e.1.1 == "CobolParser$Expressions" then some (e.1.2, e.2) else none) = sh_fl2 := by rfl
theorem sh_flk2 (k : Nat) : nm_fl.lookup ("CobolParser$Expressions", k) = sh_fl2.lookup k := by rw [am_onc, sh_fle2]
def sh_nw2 : List (Nat × (Nat × List Value)) := []
theorem sh_nwe2 : nm_nw.filterMap (fun e => if e.1.1 == "CobolParser$Expressions" then some (e.1.2, e.2) else none) = sh_nw2 := by rfl
theorem sh_nwk2 (k : Nat) : nm_nw.lookup ("CobolParser$Expressions", k) = sh_nw2.lookup k := by rw [am_onc, sh_nwe2]
def sh_ld2 : List (Nat × Int32) := []
theorem sh_lde2 : nm_ld.filterMap (fun e => if e.1.1 == "CobolParser$Expressions" then some (e.1.2, e.2) else none) = sh_ld2 := by rfl
theorem sh_ldk2 (k : Nat) : nm_ld.lookup ("CobolParser$Expressions", k) = sh_ld2.lookup k := by rw [am_onc, sh_lde2]
def sh_ct2 : List (Nat × (Nat × Nat)) := [(3, (0, 5)), (84, (97, 0)), (95, (98, 0)), (89, (52, 0)), (98, (99, 0)), (101, (58, 0)), (104, (45, 0)), (62, (100, 0)), (76, (56, 0)), (50, (61, 0)), (53, (63, 0)), (34, (101, 0)), (107, (96, 0)), (69, (102, 0)), (110, (103, 0)), (113, (76, 0)), (117, (104, 0)), (120, (105, 0)), (72, (50, 0)), (42, (60, 0)), (79, (75, 0)), (123, (106, 0)), (92, (62, 0)), (126, (69, 0)), (46, (107, 0)), (130, (17, 0)), (30, (122, 0)), (59, (123, 0)), (66, (121, 0))]
theorem sh_cte2 : nm_ct.filterMap (fun e => if e.1.1 == "CobolParser$Expressions" then some (e.1.2, e.2) else none) = sh_ct2 := by decide +kernel
theorem sh_ctk2 (k : Nat) : nm_ct.lookup ("CobolParser$Expressions", k) = sh_ct2.lookup k := by rw [am_onc, sh_cte2]
def sh_t2 (L : Nat) (xs : Nat → Int32) : am_F := (fun _ k => sh_fl2.lookup k, fun _ k => sh_nw2.lookup k, fun _ k => sh_ld2.lookup k, fun _ k => sh_ct2.lookup k, fun _ _ => none, L, xs)
set_option maxRecDepth 10000 in
theorem sh_a2 (L : Nat) (xs : Nat → Int32) : fn_agr (nm_F L xs) (sh_t2 L xs) "CobolParser$Expressions" := ⟨sh_flk2, sh_nwk2, sh_ldk2, rfl, rfl, sh_ctk2⟩
def sh_fl3 : List (Nat × (Nat × Nat × FieldType × Bool)) := [(25, (7, 0, (.object "CobolParser$Row"), true)), (29, (7, 1, (.object "CobolParser$Tree"), true)), (33, (7, 2, (.object "CobolParser$Leaves"), true)), (11, (7, 3, (.array .int), true)), (15, (7, 4, (.array .int), true)), (18, (7, 5, .int, false)), (22, (7, 6, .int, false))]
theorem sh_fle3 : nm_fl.filterMap (fun e => if e.1.1 == "CobolParser$Items" then some (e.1.2, e.2) else none) = sh_fl3 := by rfl
theorem sh_flk3 (k : Nat) : nm_fl.lookup ("CobolParser$Items", k) = sh_fl3.lookup k := by rw [am_onc, sh_fle3]
def sh_nw3 : List (Nat × (Nat × List Value)) := []
theorem sh_nwe3 : nm_nw.filterMap (fun e => if e.1.1 == "CobolParser$Items" then some (e.1.2, e.2) else none) = sh_nw3 := by rfl
theorem sh_nwk3 (k : Nat) : nm_nw.lookup ("CobolParser$Items", k) = sh_nw3.lookup k := by rw [am_onc, sh_nwe3]
def sh_ld3 : List (Nat × Int32) := []
theorem sh_lde3 : nm_ld.filterMap (fun e => if e.1.1 == "CobolParser$Items" then some (e.1.2, e.2) else none) = sh_ld3 := by rfl
theorem sh_ldk3 (k : Nat) : nm_ld.lookup ("CobolParser$Items", k) = sh_ld3.lookup k := by rw [am_onc, sh_lde3]
def sh_ct3 : List (Nat × (Nat × Nat)) := [(3, (0, 5)), (37, (60, 0)), (43, (67, 0)), (47, (56, 0)), (53, (58, 0)), (56, (45, 0)), (62, (61, 0)), (65, (68, 0)), (72, (50, 0)), (79, (59, 0)), (90, (62, 0)), (68, (69, 0)), (76, (70, 0)), (93, (71, 0)), (108, (72, 0)), (84, (63, 0)), (96, (73, 0)), (112, (74, 0)), (115, (75, 0)), (99, (78, 0)), (120, (79, 0)), (123, (80, 0)), (102, (81, 0)), (105, (82, 0)), (126, (83, 0)), (82, (84, 0))]
theorem sh_cte3 : nm_ct.filterMap (fun e => if e.1.1 == "CobolParser$Items" then some (e.1.2, e.2) else none) = sh_ct3 := by decide +kernel
theorem sh_ctk3 (k : Nat) : nm_ct.lookup ("CobolParser$Items", k) = sh_ct3.lookup k := by rw [am_onc, sh_cte3]
def sh_t3 (L : Nat) (xs : Nat → Int32) : am_F := (fun _ k => sh_fl3.lookup k, fun _ k => sh_nw3.lookup k, fun _ k => sh_ld3.lookup k, fun _ k => sh_ct3.lookup k, fun _ _ => none, L, xs)
set_option maxRecDepth 10000 in
theorem sh_a3 (L : Nat) (xs : Nat → Int32) : fn_agr (nm_F L xs) (sh_t3 L xs) "CobolParser$Items" := ⟨sh_flk3, sh_nwk3, sh_ldk3, rfl, rfl, sh_ctk3⟩
def sh_fl4 : List (Nat × (Nat × Nat × FieldType × Bool)) := [(9, (3, 0, (.object "CobolParser$Row"), true)), (15, (3, 1, (.object "CobolParser$Tree"), true))]
theorem sh_fle4 : nm_fl.filterMap (fun e => if e.1.1 == "CobolParser$Leaves" then some (e.1.2, e.2) else none) = sh_fl4 := by rfl
theorem sh_flk4 (k : Nat) : nm_fl.lookup ("CobolParser$Leaves", k) = sh_fl4.lookup k := by rw [am_onc, sh_fle4]
def sh_nw4 : List (Nat × (Nat × List Value)) := []
theorem sh_nwe4 : nm_nw.filterMap (fun e => if e.1.1 == "CobolParser$Leaves" then some (e.1.2, e.2) else none) = sh_nw4 := by rfl
theorem sh_nwk4 (k : Nat) : nm_nw.lookup ("CobolParser$Leaves", k) = sh_nw4.lookup k := by rw [am_onc, sh_nwe4]
def sh_ld4 : List (Nat × Int32) := [(31, 100000)]
theorem sh_lde4 : nm_ld.filterMap (fun e => if e.1.1 == "CobolParser$Leaves" then some (e.1.2, e.2) else none) = sh_ld4 := by rfl
theorem sh_ldk4 (k : Nat) : nm_ld.lookup ("CobolParser$Leaves", k) = sh_ld4.lookup k := by rw [am_onc, sh_lde4]
def sh_ct4 : List (Nat × (Nat × Nat)) := [(3, (0, 5)), (19, (76, 0)), (25, (56, 0)), (32, (77, 0)), (36, (60, 0)), (39, (58, 0)), (42, (45, 0)), (48, (61, 0)), (58, (50, 0)), (54, (63, 0)), (62, (79, 0)), (51, (75, 0))]
theorem sh_cte4 : nm_ct.filterMap (fun e => if e.1.1 == "CobolParser$Leaves" then some (e.1.2, e.2) else none) = sh_ct4 := by decide +kernel
theorem sh_ctk4 (k : Nat) : nm_ct.lookup ("CobolParser$Leaves", k) = sh_ct4.lookup k := by rw [am_onc, sh_cte4]
def sh_t4 (L : Nat) (xs : Nat → Int32) : am_F := (fun _ k => sh_fl4.lookup k, fun _ k => sh_nw4.lookup k, fun _ k => sh_ld4.lookup k, fun _ k => sh_ct4.lookup k, fun _ _ => none, L, xs)
set_option maxRecDepth 10000 in
theorem sh_a4 (L : Nat) (xs : Nat → Int32) : fn_agr (nm_F L xs) (sh_t4 L xs) "CobolParser$Leaves" := ⟨sh_flk4, sh_nwk4, sh_ldk4, rfl, rfl, sh_ctk4⟩
def sh_fl5 : List (Nat × (Nat × Nat × FieldType × Bool)) := [(11, (1, 0, (.array .int), false)), (15, (1, 1, (.array .int), false)), (18, (1, 2, .int, false)), (22, (1, 3, .int, false)), (25, (1, 4, .int, false)), (28, (1, 5, (.array .int), true)), (31, (1, 6, (.array .int), true)), (34, (1, 7, .int, false))]
theorem sh_fle5 : nm_fl.filterMap (fun e => if e.1.1 == "CobolParser$Row" then some (e.1.2, e.2) else none) = sh_fl5 := by rfl
theorem sh_flk5 (k : Nat) : nm_fl.lookup ("CobolParser$Row", k) = sh_fl5.lookup k := by rw [am_onc, sh_fle5]
def sh_nw5 : List (Nat × (Nat × List Value)) := []
theorem sh_nwe5 : nm_nw.filterMap (fun e => if e.1.1 == "CobolParser$Row" then some (e.1.2, e.2) else none) = sh_nw5 := by rfl
theorem sh_nwk5 (k : Nat) : nm_nw.lookup ("CobolParser$Row", k) = sh_nw5.lookup k := by rw [am_onc, sh_nwe5]
def sh_ld5 : List (Nat × Int32) := []
theorem sh_lde5 : nm_ld.filterMap (fun e => if e.1.1 == "CobolParser$Row" then some (e.1.2, e.2) else none) = sh_ld5 := by rfl
theorem sh_ldk5 (k : Nat) : nm_ld.lookup ("CobolParser$Row", k) = sh_ld5.lookup k := by rw [am_onc, sh_lde5]
def sh_ct5 : List (Nat × (Nat × Nat)) := [(3, (0, 5)), (37, (13, 2)), (60, (50, 0)), (49, (56, 0)), (63, (60, 0)), (57, (61, 0)), (45, (62, 0)), (53, (101, 0)), (74, (144, 0))]
theorem sh_cte5 : nm_ct.filterMap (fun e => if e.1.1 == "CobolParser$Row" then some (e.1.2, e.2) else none) = sh_ct5 := by decide +kernel
theorem sh_ctk5 (k : Nat) : nm_ct.lookup ("CobolParser$Row", k) = sh_ct5.lookup k := by rw [am_onc, sh_cte5]
def sh_t5 (L : Nat) (xs : Nat → Int32) : am_F := (fun _ k => sh_fl5.lookup k, fun _ k => sh_nw5.lookup k, fun _ k => sh_ld5.lookup k, fun _ k => sh_ct5.lookup k, fun _ _ => none, L, xs)
set_option maxRecDepth 10000 in
theorem sh_a5 (L : Nat) (xs : Nat → Int32) : fn_agr (nm_F L xs) (sh_t5 L xs) "CobolParser$Row" := ⟨sh_flk5, sh_nwk5, sh_ldk5, rfl, rfl, sh_ctk5⟩
def sh_fl6 : List (Nat × (Nat × Nat × FieldType × Bool)) := [(9, (4, 0, (.object "CobolParser$Row"), true)), (15, (4, 1, (.object "CobolParser$Tree"), true)), (19, (4, 2, (.object "CobolParser$Leaves"), true)), (23, (4, 3, (.object "CobolParser$Expressions"), true))]
theorem sh_fle6 : nm_fl.filterMap (fun e => if e.1.1 == "CobolParser$Statements" then some (e.1.2, e.2) else none) = sh_fl6 := by rfl
theorem sh_flk6 (k : Nat) : nm_fl.lookup ("CobolParser$Statements", k) = sh_fl6.lookup k := by rw [am_onc, sh_fle6]
def sh_nw6 : List (Nat × (Nat × List Value)) := []
theorem sh_nwe6 : nm_nw.filterMap (fun e => if e.1.1 == "CobolParser$Statements" then some (e.1.2, e.2) else none) = sh_nw6 := by rfl
theorem sh_nwk6 (k : Nat) : nm_nw.lookup ("CobolParser$Statements", k) = sh_nw6.lookup k := by rw [am_onc, sh_nwe6]
def sh_ld6 : List (Nat × Int32) := []
theorem sh_lde6 : nm_ld.filterMap (fun e => if e.1.1 == "CobolParser$Statements" then some (e.1.2, e.2) else none) = sh_ld6 := by rfl
theorem sh_ldk6 (k : Nat) : nm_ld.lookup ("CobolParser$Statements", k) = sh_ld6.lookup k := by rw [am_onc, sh_lde6]
def sh_ct6 : List (Nat × (Nat × Nat)) := [(3, (0, 5)), (27, (60, 0)), (35, (50, 0)), (39, (85, 0)), (43, (56, 0)), (47, (58, 0)), (50, (45, 0)), (56, (88, 0)), (64, (89, 0)), (96, (90, 0)), (102, (69, 0)), (106, (61, 0)), (120, (91, 0)), (123, (83, 0)), (126, (80, 0)), (67, (92, 0)), (129, (93, 0)), (112, (75, 0)), (60, (63, 0)), (117, (76, 0)), (109, (62, 0)), (146, (79, 0)), (149, (87, 0)), (143, (94, 0)), (70, (95, 0)), (156, (108, 0)), (159, (52, 0)), (73, (109, 0)), (166, (110, 0)), (169, (111, 0)), (172, (112, 0)), (76, (113, 0)), (163, (114, 0)), (79, (115, 0)), (132, (59, 0)), (82, (116, 0)), (85, (117, 0)), (88, (118, 0)), (91, (119, 0)), (99, (120, 0)), (135, (102, 0)), (153, (96, 3)), (138, (121, 3))]
theorem sh_cte6 : nm_ct.filterMap (fun e => if e.1.1 == "CobolParser$Statements" then some (e.1.2, e.2) else none) = sh_ct6 := by decide +kernel
theorem sh_ctk6 (k : Nat) : nm_ct.lookup ("CobolParser$Statements", k) = sh_ct6.lookup k := by rw [am_onc, sh_cte6]
def sh_t6 (L : Nat) (xs : Nat → Int32) : am_F := (fun _ k => sh_fl6.lookup k, fun _ k => sh_nw6.lookup k, fun _ k => sh_ld6.lookup k, fun _ k => sh_ct6.lookup k, fun _ _ => none, L, xs)
set_option maxRecDepth 10000 in
theorem sh_a6 (L : Nat) (xs : Nat → Int32) : fn_agr (nm_F L xs) (sh_t6 L xs) "CobolParser$Statements" := ⟨sh_flk6, sh_nwk6, sh_ldk6, rfl, rfl, sh_ctk6⟩
def sh_fl7 : List (Nat × (Nat × Nat × FieldType × Bool)) := [(11, (2, 0, (.array .int), false)), (15, (2, 1, .int, false)), (19, (2, 2, .int, false)), (22, (2, 3, .int, false)), (25, (2, 4, .int, false))]
theorem sh_fle7 : nm_fl.filterMap (fun e => if e.1.1 == "CobolParser$Tree" then some (e.1.2, e.2) else none) = sh_fl7 := by rfl
theorem sh_flk7 (k : Nat) : nm_fl.lookup ("CobolParser$Tree", k) = sh_fl7.lookup k := by rw [am_onc, sh_fle7]
def sh_nw7 : List (Nat × (Nat × List Value)) := []
theorem sh_nwe7 : nm_nw.filterMap (fun e => if e.1.1 == "CobolParser$Tree" then some (e.1.2, e.2) else none) = sh_nw7 := by rfl
theorem sh_nwk7 (k : Nat) : nm_nw.lookup ("CobolParser$Tree", k) = sh_nw7.lookup k := by rw [am_onc, sh_nwe7]
def sh_ld7 : List (Nat × Int32) := []
theorem sh_lde7 : nm_ld.filterMap (fun e => if e.1.1 == "CobolParser$Tree" then some (e.1.2, e.2) else none) = sh_ld7 := by rfl
theorem sh_ldk7 (k : Nat) : nm_ld.lookup ("CobolParser$Tree", k) = sh_ld7.lookup k := by rw [am_onc, sh_lde7]
def sh_ct7 : List (Nat × (Nat × Nat)) := [(3, (0, 5)), (59, (16, 0)), (38, (17, 0)), (62, (22, 0)), (65, (15, 0)), (51, (33, 0)), (28, (45, 0)), (32, (13, 2)), (42, (69, 0)), (46, (0, 7)), (55, (155, 0))]
theorem sh_cte7 : nm_ct.filterMap (fun e => if e.1.1 == "CobolParser$Tree" then some (e.1.2, e.2) else none) = sh_ct7 := by decide +kernel
theorem sh_ctk7 (k : Nat) : nm_ct.lookup ("CobolParser$Tree", k) = sh_ct7.lookup k := by rw [am_onc, sh_cte7]
def sh_t7 (L : Nat) (xs : Nat → Int32) : am_F := (fun _ k => sh_fl7.lookup k, fun _ k => sh_nw7.lookup k, fun _ k => sh_ld7.lookup k, fun _ k => sh_ct7.lookup k, fun _ _ => none, L, xs)
set_option maxRecDepth 10000 in
theorem sh_a7 (L : Nat) (xs : Nat → Int32) : fn_agr (nm_F L xs) (sh_t7 L xs) "CobolParser$Tree" := ⟨sh_flk7, sh_nwk7, sh_ldk7, rfl, rfl, sh_ctk7⟩
def sh_fl8 : List (Nat × (Nat × Nat × FieldType × Bool)) := [(9, (8, 0, (.array .int), true)), (15, (8, 1, (.array .int), true)), (18, (8, 2, (.array .int), true)), (21, (8, 3, (.array .int), true)), (24, (8, 4, .int, false))]
theorem sh_fle8 : nm_fl.filterMap (fun e => if e.1.1 == "CobolParser$Units" then some (e.1.2, e.2) else none) = sh_fl8 := by rfl
theorem sh_flk8 (k : Nat) : nm_fl.lookup ("CobolParser$Units", k) = sh_fl8.lookup k := by rw [am_onc, sh_fle8]
def sh_nw8 : List (Nat × (Nat × List Value)) := []
theorem sh_nwe8 : nm_nw.filterMap (fun e => if e.1.1 == "CobolParser$Units" then some (e.1.2, e.2) else none) = sh_nw8 := by rfl
theorem sh_nwk8 (k : Nat) : nm_nw.lookup ("CobolParser$Units", k) = sh_nw8.lookup k := by rw [am_onc, sh_nwe8]
def sh_ld8 : List (Nat × Int32) := []
theorem sh_lde8 : nm_ld.filterMap (fun e => if e.1.1 == "CobolParser$Units" then some (e.1.2, e.2) else none) = sh_ld8 := by rfl
theorem sh_ldk8 (k : Nat) : nm_ld.lookup ("CobolParser$Units", k) = sh_ld8.lookup k := by rw [am_onc, sh_lde8]
def sh_ct8 : List (Nat × (Nat × Nat)) := [(3, (0, 5))]
theorem sh_cte8 : nm_ct.filterMap (fun e => if e.1.1 == "CobolParser$Units" then some (e.1.2, e.2) else none) = sh_ct8 := by decide +kernel
theorem sh_ctk8 (k : Nat) : nm_ct.lookup ("CobolParser$Units", k) = sh_ct8.lookup k := by rw [am_onc, sh_cte8]
def sh_t8 (L : Nat) (xs : Nat → Int32) : am_F := (fun _ k => sh_fl8.lookup k, fun _ k => sh_nw8.lookup k, fun _ k => sh_ld8.lookup k, fun _ k => sh_ct8.lookup k, fun _ _ => none, L, xs)
set_option maxRecDepth 10000 in
theorem sh_a8 (L : Nat) (xs : Nat → Int32) : fn_agr (nm_F L xs) (sh_t8 L xs) "CobolParser$Units" := ⟨sh_flk8, sh_nwk8, sh_ldk8, rfl, rfl, sh_ctk8⟩
def sh_fl9 : List (Nat × (Nat × Nat × FieldType × Bool)) := []
theorem sh_fle9 : nm_fl.filterMap (fun e => if e.1.1 == "CobolParserLaw" then some (e.1.2, e.2) else none) = sh_fl9 := by rfl
theorem sh_flk9 (k : Nat) : nm_fl.lookup ("CobolParserLaw", k) = sh_fl9.lookup k := by rw [am_onc, sh_fle9]
def sh_nw9 : List (Nat × (Nat × List Value)) := [(8, (0, [.null, .null, .null])), (16, (9, [.int 0, .int 0, .null, .null, .int 0, .int 0, .null, .null, .int 0, .null, .null, .null, .null, .null, .null, .null, .null, .null, .null, .int 0, .int 0, .int 0, .null, .null, .null, .null, .int 0, .null, .null, .null, .null, .null, .int 0, .int 0, .int 0, .int 0, .int 0, .int 0, .int 0, .null, .null, .int 0, .int 0, .int 0, .int 0, .int 0, .null, .null, .null, .int 0, .null, .null, .null, .null, .int 0, .int 0, .int 0, .int 0, .null, .null, .null, .null, .null, .null, .null]))]
theorem sh_nwe9 : nm_nw.filterMap (fun e => if e.1.1 == "CobolParserLaw" then some (e.1.2, e.2) else none) = sh_nw9 := by rfl
theorem sh_nwk9 (k : Nat) : nm_nw.lookup ("CobolParserLaw", k) = sh_nw9.lookup k := by rw [am_onc, sh_nwe9]
def sh_ld9 : List (Nat × Int32) := []
theorem sh_lde9 : nm_ld.filterMap (fun e => if e.1.1 == "CobolParserLaw" then some (e.1.2, e.2) else none) = sh_ld9 := by rfl
theorem sh_ldk9 (k : Nat) : nm_ld.lookup ("CobolParserLaw", k) = sh_ld9.lookup k := by rw [am_onc, sh_lde9]
def sh_ct9 : List (Nat × (Nat × Nat)) := [(15, (0, 1)), (19, (9, 0)), (30, (14, 0)), (34, (24, 0)), (38, (26, 0)), (42, (28, 0)), (46, (31, 0)), (50, (35, 0)), (54, (37, 0)), (24, (41, 2)), (7, (42, 0)), (18, (156, 1)), (23, (157, 0)), (29, (159, 0)), (33, (226, 0)), (37, (228, 0)), (41, (229, 0)), (45, (230, 0)), (49, (231, 0)), (53, (232, 0)), (58, (233, 0))]
theorem sh_cte9 : nm_ct.filterMap (fun e => if e.1.1 == "CobolParserLaw" then some (e.1.2, e.2) else none) = sh_ct9 := by decide +kernel
theorem sh_ctk9 (k : Nat) : nm_ct.lookup ("CobolParserLaw", k) = sh_ct9.lookup k := by rw [am_onc, sh_cte9]
def sh_t9 (L : Nat) (xs : Nat → Int32) : am_F := (fun _ k => sh_fl9.lookup k, fun _ k => sh_nw9.lookup k, fun _ k => sh_ld9.lookup k, fun _ k => sh_ct9.lookup k, fun _ _ => none, L, xs)
set_option maxRecDepth 10000 in
theorem sh_a9 (L : Nat) (xs : Nat → Int32) : fn_agr (nm_F L xs) (sh_t9 L xs) "CobolParserLaw" := ⟨sh_flk9, sh_nwk9, sh_ldk9, rfl, rfl, sh_ctk9⟩
def sh_fl10 : List (Nat × (Nat × Nat × FieldType × Bool)) := [(128, (9, 0, .int, false)), (137, (9, 1, .int, false)), (7, (9, 2, (.array .int), true)), (13, (9, 3, (.array .int), true)), (140, (9, 4, .int, false)), (147, (9, 5, .int, false)), (16, (9, 6, (.array .int), true)), (19, (9, 7, (.array .int), true)), (174, (9, 8, .int, false)), (22, (9, 9, (.array .int), true)), (25, (9, 10, (.array .int), true)), (28, (9, 11, (.array .int), true)), (31, (9, 12, (.array .int), true)), (34, (9, 13, (.array .int), true)), (37, (9, 14, (.array .int), true)), (40, (9, 15, (.array .int), true)), (43, (9, 16, (.array .int), true)), (46, (9, 17, (.array .int), true)), (49, (9, 18, (.array .int), true)), (208, (9, 19, .int, false)), (202, (9, 20, .int, false)), (211, (9, 21, .int, false)), (52, (9, 22, (.array .int), true)), (55, (9, 23, (.array .int), true)), (58, (9, 24, (.array .int), true)), (61, (9, 25, (.array .int), true)), (205, (9, 26, .int, false)), (64, (9, 27, (.array .int), true)), (67, (9, 28, (.array .int), true)), (70, (9, 29, (.array .int), true)), (73, (9, 30, (.array .boolean), true)), (77, (9, 31, (.array .boolean), true)), (273, (9, 32, .int, false)), (276, (9, 33, .int, false)), (255, (9, 34, .int, false)), (233, (9, 35, .int, false)), (291, (9, 36, .int, false)), (279, (9, 37, .int, false)), (282, (9, 38, .int, false)), (80, (9, 39, (.array .int), true)), (83, (9, 40, (.array .int), true)), (161, (9, 41, .int, false)), (158, (9, 42, .int, false)), (150, (9, 43, .boolean, false)), (313, (9, 44, .int, false)), (310, (9, 45, .int, false)), (86, (9, 46, (.array .int), true)), (89, (9, 47, (.array .int), true)), (92, (9, 48, (.array .int), true)), (371, (9, 49, .int, false)), (95, (9, 50, (.array .int), true)), (98, (9, 51, (.array .int), true)), (101, (9, 52, (.array .int), true)), (104, (9, 53, (.array .int), true)), (392, (9, 54, .int, false)), (386, (9, 55, .int, false)), (416, (9, 56, .int, false)), (383, (9, 57, .int, false)), (107, (9, 58, (.array .int), true)), (110, (9, 59, (.array .int), true)), (113, (9, 60, (.array .int), true)), (116, (9, 61, (.array .int), true)), (119, (9, 62, (.array .int), true)), (122, (9, 63, (.array .int), true)), (125, (9, 64, (.array .int), true))]
theorem sh_fle10 : nm_fl.filterMap (fun e => if e.1.1 == "CobolParserModel" then some (e.1.2, e.2) else none) = sh_fl10 := by rfl
theorem sh_flk10 (k : Nat) : nm_fl.lookup ("CobolParserModel", k) = sh_fl10.lookup k := by rw [am_onc, sh_fle10]
def sh_nw10 : List (Nat × (Nat × List Value)) := []
theorem sh_nwe10 : nm_nw.filterMap (fun e => if e.1.1 == "CobolParserModel" then some (e.1.2, e.2) else none) = sh_nw10 := by rfl
theorem sh_nwk10 (k : Nat) : nm_nw.lookup ("CobolParserModel", k) = sh_nw10.lookup k := by rw [am_onc, sh_nwe10]
def sh_ld10 : List (Nat × Int32) := [(136, 99999), (187, 100000)]
theorem sh_lde10 : nm_ld.filterMap (fun e => if e.1.1 == "CobolParserModel" then some (e.1.2, e.2) else none) = sh_ld10 := by rfl
theorem sh_ldk10 (k : Nat) : nm_ld.lookup ("CobolParserModel", k) = sh_ld10.lookup k := by rw [am_onc, sh_lde10]
def sh_ct10 : List (Nat × (Nat × Nat)) := [(1, (0, 5)), (132, (158, 2)), (177, (160, 0)), (214, (161, 0)), (221, (162, 0)), (297, (163, 0)), (171, (164, 0)), (154, (165, 0)), (143, (166, 0)), (164, (167, 0)), (301, (168, 0)), (167, (169, 0)), (192, (170, 0)), (195, (171, 0)), (198, (172, 0)), (181, (173, 0)), (304, (174, 0)), (285, (175, 0)), (188, (176, 0)), (184, (177, 0)), (307, (178, 0)), (288, (179, 0)), (224, (180, 0)), (258, (181, 0)), (261, (182, 0)), (227, (183, 0)), (230, (184, 0)), (236, (185, 0)), (294, (186, 0)), (316, (187, 0)), (319, (188, 0)), (353, (189, 0)), (364, (190, 0)), (270, (191, 0)), (361, (192, 0)), (357, (193, 0)), (368, (194, 0)), (322, (195, 0)), (325, (196, 0)), (328, (197, 0)), (389, (198, 0)), (395, (199, 0)), (398, (200, 0)), (404, (201, 0)), (407, (202, 0)), (340, (203, 0)), (410, (204, 0)), (413, (205, 0)), (401, (206, 0)), (423, (207, 0)), (419, (208, 0)), (331, (209, 0)), (346, (210, 0)), (349, (211, 0)), (334, (212, 0)), (337, (213, 0)), (343, (214, 0)), (374, (215, 0)), (377, (216, 0)), (380, (217, 0)), (239, (218, 0)), (242, (219, 0)), (246, (220, 0)), (249, (221, 0)), (252, (222, 0)), (264, (223, 0)), (267, (224, 0)), (217, (225, 0)), (426, (227, 2))]
theorem sh_cte10 : nm_ct.filterMap (fun e => if e.1.1 == "CobolParserModel" then some (e.1.2, e.2) else none) = sh_ct10 := by decide +kernel
theorem sh_ctk10 (k : Nat) : nm_ct.lookup ("CobolParserModel", k) = sh_ct10.lookup k := by rw [am_onc, sh_cte10]
def sh_t10 (L : Nat) (xs : Nat → Int32) : am_F := (fun _ k => sh_fl10.lookup k, fun _ k => sh_nw10.lookup k, fun _ k => sh_ld10.lookup k, fun _ k => sh_ct10.lookup k, fun _ _ => none, L, xs)
set_option maxRecDepth 10000 in
theorem sh_a10 (L : Nat) (xs : Nat → Int32) : fn_agr (nm_F L xs) (sh_t10 L xs) "CobolParserModel" := ⟨sh_flk10, sh_nwk10, sh_ldk10, rfl, rfl, sh_ctk10⟩
def sh_fl11 : List (Nat × (Nat × Nat × FieldType × Bool)) := []
theorem sh_fle11 : nm_fl.filterMap (fun e => if e.1.1 == "java/util/Arrays" then some (e.1.2, e.2) else none) = sh_fl11 := by rfl
theorem sh_flk11 (k : Nat) : nm_fl.lookup ("java/util/Arrays", k) = sh_fl11.lookup k := by rw [am_onc, sh_fle11]
def sh_nw11 : List (Nat × (Nat × List Value)) := []
theorem sh_nwe11 : nm_nw.filterMap (fun e => if e.1.1 == "java/util/Arrays" then some (e.1.2, e.2) else none) = sh_nw11 := by rfl
theorem sh_nwk11 (k : Nat) : nm_nw.lookup ("java/util/Arrays", k) = sh_nw11.lookup k := by rw [am_onc, sh_nwe11]
def sh_ld11 : List (Nat × Int32) := []
theorem sh_lde11 : nm_ld.filterMap (fun e => if e.1.1 == "java/util/Arrays" then some (e.1.2, e.2) else none) = sh_ld11 := by rfl
theorem sh_ldk11 (k : Nat) : nm_ld.lookup ("java/util/Arrays", k) = sh_ld11.lookup k := by rw [am_onc, sh_lde11]
def sh_ct11 : List (Nat × (Nat × Nat)) := [(304, (0, 8)), (150, (0, 6))]
theorem sh_cte11 : nm_ct.filterMap (fun e => if e.1.1 == "java/util/Arrays" then some (e.1.2, e.2) else none) = sh_ct11 := by decide +kernel
theorem sh_ctk11 (k : Nat) : nm_ct.lookup ("java/util/Arrays", k) = sh_ct11.lookup k := by rw [am_onc, sh_cte11]
def sh_t11 (L : Nat) (xs : Nat → Int32) : am_F := (fun _ k => sh_fl11.lookup k, fun _ k => sh_nw11.lookup k, fun _ k => sh_ld11.lookup k, fun _ k => sh_ct11.lookup k, fun _ _ => none, L, xs)
set_option maxRecDepth 10000 in
theorem sh_a11 (L : Nat) (xs : Nat → Int32) : fn_agr (nm_F L xs) (sh_t11 L xs) "java/util/Arrays" := ⟨sh_flk11, sh_nwk11, sh_ldk11, rfl, rfl, sh_ctk11⟩
def sh_nm : List String := ["CobolParser", "CobolParser$Clauses", "CobolParser$Expressions", "CobolParser$Items", "CobolParser$Leaves", "CobolParser$Row", "CobolParser$Statements", "CobolParser$Tree", "CobolParser$Units", "CobolParserLaw", "CobolParserModel", "java/util/Arrays"]
def sh_tcl : List Nat := [0, 5, 7, 4, 2, 6, 3, 1, 8, 0, 0, 5, 5, 11, 0, 7, 7, 7, 7, 7, 7, 7, 7, 7, 0, 7, 0, 5, 0, 5, 5, 0, 7, 7, 7, 0, 7, 0, 5, 7, 7, 9, 0, 5, 7, 7, 1, 8, 5, 1, 5, 1, 5, 1, 8, 1, 5, 1, 5, 5, 5, 5, 5, 7, 1, 8, 3, 3, 3, 7, 3, 3, 3, 3, 3, 4, 5, 5, 3, 4, 4, 3, 3, 5, 3, 6, 1, 6, 6, 6, 6, 4, 6, 6, 6, 6, 2, 2, 2, 5, 2, 5, 5, 2, 2, 2, 2, 2, 6, 6, 6, 6, 6, 6, 6, 6, 6, 6, 6, 6, 6, 2, 2, 2, 1, 1, 8, 8, 1, 8, 8, 1, 8, 1, 8, 1, 1, 1, 1, 1, 1, 1, 1, 8, 5, 8, 1, 1, 3, 1, 5, 1, 0, 5, 7, 7, 10, 10, 10, 10, 10, 10, 10, 10, 10, 10, 10, 10, 10, 10, 10, 10, 10, 10, 10, 10, 10, 10, 10, 10, 10, 10, 10, 10, 10, 10, 10, 10, 10, 10, 10, 10, 10, 10, 10, 10, 10, 10, 10, 10, 10, 10, 10, 10, 10, 10, 10, 10, 10, 10, 10, 10, 10, 10, 10, 10, 10, 10, 10, 10, 10, 10, 10, 10, 10, 10, 10, 10, 10, 10, 10, 10, 10, 10]
def sh_tx (L : Nat) (xs : Nat → Int32) (i : Nat) : am_F := match i with
  | 0 => sh_t0 L xs
  | 1 => sh_t1 L xs
  | 2 => sh_t2 L xs
  | 3 => sh_t3 L xs
  | 4 => sh_t4 L xs
  | 5 => sh_t5 L xs
  | 6 => sh_t6 L xs
  | 7 => sh_t7 L xs
  | 8 => sh_t8 L xs
  | 9 => sh_t9 L xs
  | 10 => sh_t10 L xs
  | _ => sh_t11 L xs
def sh_tb (L : Nat) (xs : Nat → Int32) (j : Nat) : am_F := sh_tx L xs (sh_tcl.getD j 0)
def sh_ocl : List (Option Nat) := [some 0, some 1, some 2, some 3, some 5, some 4, some 7, some 6, some 8, some 0, none, some 1, some 1, none, some 0, some 2, some 2, some 2, some 2, some 2, some 2, some 2, some 2, some 2, some 0, some 2, some 0, some 1, some 0, some 1, some 1, some 0, some 2, some 2, some 2, some 0, some 2, some 0, some 1, some 2, some 2, none, some 0, some 1, some 2, some 2, some 6, some 8, some 1, some 6, some 1, some 6, some 1, some 6, some 8, some 6, some 1, some 6, some 1, some 1, some 1, some 1, some 1, some 2, some 6, some 8, some 7, some 7, some 7, some 2, some 7, some 7, some 7, some 7, some 7, some 3, some 1, some 1, some 7, some 3, some 3, some 7, some 7, some 1, some 7, some 4, some 6, some 4, some 4, some 4, some 4, some 3, some 4, some 4, some 4, some 4, some 5, some 5, some 5, some 1, some 5, some 1, some 1, some 5, some 5, some 5, some 5, some 5, some 4, some 4, some 4, some 4, some 4, some 4, some 4, some 4, some 4, some 4, some 4, some 4, some 4, some 5, some 5, some 5, some 6, some 6, some 8, some 8, some 6, some 8, some 8, some 6, some 8, some 6, some 8, some 6, some 6, some 6, some 6, some 6, some 6, some 6, some 6, some 8, some 1, some 8, some 6, some 6, some 7, some 6, some 1, some 6, some 0, some 1, some 2, some 2, some 9, some 9, none, some 9, some 9, some 9, some 9, some 9, some 9, some 9, some 9, some 9, some 9, some 9, some 9, some 9, some 9, some 9, some 9, some 9, some 9, some 9, some 9, some 9, some 9, some 9, some 9, some 9, some 9, some 9, some 9, some 9, some 9, some 9, some 9, some 9, some 9, some 9, some 9, some 9, some 9, some 9, some 9, some 9, some 9, some 9, some 9, some 9, some 9, some 9, some 9, some 9, some 9, some 9, some 9, some 9, some 9, some 9, some 9, some 9, some 9, some 9, some 9, some 9, some 9, some 9, some 9, some 9, some 9, some 9, some 9, none, some 9, some 9, some 9, some 9, some 9, some 9]
def sh_oc (j : Nat) : Option Nat := sh_ocl.getD j none
def sh_okl : List Bool := [false, false, false, false, false, false, false, false, false, true, true, true, true, false, true, true, true, true, true, true, true, true, true, true, true, true, true, true, true, true, true, true, true, true, true, true, true, true, true, true, true, false, false, true, true, true, true, true, true, true, true, true, true, true, true, true, true, true, true, true, true, true, true, true, true, true, true, true, true, true, true, true, true, true, true, true, true, true, true, true, true, true, true, true, true, true, true, true, true, true, true, true, true, true, true, true, true, true, true, true, true, true, true, true, true, true, true, true, true, true, true, true, true, true, true, true, true, true, true, true, true, true, true, true, true, true, true, true, true, true, true, true, true, true, true, true, true, true, true, true, true, true, true, true, true, true, true, true, true, true, true, true, true, true, true, true, false, true, true, true, true, true, true, true, true, true, true, true, true, true, true, true, true, true, true, true, true, true, true, true, true, true, true, true, true, true, true, true, true, true, true, true, true, true, true, true, true, true, true, true, true, true, true, true, true, true, true, true, true, true, true, true, true, true, true, true, true, true, true, true, true, true, true, true, true, true, true, true, true, true, true, true, true, true]
def sh_ok (j : Nat) : Bool := sh_okl.getD j false
def sh_twl : List (Nat × List (Nat × Nat)) := [(56, [(5, 10)]), (152, [(17, 11)])]
def sh_tw (j : Nat) : List (Nat × Nat) := (sh_twl.lookup j).getD []
def sh_chk1 (j : Nat) : Bool := match sh_oc j, nm_ms j with
  | some ci, some N => match nm_cls[ci]? with
    | some q => decide (q.1 = (am_y N).cls)
    | none => false
  | _, _ => true
def sh_chk2 (j : Nat) : Bool := match nm_ms j with
  | some M => !sh_ok j || (decide (sh_nm[sh_tcl.getD j 0]? = some (am_y M).cls) && (sh_tw j).all (fun e => decide (am_tw (nm_F 0 (fun _ => 0)) (am_y M).cls (am_cd M) e.1 = some e.2)) && decide (am_hs M = []) && decide (am_k M ≤ am_n M) && decide ((am_y M).name ≠ "<init>"))
  | none => true
set_option maxRecDepth 100000 in
theorem sh_chk1_all : (List.range 234).all sh_chk1 = true := by decide +kernel
set_option maxRecDepth 100000 in
theorem sh_chk2_all : (List.range 234).all sh_chk2 = true := by decide +kernel
theorem sh_lt {j : Nat} {M : am_M} (h : nm_ms j = some M) : j < 234 := by
  unfold nm_ms at h
  cases hq : nm_ML[j]? with
  | none => rw [hq] at h; cases h
  | some q => exact (List.getElem?_eq_some_iff.mp hq).1
theorem sh_lk {l : List (Nat × Nat)} {k x : Nat} (h : l.lookup k = some x) : (k, x) ∈ l := by
  induction l with
  | nil => cases h
  | cons a t ih =>
    obtain ⟨k2, v⟩ := a
    rw [List.lookup_cons] at h
    split at h
    · rename_i hk
      cases h
      have e : k = k2 := by simpa using hk
      rw [e]
      exact List.mem_cons_self
    · exact List.mem_cons_of_mem _ (ih h)
theorem sh_agr (L : Nat) (xs : Nat → Int32) {i : Nat} {c : String} (h : sh_nm[i]? = some c) : fn_agr (nm_F L xs) (sh_tx L xs i) c := by
  match i, h with
  | 0, h => cases h; exact sh_a0 L xs
  | 1, h => cases h; exact sh_a1 L xs
  | 2, h => cases h; exact sh_a2 L xs
  | 3, h => cases h; exact sh_a3 L xs
  | 4, h => cases h; exact sh_a4 L xs
  | 5, h => cases h; exact sh_a5 L xs
  | 6, h => cases h; exact sh_a6 L xs
  | 7, h => cases h; exact sh_a7 L xs
  | 8, h => cases h; exact sh_a8 L xs
  | 9, h => cases h; exact sh_a9 L xs
  | 10, h => cases h; exact sh_a10 L xs
  | 11, h => cases h; exact sh_a11 L xs
  | n + 12, h => simp [sh_nm] at h
theorem sh_okA (L : Nat) (xs : Nat → Int32) : fn_ok (nm_F L xs) nm_cls nm_ms (sh_tb L xs) sh_oc sh_ok sh_tw := by
  refine ⟨fun j ci N h1 h2 => ?_, fun j M h1 h2 => ?_⟩
  · have h3 := List.all_eq_true.mp sh_chk1_all j (List.mem_range.mpr (sh_lt h2))
    unfold sh_chk1 at h3
    rw [h1, h2] at h3
    dsimp only at h3
    split at h3
    · rename_i q hq
      exact ⟨q, hq, of_decide_eq_true h3⟩
    · cases h3
  · have h3 := List.all_eq_true.mp sh_chk2_all j (List.mem_range.mpr (sh_lt h2))
    unfold sh_chk2 at h3
    rw [h2] at h3
    dsimp only at h3
    rw [h1] at h3
    simp only [Bool.not_true, Bool.false_or, Bool.and_eq_true, decide_eq_true_eq] at h3
    obtain ⟨⟨⟨⟨c1, c2⟩, c3⟩, c4⟩, c5⟩ := h3
    refine ⟨sh_agr L xs c1, fun pc x hx => ?_, c3, c4, c5⟩
    exact of_decide_eq_true (List.all_eq_true.mp c2 (pc, x) (sh_lk hx))
/-- a call of a method, as a function: m jumps backwards, d calls deep -/
abbrev ev (L : Nat) (xs : Nat → Int32) (m d : Nat) : fn_E := fn_ev (sh_tb L xs) nm_Y nm_RG 13 nm_ms sh_oc sh_ok sh_tw 900 m d
theorem ev_sound (L : Nat) (xs : Nat → Int32) (m d j : Nat) (as : List Value) (g : a2_G) (r : a2_A) (z : fn_Z) (h : ev L xs m d j as g r = some z) : a2_Ev (nm_F L xs) nm_cls nm_ms nm_Y nm_RG 13 d j as g r z.1 z.2.1 z.2.2 := fn_sound (sh_okA L xs) d j as g r z h
