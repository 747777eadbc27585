/-! methods, their code decoded, by wip/whole/gen.py -/
def nm_Ns : List Jvm.Cond := [(Cond.methodLinkNest "CobolParser" (9 : Nat) ({ cls := "CobolParser$Row", name := "<init>", desc := "()V" } : Jvm.MethodName) "CobolParser"), (Cond.methodLinkNest "CobolParser" (18 : Nat) ({ cls := "CobolParser$Tree", name := "<init>", desc := "()V" } : Jvm.MethodName) "CobolParser"), (Cond.methodLinkNest "CobolParser$Clauses" (11 : Nat) ({ cls := "CobolParser$Units", name := "<init>", desc := "()V" } : Jvm.MethodName) "CobolParser"), (Cond.methodLinkNest "CobolParser$Clauses" (228 : Nat) ({ cls := "CobolParser$Statements", name := "list", desc := "(II)I" } : Jvm.MethodName) "CobolParser"), (Cond.methodLinkNest "CobolParser$Statements" (153 : Nat) ({ cls := "CobolParser$Expressions", name := "condition", desc := "(I)I" } : Jvm.MethodName) "CobolParser"), (Cond.methodLinkNest "CobolParser$Statements" (138 : Nat) ({ cls := "CobolParser$Expressions", name := "sum", desc := "(I)I" } : Jvm.MethodName) "CobolParser"), Cond.castable "java/lang/IllegalArgumentException" "java/lang/IllegalArgumentException", Cond.castable "java/lang/IllegalStateException" "java/lang/IllegalStateException", (Cond.declares ({ cls := "java/lang/RuntimeException", name := "<init>", desc := "()V" } : Jvm.MethodName)), (Cond.declares ({ cls := "java/lang/RuntimeException", name := "<init>", desc := "(Ljava/lang/String;)V" } : Jvm.MethodName)), (Cond.declares ({ cls := "java/lang/Exception", name := "<init>", desc := "()V" } : Jvm.MethodName)), (Cond.declares ({ cls := "java/lang/Exception", name := "<init>", desc := "(Ljava/lang/String;)V" } : Jvm.MethodName)), (Cond.declares ({ cls := "java/lang/Throwable", name := "<init>", desc := "()V" } : Jvm.MethodName)), (Cond.declares ({ cls := "java/lang/Throwable", name := "<init>", desc := "(Ljava/lang/String;)V" } : Jvm.MethodName))]
theorem nm_ca10 : Cond.castable "java/lang/IllegalArgumentException" "java/lang/IllegalArgumentException" ∈ nm_Ns := List.mem_of_getElem? (i := 6) rfl
theorem nm_ca11 : Cond.castable "java/lang/IllegalStateException" "java/lang/IllegalStateException" ∈ nm_Ns := List.mem_of_getElem? (i := 7) rfl
/-- what is asked of a method, with the machine's table of handlers -/
def nm_okM (M : am_M) (hh : List (Nat × Nat × Nat × Nat)) : Prop := (∀ e ∈ am_cd M, decode (am_b M) e.1 = .ok (e.2.1, e.2.2)) ∧ plainName (am_y M).cls = true ∧ am_cw (am_y M) (am_b M) (am_n M) (am_r M) hh ∈ nm_Tg ∧ Cond.initialized (am_y M).cls ∈ nm_Tg ∧ ((am_y M).cls ≠ "java/lang/invoke/MethodHandle" ∧ (am_y M).cls ≠ "java/lang/invoke/VarHandle") ∧ am_n M ≤ 40 ∧ ((am_hs M = [] ∧ hh = []) ∨ ∃ (f t w x ck : Nat) (E : String) (T : u_T), am_hs M = [(f, t, w, x)] ∧ hh = [(f, t, w, ck)] ∧ ck ≠ 0 ∧ Cond.classLink (am_y M).cls ck E ∈ nm_Tg ∧ nm_cls[x]? = some (E, T, 0) ∧ Cond.castable E E ∈ nm_Ns)
theorem nm_pn0 : plainName "CobolParser" = true := by decide +kernel
theorem nm_ne0 : ("CobolParser" : String) ≠ "java/lang/invoke/MethodHandle" ∧ ("CobolParser" : String) ≠ "java/lang/invoke/VarHandle" := by decide +kernel
theorem nm_ii0 : Cond.initialized "CobolParser" ∈ nm_Tg := (nm_in1 (List.mem_of_getElem? (i := 1) rfl) rfl)
theorem nm_pn1 : plainName "CobolParser$Clauses" = true := by decide +kernel
theorem nm_ne1 : ("CobolParser$Clauses" : String) ≠ "java/lang/invoke/MethodHandle" ∧ ("CobolParser$Clauses" : String) ≠ "java/lang/invoke/VarHandle" := by decide +kernel
theorem nm_ii1 : Cond.initialized "CobolParser$Clauses" ∈ nm_Tg := (nm_in1 (List.mem_of_getElem? (i := 7) rfl) rfl)
theorem nm_pn2 : plainName "CobolParser$Expressions" = true := by decide +kernel
theorem nm_ne2 : ("CobolParser$Expressions" : String) ≠ "java/lang/invoke/MethodHandle" ∧ ("CobolParser$Expressions" : String) ≠ "java/lang/invoke/VarHandle" := by decide +kernel
theorem nm_ii2 : Cond.initialized "CobolParser$Expressions" ∈ nm_Tg := (nm_in1 (List.mem_of_getElem? (i := 6) rfl) rfl)
theorem nm_pn3 : plainName "CobolParser$Items" = true := by decide +kernel
theorem nm_ne3 : ("CobolParser$Items" : String) ≠ "java/lang/invoke/MethodHandle" ∧ ("CobolParser$Items" : String) ≠ "java/lang/invoke/VarHandle" := by decide +kernel
theorem nm_ii3 : Cond.initialized "CobolParser$Items" ∈ nm_Tg := (nm_in1 (List.mem_of_getElem? (i := 8) rfl) rfl)
theorem nm_pn4 : plainName "CobolParser$Leaves" = true := by decide +kernel
theorem nm_ne4 : ("CobolParser$Leaves" : String) ≠ "java/lang/invoke/MethodHandle" ∧ ("CobolParser$Leaves" : String) ≠ "java/lang/invoke/VarHandle" := by decide +kernel
theorem nm_ii4 : Cond.initialized "CobolParser$Leaves" ∈ nm_Tg := (nm_in1 (List.mem_of_getElem? (i := 4) rfl) rfl)
theorem nm_pn5 : plainName "CobolParser$Row" = true := by decide +kernel
theorem nm_ne5 : ("CobolParser$Row" : String) ≠ "java/lang/invoke/MethodHandle" ∧ ("CobolParser$Row" : String) ≠ "java/lang/invoke/VarHandle" := by decide +kernel
theorem nm_ii5 : Cond.initialized "CobolParser$Row" ∈ nm_Tg := (nm_in1 (List.mem_of_getElem? (i := 2) rfl) rfl)
theorem nm_pn6 : plainName "CobolParser$Statements" = true := by decide +kernel
theorem nm_ne6 : ("CobolParser$Statements" : String) ≠ "java/lang/invoke/MethodHandle" ∧ ("CobolParser$Statements" : String) ≠ "java/lang/invoke/VarHandle" := by decide +kernel
theorem nm_ii6 : Cond.initialized "CobolParser$Statements" ∈ nm_Tg := (nm_in1 (List.mem_of_getElem? (i := 5) rfl) rfl)
theorem nm_pn7 : plainName "CobolParser$Tree" = true := by decide +kernel
theorem nm_ne7 : ("CobolParser$Tree" : String) ≠ "java/lang/invoke/MethodHandle" ∧ ("CobolParser$Tree" : String) ≠ "java/lang/invoke/VarHandle" := by decide +kernel
theorem nm_ii7 : Cond.initialized "CobolParser$Tree" ∈ nm_Tg := (nm_in1 (List.mem_of_getElem? (i := 3) rfl) rfl)
theorem nm_pn8 : plainName "CobolParser$Units" = true := by decide +kernel
theorem nm_ne8 : ("CobolParser$Units" : String) ≠ "java/lang/invoke/MethodHandle" ∧ ("CobolParser$Units" : String) ≠ "java/lang/invoke/VarHandle" := by decide +kernel
theorem nm_ii8 : Cond.initialized "CobolParser$Units" ∈ nm_Tg := (nm_in1 (List.mem_of_getElem? (i := 9) rfl) rfl)
theorem nm_pn9 : plainName "CobolParserLaw" = true := by decide +kernel
theorem nm_ne9 : ("CobolParserLaw" : String) ≠ "java/lang/invoke/MethodHandle" ∧ ("CobolParserLaw" : String) ≠ "java/lang/invoke/VarHandle" := by decide +kernel
theorem nm_ii9 : Cond.initialized "CobolParserLaw" ∈ nm_Tg := (nm_in1 (List.mem_of_getElem? (i := 0) rfl) rfl)
theorem nm_pn10 : plainName "CobolParserModel" = true := by decide +kernel
theorem nm_ne10 : ("CobolParserModel" : String) ≠ "java/lang/invoke/MethodHandle" ∧ ("CobolParserModel" : String) ≠ "java/lang/invoke/VarHandle" := by decide +kernel
theorem nm_ii10 : Cond.initialized "CobolParserModel" ∈ nm_Tg := (nm_in1 (List.mem_of_getElem? (i := 10) rfl) rfl)
theorem nm_pn11 : plainName "java/util/Arrays" = true := by decide +kernel
theorem nm_ne11 : ("java/util/Arrays" : String) ≠ "java/lang/invoke/MethodHandle" ∧ ("java/util/Arrays" : String) ≠ "java/lang/invoke/VarHandle" := by decide +kernel
theorem nm_ii11 : Cond.initialized "java/util/Arrays" ∈ nm_Tg := (nm_in1 (List.mem_of_getElem? (i := 11) rfl) rfl)
def nm_m0 : am_M := (⟨"CobolParser", "<init>", "()V"⟩, prog_1_method_1_code, 3, none, [], 1, [(0, .aload_n 0, 1), (1, .invokespecial 1, 3), (4, .aload_n 0, 1), (5, .new 7, 3), (8, .dup, 1), (9, .invokespecial 9, 3), (12, .putfield 10, 3), (15, .aload_n 0, 1), (16, .new 16, 3), (19, .dup, 1), (20, .invokespecial 18, 3), (23, .putfield 19, 3), (26, .new 23, 3), (29, .dup, 1), (30, .aload_n 0, 1), (31, .getfield 10, 3), (34, .aload_n 0, 1), (35, .getfield 19, 3), (38, .invokespecial 25, 3), (41, .astore_n 1, 1), (42, .new 28, 3), (45, .dup, 1), (46, .aload_n 0, 1), (47, .getfield 10, 3), (50, .aload_n 0, 1), (51, .getfield 19, 3), (54, .aload_n 1, 1), (55, .new 30, 3), (58, .dup, 1), (59, .aload_n 0, 1), (60, .getfield 10, 3), (63, .aload_n 0, 1), (64, .getfield 19, 3), (67, .aload_n 1, 1), (68, .invokespecial 32, 3), (71, .invokespecial 35, 3), (74, .astore_n 2, 1), (75, .aload_n 0, 1), (76, .new 38, 3), (79, .dup, 1), (80, .aload_n 0, 1), (81, .getfield 10, 3), (84, .aload_n 0, 1), (85, .getfield 19, 3), (88, .aload_n 1, 1), (89, .aload_n 2, 1), (90, .new 40, 3), (93, .dup, 1), (94, .aload_n 0, 1), (95, .getfield 10, 3), (98, .aload_n 0, 1), (99, .getfield 19, 3), (102, .aload_n 1, 1), (103, .invokespecial 42, 3), (106, .invokespecial 43, 3), (109, .putfield 46, 3), (112, .return_, 1)])
set_option maxRecDepth 100000 in
theorem nm_d0 : ∀ e ∈ am_cd nm_m0, decode (am_b nm_m0) e.1 = .ok (e.2.1, e.2.2) := by decide +kernel
theorem nm_o0 : nm_okM nm_m0 [] := ⟨nm_d0, nm_pn0, (nm_in1 (List.mem_of_getElem? (i := 23) rfl) rfl), nm_ii0, nm_ne0, Nat.le_of_ble_eq_true rfl, Or.inl ⟨rfl, rfl⟩⟩
def nm_m1 : am_M := (⟨"CobolParser$Row", "<init>", "()V"⟩, prog_8_method_1_code, 1, none, [], 1, [(0, .aload_n 0, 1), (1, .invokespecial 3, 3), (4, .aload_n 0, 1), (5, .bipush 64, 2), (7, .newarray .int, 2), (9, .putfield 11, 3), (12, .aload_n 0, 1), (13, .bipush 64, 2), (15, .newarray .int, 2), (17, .putfield 15, 3), (20, .aload_n 0, 1), (21, .iconst 0, 1), (22, .putfield 18, 3), (25, .aload_n 0, 1), (26, .iconst 0, 1), (27, .putfield 22, 3), (30, .aload_n 0, 1), (31, .iconst 0, 1), (32, .putfield 25, 3), (35, .aload_n 0, 1), (36, .bipush 20, 2), (38, .newarray .int, 2), (40, .putfield 28, 3), (43, .aload_n 0, 1), (44, .bipush 20, 2), (46, .newarray .int, 2), (48, .putfield 31, 3), (51, .aload_n 0, 1), (52, .iconst 0, 1), (53, .putfield 34, 3), (56, .return_, 1)])
set_option maxRecDepth 100000 in
theorem nm_d1 : ∀ e ∈ am_cd nm_m1, decode (am_b nm_m1) e.1 = .ok (e.2.1, e.2.2) := by decide +kernel
theorem nm_o1 : nm_okM nm_m1 [] := ⟨nm_d1, nm_pn5, (nm_in1 (List.mem_of_getElem? (i := 31) rfl) rfl), nm_ii5, nm_ne5, Nat.le_of_ble_eq_true rfl, Or.inl ⟨rfl, rfl⟩⟩
def nm_m2 : am_M := (⟨"CobolParser$Tree", "<init>", "()V"⟩, prog_10_method_1_code, 1, none, [], 1, [(0, .aload_n 0, 1), (1, .invokespecial 3, 3), (4, .aload_n 0, 1), (5, .sipush 1152, 3), (8, .newarray .int, 2), (10, .putfield 11, 3), (13, .aload_n 0, 1), (14, .iconst 0, 1), (15, .putfield 15, 3), (18, .aload_n 0, 1), (19, .iconst 0, 1), (20, .putfield 19, 3), (23, .aload_n 0, 1), (24, .iconst 0, 1), (25, .putfield 22, 3), (28, .aload_n 0, 1), (29, .iconst 0, 1), (30, .putfield 25, 3), (33, .return_, 1)])
set_option maxRecDepth 100000 in
theorem nm_d2 : ∀ e ∈ am_cd nm_m2, decode (am_b nm_m2) e.1 = .ok (e.2.1, e.2.2) := by decide +kernel
theorem nm_o2 : nm_okM nm_m2 [] := ⟨nm_d2, nm_pn7, (nm_in1 (List.mem_of_getElem? (i := 63) rfl) rfl), nm_ii7, nm_ne7, Nat.le_of_ble_eq_true rfl, Or.inl ⟨rfl, rfl⟩⟩
def nm_m3 : am_M := (⟨"CobolParser$Leaves", "<init>", "(LCobolParser$Row;LCobolParser$Tree;)V"⟩, prog_5_method_1_code, 3, none, [], 3, [(0, .aload_n 0, 1), (1, .invokespecial 3, 3), (4, .aload_n 0, 1), (5, .aload_n 1, 1), (6, .putfield 9, 3), (9, .aload_n 0, 1), (10, .aload_n 2, 1), (11, .putfield 15, 3), (14, .return_, 1)])
set_option maxRecDepth 100000 in
theorem nm_d3 : ∀ e ∈ am_cd nm_m3, decode (am_b nm_m3) e.1 = .ok (e.2.1, e.2.2) := by decide +kernel
theorem nm_o3 : nm_okM nm_m3 [] := ⟨nm_d3, nm_pn4, (nm_in1 (List.mem_of_getElem? (i := 85) rfl) rfl), nm_ii4, nm_ne4, Nat.le_of_ble_eq_true rfl, Or.inl ⟨rfl, rfl⟩⟩
def nm_m4 : am_M := (⟨"CobolParser$Expressions", "<init>", "(LCobolParser$Row;LCobolParser$Tree;LCobolParser$Leaves;)V"⟩, prog_3_method_1_code, 4, none, [], 4, [(0, .aload_n 0, 1), (1, .invokespecial 3, 3), (4, .aload_n 0, 1), (5, .iconst (-1), 1), (6, .putfield 9, 3), (9, .aload_n 0, 1), (10, .iconst 0, 1), (11, .putfield 15, 3), (14, .aload_n 0, 1), (15, .aload_n 1, 1), (16, .putfield 18, 3), (19, .aload_n 0, 1), (20, .aload_n 2, 1), (21, .putfield 22, 3), (24, .aload_n 0, 1), (25, .aload_n 3, 1), (26, .putfield 26, 3), (29, .return_, 1)])
set_option maxRecDepth 100000 in
theorem nm_d4 : ∀ e ∈ am_cd nm_m4, decode (am_b nm_m4) e.1 = .ok (e.2.1, e.2.2) := by decide +kernel
theorem nm_o4 : nm_okM nm_m4 [] := ⟨nm_d4, nm_pn2, (nm_in1 (List.mem_of_getElem? (i := 100) rfl) rfl), nm_ii2, nm_ne2, Nat.le_of_ble_eq_true rfl, Or.inl ⟨rfl, rfl⟩⟩
def nm_m5 : am_M := (⟨"CobolParser$Statements", "<init>", "(LCobolParser$Row;LCobolParser$Tree;LCobolParser$Leaves;LCobolParser$Expressions;)V"⟩, prog_9_method_1_code, 5, none, [], 5, [(0, .aload_n 0, 1), (1, .invokespecial 3, 3), (4, .aload_n 0, 1), (5, .aload_n 1, 1), (6, .putfield 9, 3), (9, .aload_n 0, 1), (10, .aload_n 2, 1), (11, .putfield 15, 3), (14, .aload_n 0, 1), (15, .aload_n 3, 1), (16, .putfield 19, 3), (19, .aload_n 0, 1), (20, .aload 4, 2), (22, .putfield 23, 3), (25, .return_, 1)])
set_option maxRecDepth 100000 in
theorem nm_d5 : ∀ e ∈ am_cd nm_m5, decode (am_b nm_m5) e.1 = .ok (e.2.1, e.2.2) := by decide +kernel
theorem nm_o5 : nm_okM nm_m5 [] := ⟨nm_d5, nm_pn6, (nm_in1 (List.mem_of_getElem? (i := 120) rfl) rfl), nm_ii6, nm_ne6, Nat.le_of_ble_eq_true rfl, Or.inl ⟨rfl, rfl⟩⟩
def nm_m6 : am_M := (⟨"CobolParser$Items", "<init>", "(LCobolParser$Row;LCobolParser$Tree;LCobolParser$Leaves;)V"⟩, prog_4_method_1_code, 4, none, [], 4, [(0, .aload_n 0, 1), (1, .invokespecial 3, 3), (4, .aload_n 0, 1), (5, .bipush 49, 2), (7, .newarray .int, 2), (9, .putfield 11, 3), (12, .aload_n 0, 1), (13, .bipush 49, 2), (15, .newarray .int, 2), (17, .putfield 15, 3), (20, .aload_n 0, 1), (21, .iconst 0, 1), (22, .putfield 18, 3), (25, .aload_n 0, 1), (26, .iconst (-1), 1), (27, .putfield 22, 3), (30, .aload_n 0, 1), (31, .aload_n 1, 1), (32, .putfield 25, 3), (35, .aload_n 0, 1), (36, .aload_n 2, 1), (37, .putfield 29, 3), (40, .aload_n 0, 1), (41, .aload_n 3, 1), (42, .putfield 33, 3), (45, .return_, 1)])
set_option maxRecDepth 100000 in
theorem nm_d6 : ∀ e ∈ am_cd nm_m6, decode (am_b nm_m6) e.1 = .ok (e.2.1, e.2.2) := by decide +kernel
theorem nm_o6 : nm_okM nm_m6 [] := ⟨nm_d6, nm_pn3, (nm_in1 (List.mem_of_getElem? (i := 141) rfl) rfl), nm_ii3, nm_ne3, Nat.le_of_ble_eq_true rfl, Or.inl ⟨rfl, rfl⟩⟩
def nm_m7 : am_M := (⟨"CobolParser$Clauses", "<init>", "(LCobolParser$Row;LCobolParser$Tree;LCobolParser$Leaves;LCobolParser$Statements;LCobolParser$Items;)V"⟩, prog_2_method_1_code, 6, none, [], 6, [(0, .aload_n 0, 1), (1, .invokespecial 3, 3), (4, .aload_n 0, 1), (5, .new 9, 3), (8, .dup, 1), (9, .invokespecial 11, 3), (12, .putfield 12, 3), (15, .aload_n 0, 1), (16, .iconst (-1), 1), (17, .putfield 18, 3), (20, .aload_n 0, 1), (21, .iconst (-1), 1), (22, .putfield 22, 3), (25, .aload_n 0, 1), (26, .iconst (-1), 1), (27, .putfield 25, 3), (30, .aload_n 0, 1), (31, .iconst (-1), 1), (32, .putfield 28, 3), (35, .aload_n 0, 1), (36, .aload_n 1, 1), (37, .putfield 31, 3), (40, .aload_n 0, 1), (41, .aload_n 2, 1), (42, .putfield 35, 3), (45, .aload_n 0, 1), (46, .aload_n 3, 1), (47, .putfield 39, 3), (50, .aload_n 0, 1), (51, .aload 4, 2), (53, .putfield 43, 3), (56, .aload_n 0, 1), (57, .aload 5, 2), (59, .putfield 47, 3), (62, .return_, 1)])
set_option maxRecDepth 100000 in
theorem nm_d7 : ∀ e ∈ am_cd nm_m7, decode (am_b nm_m7) e.1 = .ok (e.2.1, e.2.2) := by decide +kernel
theorem nm_o7 : nm_okM nm_m7 [] := ⟨nm_d7, nm_pn1, (nm_in1 (List.mem_of_getElem? (i := 167) rfl) rfl), nm_ii1, nm_ne1, Nat.le_of_ble_eq_true rfl, Or.inl ⟨rfl, rfl⟩⟩
def nm_m8 : am_M := (⟨"CobolParser$Units", "<init>", "()V"⟩, prog_11_method_1_code, 1, none, [], 1, [(0, .aload_n 0, 1), (1, .invokespecial 3, 3), (4, .aload_n 0, 1), (5, .bipush 10, 2), (7, .newarray .int, 2), (9, .putfield 9, 3), (12, .aload_n 0, 1), (13, .bipush 10, 2), (15, .newarray .int, 2), (17, .putfield 15, 3), (20, .aload_n 0, 1), (21, .bipush 10, 2), (23, .newarray .int, 2), (25, .putfield 18, 3), (28, .aload_n 0, 1), (29, .bipush 10, 2), (31, .newarray .int, 2), (33, .putfield 21, 3), (36, .aload_n 0, 1), (37, .iconst 0, 1), (38, .putfield 24, 3), (41, .return_, 1)])
set_option maxRecDepth 100000 in
theorem nm_d8 : ∀ e ∈ am_cd nm_m8, decode (am_b nm_m8) e.1 = .ok (e.2.1, e.2.2) := by decide +kernel
theorem nm_o8 : nm_okM nm_m8 [] := ⟨nm_d8, nm_pn8, (nm_in1 (List.mem_of_getElem? (i := 173) rfl) rfl), nm_ii8, nm_ne8, Nat.le_of_ble_eq_true rfl, Or.inl ⟨rfl, rfl⟩⟩
def nm_m9 : am_M := (⟨"CobolParser", "word", "(II)I"⟩, prog_1_method_2_code, 3, (some .int), [], 3, [(0, .iload_n 1, 1), (1, .iload_n 2, 1), (2, .invokestatic 50, 3), (5, .ifCond .ne 6, 3), (8, .bipush (-4), 2), (10, .ireturn, 1), (11, .aload_n 0, 1), (12, .getfield 10, 3), (15, .invokevirtual 54, 3), (18, .ifCond .eq 7, 3), (21, .iconst (-1), 1), (22, .goto 12, 3), (25, .aload_n 0, 1), (26, .getfield 10, 3), (29, .iload_n 1, 1), (30, .iload_n 2, 1), (31, .invokevirtual 58, 3), (34, .ireturn, 1)])
set_option maxRecDepth 100000 in
theorem nm_d9 : ∀ e ∈ am_cd nm_m9, decode (am_b nm_m9) e.1 = .ok (e.2.1, e.2.2) := by decide +kernel
theorem nm_o9 : nm_okM nm_m9 [] := ⟨nm_d9, nm_pn0, (nm_in1 (List.mem_of_getElem? (i := 235) rfl) rfl), nm_ii0, nm_ne0, Nat.le_of_ble_eq_true rfl, Or.inl ⟨rfl, rfl⟩⟩
def nm_m10 : am_M := (⟨"CobolParser", "isWord", "(II)Z"⟩, prog_1_method_11_code, 2, (some .boolean), [], 2, [(0, .iload_n 0, 1), (1, .tableswitch 105 0 5 #[39, 55, 71, 55, 87, 89], 39), (40, .iload_n 1, 1), (41, .ifCond .lt 13, 3), (44, .iload_n 1, 1), (45, .bipush 78, 2), (47, .if_icmp .gt 7, 3), (50, .iconst 1, 1), (51, .goto 4, 3), (54, .iconst 0, 1), (55, .ireturn, 1), (56, .iload_n 1, 1), (57, .ifCond .lt 13, 3), (60, .iload_n 1, 1), (61, .bipush 99, 2), (63, .if_icmp .gt 7, 3), (66, .iconst 1, 1), (67, .goto 4, 3), (70, .iconst 0, 1), (71, .ireturn, 1), (72, .iload_n 1, 1), (73, .ifCond .lt 13, 3), (76, .iload_n 1, 1), (77, .ldc 138, 2), (79, .if_icmp .gt 7, 3), (82, .iconst 1, 1), (83, .goto 4, 3), (86, .iconst 0, 1), (87, .ireturn, 1), (88, .iconst 1, 1), (89, .ireturn, 1), (90, .iload_n 1, 1), (91, .ifCond .lt 13, 3), (94, .iload_n 1, 1), (95, .bipush 8, 2), (97, .if_icmp .gt 7, 3), (100, .iconst 1, 1), (101, .goto 4, 3), (104, .iconst 0, 1), (105, .ireturn, 1), (106, .iconst 0, 1), (107, .ireturn, 1)])
set_option maxRecDepth 100000 in
theorem nm_d10 : ∀ e ∈ am_cd nm_m10, decode (am_b nm_m10) e.1 = .ok (e.2.1, e.2.2) := by decide +kernel
theorem nm_o10 : nm_okM nm_m10 [] := ⟨nm_d10, nm_pn0, (nm_in1 (List.mem_of_getElem? (i := 238) rfl) rfl), nm_ii0, nm_ne0, Nat.le_of_ble_eq_true rfl, Or.inl ⟨rfl, rfl⟩⟩
def nm_m11 : am_M := (⟨"CobolParser$Row", "isFull", "()Z"⟩, prog_8_method_2_code, 1, (some .boolean), [], 1, [(0, .aload_n 0, 1), (1, .getfield 18, 3), (4, .sipush 1500, 3), (7, .if_icmp .lt 7, 3), (10, .iconst 1, 1), (11, .goto 4, 3), (14, .iconst 0, 1), (15, .ireturn, 1)])
set_option maxRecDepth 100000 in
theorem nm_d11 : ∀ e ∈ am_cd nm_m11, decode (am_b nm_m11) e.1 = .ok (e.2.1, e.2.2) := by decide +kernel
theorem nm_o11 : nm_okM nm_m11 [] := ⟨nm_d11, nm_pn5, (nm_in2 (List.mem_of_getElem? (i := 3) rfl) rfl), nm_ii5, nm_ne5, Nat.le_of_ble_eq_true rfl, Or.inl ⟨rfl, rfl⟩⟩
def nm_m12 : am_M := (⟨"CobolParser$Row", "add", "(II)I"⟩, prog_8_method_3_code, 3, (some .int), [], 3, [(0, .aload_n 0, 1), (1, .getfield 18, 3), (4, .aload_n 0, 1), (5, .getfield 11, 3), (8, .arraylength, 1), (9, .if_icmp .lt 37, 3), (12, .aload_n 0, 1), (13, .aload_n 0, 1), (14, .getfield 11, 3), (17, .iconst 2, 1), (18, .aload_n 0, 1), (19, .getfield 18, 3), (22, .imul, 1), (23, .invokestatic 37, 3), (26, .putfield 11, 3), (29, .aload_n 0, 1), (30, .aload_n 0, 1), (31, .getfield 15, 3), (34, .iconst 2, 1), (35, .aload_n 0, 1), (36, .getfield 18, 3), (39, .imul, 1), (40, .invokestatic 37, 3), (43, .putfield 15, 3), (46, .aload_n 0, 1), (47, .getfield 11, 3), (50, .aload_n 0, 1), (51, .getfield 18, 3), (54, .iload_n 1, 1), (55, .iastore, 1), (56, .aload_n 0, 1), (57, .getfield 15, 3), (60, .aload_n 0, 1), (61, .getfield 18, 3), (64, .iload_n 2, 1), (65, .iastore, 1), (66, .aload_n 0, 1), (67, .dup, 1), (68, .getfield 18, 3), (71, .iconst 1, 1), (72, .iadd, 1), (73, .putfield 18, 3), (76, .aload_n 0, 1), (77, .getfield 18, 3), (80, .ireturn, 1)])
set_option maxRecDepth 100000 in
theorem nm_d12 : ∀ e ∈ am_cd nm_m12, decode (am_b nm_m12) e.1 = .ok (e.2.1, e.2.2) := by decide +kernel
theorem nm_o12 : nm_okM nm_m12 [] := ⟨nm_d12, nm_pn5, (nm_in2 (List.mem_of_getElem? (i := 7) rfl) rfl), nm_ii5, nm_ne5, Nat.le_of_ble_eq_true rfl, Or.inl ⟨rfl, rfl⟩⟩
def nm_m13 : am_M := (⟨"java/util/Arrays", "copyOf", "([II)[I"⟩, prog_23_method_123_code, 3, (some (.array .int)), [], 2, [(0, .iload_n 1, 1), (1, .aload_n 0, 1), (2, .arraylength, 1), (3, .if_icmp .ne 11, 3), (6, .aload_n 0, 1), (7, .invokevirtual 316, 3), (10, .checkcast 317, 3), (13, .areturn, 1), (14, .iload_n 1, 1), (15, .newarray .int, 2), (17, .astore_n 2, 1), (18, .aload_n 0, 1), (19, .iconst 0, 1), (20, .aload_n 2, 1), (21, .iconst 0, 1), (22, .aload_n 0, 1), (23, .arraylength, 1), (24, .iload_n 1, 1), (25, .invokestatic 304, 3), (28, .invokestatic 150, 3), (31, .aload_n 2, 1), (32, .areturn, 1)])
set_option maxRecDepth 100000 in
theorem nm_d13 : ∀ e ∈ am_cd nm_m13, decode (am_b nm_m13) e.1 = .ok (e.2.1, e.2.2) := by decide +kernel
theorem nm_o13 : nm_okM nm_m13 [] := ⟨nm_d13, nm_pn11, (nm_in2 (List.mem_of_getElem? (i := 10) rfl) rfl), nm_ii11, nm_ne11, Nat.le_of_ble_eq_true rfl, Or.inl ⟨rfl, rfl⟩⟩
def nm_m14 : am_M := (⟨"CobolParser", "node", "(II)I"⟩, prog_1_method_4_code, 3, (some .int), [], 3, [(0, .iload_n 2, 1), (1, .tableswitch 93 0 5 #[39, 48, 57, 66, 75, 84], 39), (40, .aload_n 0, 1), (41, .getfield 19, 3), (44, .iload_n 1, 1), (45, .invokevirtual 85, 3), (48, .ireturn, 1), (49, .aload_n 0, 1), (50, .getfield 19, 3), (53, .iload_n 1, 1), (54, .invokevirtual 89, 3), (57, .ireturn, 1), (58, .aload_n 0, 1), (59, .getfield 19, 3), (62, .iload_n 1, 1), (63, .invokevirtual 92, 3), (66, .ireturn, 1), (67, .aload_n 0, 1), (68, .getfield 19, 3), (71, .iload_n 1, 1), (72, .invokevirtual 95, 3), (75, .ireturn, 1), (76, .aload_n 0, 1), (77, .getfield 19, 3), (80, .iload_n 1, 1), (81, .invokevirtual 98, 3), (84, .ireturn, 1), (85, .aload_n 0, 1), (86, .getfield 19, 3), (89, .iload_n 1, 1), (90, .invokevirtual 101, 3), (93, .ireturn, 1), (94, .iconst (-1), 1), (95, .ireturn, 1)])
set_option maxRecDepth 100000 in
theorem nm_d14 : ∀ e ∈ am_cd nm_m14, decode (am_b nm_m14) e.1 = .ok (e.2.1, e.2.2) := by decide +kernel
theorem nm_o14 : nm_okM nm_m14 [] := ⟨nm_d14, nm_pn0, (nm_in2 (List.mem_of_getElem? (i := 27) rfl) rfl), nm_ii0, nm_ne0, Nat.le_of_ble_eq_true rfl, Or.inl ⟨rfl, rfl⟩⟩
def nm_m15 : am_M := (⟨"CobolParser$Tree", "kindOf", "(I)I"⟩, prog_10_method_11_code, 2, (some .int), [], 2, [(0, .aload_n 0, 1), (1, .aload_n 0, 1), (2, .iload_n 1, 1), (3, .invokevirtual 59, 3), (6, .iconst 0, 1), (7, .invokevirtual 38, 3), (10, .ireturn, 1)])
set_option maxRecDepth 100000 in
theorem nm_d15 : ∀ e ∈ am_cd nm_m15, decode (am_b nm_m15) e.1 = .ok (e.2.1, e.2.2) := by decide +kernel
theorem nm_o15 : nm_okM nm_m15 [] := ⟨nm_d15, nm_pn7, (nm_in2 (List.mem_of_getElem? (i := 31) rfl) rfl), nm_ii7, nm_ne7, Nat.le_of_ble_eq_true rfl, Or.inl ⟨rfl, rfl⟩⟩
def nm_m16 : am_M := (⟨"CobolParser$Tree", "handleOf", "(I)I"⟩, prog_10_method_21_code, 2, (some .int), [], 2, [(0, .iload_n 1, 1), (1, .ifCond .lt 21, 3), (4, .iload_n 1, 1), (5, .aload_n 0, 1), (6, .getfield 19, 3), (9, .if_icmp .ge 13, 3), (12, .aload_n 0, 1), (13, .iload_n 1, 1), (14, .bipush 11, 2), (16, .invokevirtual 38, 3), (19, .goto 4, 3), (22, .iconst (-1), 1), (23, .ireturn, 1)])
set_option maxRecDepth 100000 in
theorem nm_d16 : ∀ e ∈ am_cd nm_m16, decode (am_b nm_m16) e.1 = .ok (e.2.1, e.2.2) := by decide +kernel
theorem nm_o16 : nm_okM nm_m16 [] := ⟨nm_d16, nm_pn7, (nm_in2 (List.mem_of_getElem? (i := 35) rfl) rfl), nm_ii7, nm_ne7, Nat.le_of_ble_eq_true rfl, Or.inl ⟨rfl, rfl⟩⟩
def nm_m17 : am_M := (⟨"CobolParser$Tree", "get", "(II)I"⟩, prog_10_method_5_code, 3, (some .int), [], 3, [(0, .iload_n 1, 1), (1, .ifCond .lt 35, 3), (4, .iload_n 1, 1), (5, .aload_n 0, 1), (6, .getfield 15, 3), (9, .if_icmp .ge 27, 3), (12, .iload_n 2, 1), (13, .ifCond .lt 23, 3), (16, .iload_n 2, 1), (17, .bipush 12, 2), (19, .if_icmp .ge 17, 3), (22, .aload_n 0, 1), (23, .getfield 11, 3), (26, .iload_n 1, 1), (27, .bipush 12, 2), (29, .imul, 1), (30, .iload_n 2, 1), (31, .iadd, 1), (32, .iaload, 1), (33, .goto 4, 3), (36, .iconst (-1), 1), (37, .ireturn, 1)])
set_option maxRecDepth 100000 in
theorem nm_d17 : ∀ e ∈ am_cd nm_m17, decode (am_b nm_m17) e.1 = .ok (e.2.1, e.2.2) := by decide +kernel
theorem nm_o17 : nm_okM nm_m17 [] := ⟨nm_d17, nm_pn7, (nm_in2 (List.mem_of_getElem? (i := 39) rfl) rfl), nm_ii7, nm_ne7, Nat.le_of_ble_eq_true rfl, Or.inl ⟨rfl, rfl⟩⟩
def nm_m18 : am_M := (⟨"CobolParser$Tree", "valueOf", "(I)I"⟩, prog_10_method_12_code, 2, (some .int), [], 2, [(0, .aload_n 0, 1), (1, .aload_n 0, 1), (2, .iload_n 1, 1), (3, .invokevirtual 59, 3), (6, .iconst 1, 1), (7, .invokevirtual 38, 3), (10, .ireturn, 1)])
set_option maxRecDepth 100000 in
theorem nm_d18 : ∀ e ∈ am_cd nm_m18, decode (am_b nm_m18) e.1 = .ok (e.2.1, e.2.2) := by decide +kernel
theorem nm_o18 : nm_okM nm_m18 [] := ⟨nm_d18, nm_pn7, (nm_in2 (List.mem_of_getElem? (i := 43) rfl) rfl), nm_ii7, nm_ne7, Nat.le_of_ble_eq_true rfl, Or.inl ⟨rfl, rfl⟩⟩
def nm_m19 : am_M := (⟨"CobolParser$Tree", "placeOf", "(I)I"⟩, prog_10_method_13_code, 2, (some .int), [], 2, [(0, .aload_n 0, 1), (1, .aload_n 0, 1), (2, .iload_n 1, 1), (3, .invokevirtual 59, 3), (6, .iconst 2, 1), (7, .invokevirtual 38, 3), (10, .ireturn, 1)])
set_option maxRecDepth 100000 in
theorem nm_d19 : ∀ e ∈ am_cd nm_m19, decode (am_b nm_m19) e.1 = .ok (e.2.1, e.2.2) := by decide +kernel
theorem nm_o19 : nm_okM nm_m19 [] := ⟨nm_d19, nm_pn7, (nm_in2 (List.mem_of_getElem? (i := 47) rfl) rfl), nm_ii7, nm_ne7, Nat.le_of_ble_eq_true rfl, Or.inl ⟨rfl, rfl⟩⟩
def nm_m20 : am_M := (⟨"CobolParser$Tree", "childrenOf", "(I)I"⟩, prog_10_method_14_code, 2, (some .int), [], 2, [(0, .aload_n 0, 1), (1, .aload_n 0, 1), (2, .iload_n 1, 1), (3, .invokevirtual 59, 3), (6, .bipush 8, 2), (8, .invokevirtual 38, 3), (11, .ireturn, 1)])
set_option maxRecDepth 100000 in
theorem nm_d20 : ∀ e ∈ am_cd nm_m20, decode (am_b nm_m20) e.1 = .ok (e.2.1, e.2.2) := by decide +kernel
theorem nm_o20 : nm_okM nm_m20 [] := ⟨nm_d20, nm_pn7, (nm_in2 (List.mem_of_getElem? (i := 51) rfl) rfl), nm_ii7, nm_ne7, Nat.le_of_ble_eq_true rfl, Or.inl ⟨rfl, rfl⟩⟩
def nm_m21 : am_M := (⟨"CobolParser$Tree", "parentOf", "(I)I"⟩, prog_10_method_15_code, 2, (some .int), [], 2, [(0, .aload_n 0, 1), (1, .aload_n 0, 1), (2, .aload_n 0, 1), (3, .iload_n 1, 1), (4, .invokevirtual 59, 3), (7, .iconst 4, 1), (8, .invokevirtual 38, 3), (11, .invokevirtual 62, 3), (14, .ireturn, 1)])
set_option maxRecDepth 100000 in
theorem nm_d21 : ∀ e ∈ am_cd nm_m21, decode (am_b nm_m21) e.1 = .ok (e.2.1, e.2.2) := by decide +kernel
theorem nm_o21 : nm_okM nm_m21 [] := ⟨nm_d21, nm_pn7, (nm_in2 (List.mem_of_getElem? (i := 55) rfl) rfl), nm_ii7, nm_ne7, Nat.le_of_ble_eq_true rfl, Or.inl ⟨rfl, rfl⟩⟩
def nm_m22 : am_M := (⟨"CobolParser$Tree", "numberOf", "(I)I"⟩, prog_10_method_22_code, 2, (some .int), [], 2, [(0, .aload_n 0, 1), (1, .iload_n 1, 1), (2, .bipush 10, 2), (4, .invokevirtual 38, 3), (7, .ireturn, 1)])
set_option maxRecDepth 100000 in
theorem nm_d22 : ∀ e ∈ am_cd nm_m22, decode (am_b nm_m22) e.1 = .ok (e.2.1, e.2.2) := by decide +kernel
theorem nm_o22 : nm_okM nm_m22 [] := ⟨nm_d22, nm_pn7, (nm_in2 (List.mem_of_getElem? (i := 59) rfl) rfl), nm_ii7, nm_ne7, Nat.le_of_ble_eq_true rfl, Or.inl ⟨rfl, rfl⟩⟩
def nm_m23 : am_M := (⟨"CobolParser$Tree", "extraOf", "(I)I"⟩, prog_10_method_16_code, 3, (some .int), [], 2, [(0, .aload_n 0, 1), (1, .aload_n 0, 1), (2, .iload_n 1, 1), (3, .invokevirtual 59, 3), (6, .iconst 3, 1), (7, .invokevirtual 38, 3), (10, .istore_n 2, 1), (11, .aload_n 0, 1), (12, .iload_n 1, 1), (13, .invokevirtual 65, 3), (16, .bipush 53, 2), (18, .if_icmp .ne 11, 3), (21, .aload_n 0, 1), (22, .iload_n 2, 1), (23, .invokevirtual 62, 3), (26, .goto 4, 3), (29, .iload_n 2, 1), (30, .ireturn, 1)])
set_option maxRecDepth 100000 in
theorem nm_d23 : ∀ e ∈ am_cd nm_m23, decode (am_b nm_m23) e.1 = .ok (e.2.1, e.2.2) := by decide +kernel
theorem nm_o23 : nm_okM nm_m23 [] := ⟨nm_d23, nm_pn7, (nm_in2 (List.mem_of_getElem? (i := 63) rfl) rfl), nm_ii7, nm_ne7, Nat.le_of_ble_eq_true rfl, Or.inl ⟨rfl, rfl⟩⟩
def nm_m24 : am_M := (⟨"CobolParser", "child", "(II)I"⟩, prog_1_method_5_code, 3, (some .int), [], 3, [(0, .aload_n 0, 1), (1, .getfield 19, 3), (4, .iload_n 1, 1), (5, .iload_n 2, 1), (6, .invokevirtual 104, 3), (9, .ireturn, 1)])
set_option maxRecDepth 100000 in
theorem nm_d24 : ∀ e ∈ am_cd nm_m24, decode (am_b nm_m24) e.1 = .ok (e.2.1, e.2.2) := by decide +kernel
theorem nm_o24 : nm_okM nm_m24 [] := ⟨nm_d24, nm_pn0, (nm_in2 (List.mem_of_getElem? (i := 68) rfl) rfl), nm_ii0, nm_ne0, Nat.le_of_ble_eq_true rfl, Or.inl ⟨rfl, rfl⟩⟩
def nm_m25 : am_M := (⟨"CobolParser$Tree", "childOf", "(II)I"⟩, prog_10_method_17_code, 6, (some .int), [], 3, [(0, .aload_n 0, 1), (1, .iload_n 1, 1), (2, .invokevirtual 59, 3), (5, .istore_n 3, 1), (6, .iload_n 2, 1), (7, .ifCond .lt 14, 3), (10, .iload_n 2, 1), (11, .aload_n 0, 1), (12, .iload_n 3, 1), (13, .bipush 8, 2), (15, .invokevirtual 38, 3), (18, .if_icmp .lt 5, 3), (21, .iconst (-1), 1), (22, .ireturn, 1), (23, .aload_n 0, 1), (24, .iload_n 3, 1), (25, .iconst 5, 1), (26, .invokevirtual 38, 3), (29, .istore 4, 2), (31, .iconst 0, 1), (32, .istore 5, 2), (34, .iload 5, 2), (36, .iload_n 2, 1), (37, .if_icmp .ge 19, 3), (40, .aload_n 0, 1), (41, .iload 4, 2), (43, .bipush 7, 2), (45, .invokevirtual 38, 3), (48, .istore 4, 2), (50, .iinc 5 1, 3), (53, .goto (-19), 3), (56, .aload_n 0, 1), (57, .iload 4, 2), (59, .invokevirtual 62, 3), (62, .ireturn, 1)])
set_option maxRecDepth 100000 in
theorem nm_d25 : ∀ e ∈ am_cd nm_m25, decode (am_b nm_m25) e.1 = .ok (e.2.1, e.2.2) := by decide +kernel
theorem nm_o25 : nm_okM nm_m25 [] := ⟨nm_d25, nm_pn7, (nm_in2 (List.mem_of_getElem? (i := 72) rfl) rfl), nm_ii7, nm_ne7, Nat.le_of_ble_eq_true rfl, Or.inl ⟨rfl, rfl⟩⟩
def nm_m26 : am_M := (⟨"CobolParser", "faults", "()I"⟩, prog_1_method_6_code, 1, (some .int), [], 1, [(0, .aload_n 0, 1), (1, .getfield 10, 3), (4, .invokevirtual 107, 3), (7, .ireturn, 1)])
set_option maxRecDepth 100000 in
theorem nm_d26 : ∀ e ∈ am_cd nm_m26, decode (am_b nm_m26) e.1 = .ok (e.2.1, e.2.2) := by decide +kernel
theorem nm_o26 : nm_okM nm_m26 [] := ⟨nm_d26, nm_pn0, (nm_in2 (List.mem_of_getElem? (i := 76) rfl) rfl), nm_ii0, nm_ne0, Nat.le_of_ble_eq_true rfl, Or.inl ⟨rfl, rfl⟩⟩
def nm_m27 : am_M := (⟨"CobolParser$Row", "faultCount", "()I"⟩, prog_8_method_24_code, 1, (some .int), [], 1, [(0, .aload_n 0, 1), (1, .getfield 34, 3), (4, .ireturn, 1)])
set_option maxRecDepth 100000 in
theorem nm_d27 : ∀ e ∈ am_cd nm_m27, decode (am_b nm_m27) e.1 = .ok (e.2.1, e.2.2) := by decide +kernel
theorem nm_o27 : nm_okM nm_m27 [] := ⟨nm_d27, nm_pn5, (nm_in2 (List.mem_of_getElem? (i := 80) rfl) rfl), nm_ii5, nm_ne5, Nat.le_of_ble_eq_true rfl, Or.inl ⟨rfl, rfl⟩⟩
def nm_m28 : am_M := (⟨"CobolParser", "fault", "(II)I"⟩, prog_1_method_7_code, 3, (some .int), [], 3, [(0, .iload_n 2, 1), (1, .lookupswitch 45 #[(0, 27), (1, 36)], 27), (28, .aload_n 0, 1), (29, .getfield 10, 3), (32, .iload_n 1, 1), (33, .invokevirtual 110, 3), (36, .ireturn, 1), (37, .aload_n 0, 1), (38, .getfield 10, 3), (41, .iload_n 1, 1), (42, .invokevirtual 113, 3), (45, .ireturn, 1), (46, .iconst (-1), 1), (47, .ireturn, 1)])
set_option maxRecDepth 100000 in
theorem nm_d28 : ∀ e ∈ am_cd nm_m28, decode (am_b nm_m28) e.1 = .ok (e.2.1, e.2.2) := by decide +kernel
theorem nm_o28 : nm_okM nm_m28 [] := ⟨nm_d28, nm_pn0, (nm_in2 (List.mem_of_getElem? (i := 84) rfl) rfl), nm_ii0, nm_ne0, Nat.le_of_ble_eq_true rfl, Or.inl ⟨rfl, rfl⟩⟩
def nm_m29 : am_M := (⟨"CobolParser$Row", "faultNumber", "(I)I"⟩, prog_8_method_25_code, 2, (some .int), [], 2, [(0, .iload_n 1, 1), (1, .ifCond .lt 20, 3), (4, .iload_n 1, 1), (5, .aload_n 0, 1), (6, .getfield 34, 3), (9, .if_icmp .ge 12, 3), (12, .aload_n 0, 1), (13, .getfield 28, 3), (16, .iload_n 1, 1), (17, .iaload, 1), (18, .goto 4, 3), (21, .iconst (-1), 1), (22, .ireturn, 1)])
set_option maxRecDepth 100000 in
theorem nm_d29 : ∀ e ∈ am_cd nm_m29, decode (am_b nm_m29) e.1 = .ok (e.2.1, e.2.2) := by decide +kernel
theorem nm_o29 : nm_okM nm_m29 [] := ⟨nm_d29, nm_pn5, (nm_in2 (List.mem_of_getElem? (i := 88) rfl) rfl), nm_ii5, nm_ne5, Nat.le_of_ble_eq_true rfl, Or.inl ⟨rfl, rfl⟩⟩
def nm_m30 : am_M := (⟨"CobolParser$Row", "faultPlace", "(I)I"⟩, prog_8_method_26_code, 2, (some .int), [], 2, [(0, .iload_n 1, 1), (1, .ifCond .lt 20, 3), (4, .iload_n 1, 1), (5, .aload_n 0, 1), (6, .getfield 34, 3), (9, .if_icmp .ge 12, 3), (12, .aload_n 0, 1), (13, .getfield 31, 3), (16, .iload_n 1, 1), (17, .iaload, 1), (18, .goto 4, 3), (21, .iconst (-1), 1), (22, .ireturn, 1)])
set_option maxRecDepth 100000 in
theorem nm_d30 : ∀ e ∈ am_cd nm_m30, decode (am_b nm_m30) e.1 = .ok (e.2.1, e.2.2) := by decide +kernel
theorem nm_o30 : nm_okM nm_m30 [] := ⟨nm_d30, nm_pn5, (nm_in2 (List.mem_of_getElem? (i := 92) rfl) rfl), nm_ii5, nm_ne5, Nat.le_of_ble_eq_true rfl, Or.inl ⟨rfl, rfl⟩⟩
def nm_m31 : am_M := (⟨"CobolParser", "division", "(II)I"⟩, prog_1_method_8_code, 4, (some .int), [], 3, [(0, .aload_n 0, 1), (1, .getfield 19, 3), (4, .iload_n 1, 1), (5, .invokevirtual 116, 3), (8, .istore_n 3, 1), (9, .iload_n 2, 1), (10, .tableswitch 64 0 3 #[30, 32, 42, 53], 30), (40, .iload_n 3, 1), (41, .ireturn, 1), (42, .aload_n 0, 1), (43, .getfield 19, 3), (46, .iload_n 3, 1), (47, .iconst 3, 1), (48, .invokevirtual 121, 3), (51, .ireturn, 1), (52, .aload_n 0, 1), (53, .getfield 19, 3), (56, .iload_n 3, 1), (57, .bipush 7, 2), (59, .invokevirtual 121, 3), (62, .ireturn, 1), (63, .aload_n 0, 1), (64, .getfield 19, 3), (67, .iload_n 3, 1), (68, .bipush 20, 2), (70, .invokevirtual 121, 3), (73, .ireturn, 1), (74, .iconst (-1), 1), (75, .ireturn, 1)])
set_option maxRecDepth 100000 in
theorem nm_d31 : ∀ e ∈ am_cd nm_m31, decode (am_b nm_m31) e.1 = .ok (e.2.1, e.2.2) := by decide +kernel
theorem nm_o31 : nm_okM nm_m31 [] := ⟨nm_d31, nm_pn0, (nm_in2 (List.mem_of_getElem? (i := 96) rfl) rfl), nm_ii0, nm_ne0, Nat.le_of_ble_eq_true rfl, Or.inl ⟨rfl, rfl⟩⟩
def nm_m32 : am_M := (⟨"CobolParser$Tree", "unitAt", "(I)I"⟩, prog_10_method_19_code, 4, (some .int), [], 2, [(0, .iconst 0, 1), (1, .istore_n 2, 1), (2, .iconst 0, 1), (3, .istore_n 3, 1), (4, .iload_n 3, 1), (5, .aload_n 0, 1), (6, .getfield 19, 3), (9, .if_icmp .ge 31, 3), (12, .aload_n 0, 1), (13, .aload_n 0, 1), (14, .iload_n 3, 1), (15, .invokevirtual 59, 3), (18, .invokevirtual 51, 3), (21, .ifCond .eq 13, 3), (24, .iload_n 2, 1), (25, .iload_n 1, 1), (26, .if_icmp .ne 5, 3), (29, .iload_n 3, 1), (30, .ireturn, 1), (31, .iinc 2 1, 3), (34, .iinc 3 1, 3), (37, .goto (-33), 3), (40, .iconst (-1), 1), (41, .ireturn, 1)])
set_option maxRecDepth 100000 in
theorem nm_d32 : ∀ e ∈ am_cd nm_m32, decode (am_b nm_m32) e.1 = .ok (e.2.1, e.2.2) := by decide +kernel
theorem nm_o32 : nm_okM nm_m32 [] := ⟨nm_d32, nm_pn7, (nm_in2 (List.mem_of_getElem? (i := 100) rfl) rfl), nm_ii7, nm_ne7, Nat.le_of_ble_eq_true rfl, Or.inl ⟨rfl, rfl⟩⟩
def nm_m33 : am_M := (⟨"CobolParser$Tree", "isUnit", "(I)Z"⟩, prog_10_method_20_code, 3, (some .boolean), [], 2, [(0, .aload_n 0, 1), (1, .iload_n 1, 1), (2, .iconst 0, 1), (3, .invokevirtual 38, 3), (6, .istore_n 2, 1), (7, .iload_n 2, 1), (8, .iconst 1, 1), (9, .if_icmp .eq 8, 3), (12, .iload_n 2, 1), (13, .iconst 2, 1), (14, .if_icmp .ne 7, 3), (17, .iconst 1, 1), (18, .goto 4, 3), (21, .iconst 0, 1), (22, .ireturn, 1)])
set_option maxRecDepth 100000 in
theorem nm_d33 : ∀ e ∈ am_cd nm_m33, decode (am_b nm_m33) e.1 = .ok (e.2.1, e.2.2) := by decide +kernel
theorem nm_o33 : nm_okM nm_m33 [] := ⟨nm_d33, nm_pn7, (nm_in2 (List.mem_of_getElem? (i := 104) rfl) rfl), nm_ii7, nm_ne7, Nat.le_of_ble_eq_true rfl, Or.inl ⟨rfl, rfl⟩⟩
def nm_m34 : am_M := (⟨"CobolParser$Tree", "childOfKind", "(II)I"⟩, prog_10_method_18_code, 6, (some .int), [], 3, [(0, .aload_n 0, 1), (1, .iload_n 1, 1), (2, .invokevirtual 59, 3), (5, .istore_n 3, 1), (6, .aload_n 0, 1), (7, .iload_n 3, 1), (8, .iconst 5, 1), (9, .invokevirtual 38, 3), (12, .istore 4, 2), (14, .iconst 0, 1), (15, .istore 5, 2), (17, .iload 5, 2), (19, .aload_n 0, 1), (20, .iload_n 3, 1), (21, .bipush 8, 2), (23, .invokevirtual 38, 3), (26, .if_icmp .ge 37, 3), (29, .aload_n 0, 1), (30, .iload 4, 2), (32, .iconst 0, 1), (33, .invokevirtual 38, 3), (36, .iload_n 2, 1), (37, .if_icmp .ne 10, 3), (40, .aload_n 0, 1), (41, .iload 4, 2), (43, .invokevirtual 62, 3), (46, .ireturn, 1), (47, .aload_n 0, 1), (48, .iload 4, 2), (50, .bipush 7, 2), (52, .invokevirtual 38, 3), (55, .istore 4, 2), (57, .iinc 5 1, 3), (60, .goto (-43), 3), (63, .iconst (-1), 1), (64, .ireturn, 1)])
set_option maxRecDepth 100000 in
theorem nm_d34 : ∀ e ∈ am_cd nm_m34, decode (am_b nm_m34) e.1 = .ok (e.2.1, e.2.2) := by decide +kernel
theorem nm_o34 : nm_okM nm_m34 [] := ⟨nm_d34, nm_pn7, (nm_in2 (List.mem_of_getElem? (i := 108) rfl) rfl), nm_ii7, nm_ne7, Nat.le_of_ble_eq_true rfl, Or.inl ⟨rfl, rfl⟩⟩
def nm_m35 : am_M := (⟨"CobolParser", "depth", "()I"⟩, prog_1_method_9_code, 1, (some .int), [], 1, [(0, .aload_n 0, 1), (1, .getfield 19, 3), (4, .invokevirtual 124, 3), (7, .ireturn, 1)])
set_option maxRecDepth 100000 in
theorem nm_d35 : ∀ e ∈ am_cd nm_m35, decode (am_b nm_m35) e.1 = .ok (e.2.1, e.2.2) := by decide +kernel
theorem nm_o35 : nm_okM nm_m35 [] := ⟨nm_d35, nm_pn0, (nm_in2 (List.mem_of_getElem? (i := 112) rfl) rfl), nm_ii0, nm_ne0, Nat.le_of_ble_eq_true rfl, Or.inl ⟨rfl, rfl⟩⟩
def nm_m36 : am_M := (⟨"CobolParser$Tree", "deepest", "()I"⟩, prog_10_method_10_code, 1, (some .int), [], 1, [(0, .aload_n 0, 1), (1, .getfield 25, 3), (4, .ireturn, 1)])
set_option maxRecDepth 100000 in
theorem nm_d36 : ∀ e ∈ am_cd nm_m36, decode (am_b nm_m36) e.1 = .ok (e.2.1, e.2.2) := by decide +kernel
theorem nm_o36 : nm_okM nm_m36 [] := ⟨nm_d36, nm_pn7, (nm_in2 (List.mem_of_getElem? (i := 116) rfl) rfl), nm_ii7, nm_ne7, Nat.le_of_ble_eq_true rfl, Or.inl ⟨rfl, rfl⟩⟩
def nm_m37 : am_M := (⟨"CobolParser", "count", "(I)I"⟩, prog_1_method_10_code, 2, (some .int), [], 2, [(0, .iload_n 1, 1), (1, .tableswitch 51 0 2 #[27, 35, 43], 27), (28, .aload_n 0, 1), (29, .getfield 10, 3), (32, .invokevirtual 127, 3), (35, .ireturn, 1), (36, .aload_n 0, 1), (37, .getfield 19, 3), (40, .invokevirtual 130, 3), (43, .ireturn, 1), (44, .aload_n 0, 1), (45, .getfield 19, 3), (48, .invokevirtual 133, 3), (51, .ireturn, 1), (52, .iconst (-1), 1), (53, .ireturn, 1)])
set_option maxRecDepth 100000 in
theorem nm_d37 : ∀ e ∈ am_cd nm_m37, decode (am_b nm_m37) e.1 = .ok (e.2.1, e.2.2) := by decide +kernel
theorem nm_o37 : nm_okM nm_m37 [] := ⟨nm_d37, nm_pn0, (nm_in2 (List.mem_of_getElem? (i := 120) rfl) rfl), nm_ii0, nm_ne0, Nat.le_of_ble_eq_true rfl, Or.inl ⟨rfl, rfl⟩⟩
def nm_m38 : am_M := (⟨"CobolParser$Row", "wordCount", "()I"⟩, prog_8_method_4_code, 1, (some .int), [], 1, [(0, .aload_n 0, 1), (1, .getfield 18, 3), (4, .ireturn, 1)])
set_option maxRecDepth 100000 in
theorem nm_d38 : ∀ e ∈ am_cd nm_m38, decode (am_b nm_m38) e.1 = .ok (e.2.1, e.2.2) := by decide +kernel
theorem nm_o38 : nm_okM nm_m38 [] := ⟨nm_d38, nm_pn5, (nm_in2 (List.mem_of_getElem? (i := 124) rfl) rfl), nm_ii5, nm_ne5, Nat.le_of_ble_eq_true rfl, Or.inl ⟨rfl, rfl⟩⟩
def nm_m39 : am_M := (⟨"CobolParser$Tree", "nodeCount", "()I"⟩, prog_10_method_8_code, 1, (some .int), [], 1, [(0, .aload_n 0, 1), (1, .getfield 19, 3), (4, .ireturn, 1)])
set_option maxRecDepth 100000 in
theorem nm_d39 : ∀ e ∈ am_cd nm_m39, decode (am_b nm_m39) e.1 = .ok (e.2.1, e.2.2) := by decide +kernel
theorem nm_o39 : nm_okM nm_m39 [] := ⟨nm_d39, nm_pn7, (nm_in2 (List.mem_of_getElem? (i := 128) rfl) rfl), nm_ii7, nm_ne7, Nat.le_of_ble_eq_true rfl, Or.inl ⟨rfl, rfl⟩⟩
