/-! names and tables of the class files, by wip/whole/gen.py -/
def nm_Tg : List Jvm.Cond := lw_tbl.filter goodWord
theorem nm_in1 {w : Jvm.Cond} (h : w ∈ tables_1_1) (g : goodWord w = true) : w ∈ nm_Tg := List.mem_filter.mpr ⟨List.mem_append_right _ (List.mem_append_left _ h), g⟩
theorem nm_in2 {w : Jvm.Cond} (h : w ∈ tables_1_2) (g : goodWord w = true) : w ∈ nm_Tg := List.mem_filter.mpr ⟨List.mem_append_right _ (List.mem_append_right _ (List.mem_append_left _ h)), g⟩
theorem nm_in3 {w : Jvm.Cond} (h : w ∈ tables_1_3) (g : goodWord w = true) : w ∈ nm_Tg := List.mem_filter.mpr ⟨List.mem_append_right _ (List.mem_append_right _ (List.mem_append_right _ (List.mem_append_left _ h))), g⟩
theorem nm_in4 {w : Jvm.Cond} (h : w ∈ tables_1_4) (g : goodWord w = true) : w ∈ nm_Tg := List.mem_filter.mpr ⟨List.mem_append_right _ (List.mem_append_right _ (List.mem_append_right _ (List.mem_append_right _ (List.mem_append_left _ h)))), g⟩
theorem nm_in5 {w : Jvm.Cond} (h : w ∈ tables_1_5) (g : goodWord w = true) : w ∈ nm_Tg := List.mem_filter.mpr ⟨List.mem_append_right _ (List.mem_append_right _ (List.mem_append_right _ (List.mem_append_right _ (List.mem_append_right _ (List.mem_append_left _ h))))), g⟩
theorem nm_in6 {w : Jvm.Cond} (h : w ∈ tables_1_6) (g : goodWord w = true) : w ∈ nm_Tg := List.mem_filter.mpr ⟨List.mem_append_right _ (List.mem_append_right _ (List.mem_append_right _ (List.mem_append_right _ (List.mem_append_right _ (List.mem_append_right _ (List.mem_append_left _ h)))))), g⟩
theorem nm_in7 {w : Jvm.Cond} (h : w ∈ tables_1_7) (g : goodWord w = true) : w ∈ nm_Tg := List.mem_filter.mpr ⟨List.mem_append_right _ (List.mem_append_right _ (List.mem_append_right _ (List.mem_append_right _ (List.mem_append_right _ (List.mem_append_right _ (List.mem_append_right _ h)))))), g⟩
theorem nm_se1 {y : MethodName} {n : Nat} (h : (y, n) ∈ lw_privs_1) : Cond.selects y.cls y y ∈ nm_Tg := List.mem_filter.mpr ⟨List.mem_append_left _ (List.mem_map.mpr ⟨(y, n), (List.mem_append_left _ h), rfl⟩), rfl⟩
theorem nm_se2 {y : MethodName} {n : Nat} (h : (y, n) ∈ lw_privs_2) : Cond.selects y.cls y y ∈ nm_Tg := List.mem_filter.mpr ⟨List.mem_append_left _ (List.mem_map.mpr ⟨(y, n), (List.mem_append_right _ (List.mem_append_left _ h)), rfl⟩), rfl⟩
theorem nm_se3 {y : MethodName} {n : Nat} (h : (y, n) ∈ lw_privs_3) : Cond.selects y.cls y y ∈ nm_Tg := List.mem_filter.mpr ⟨List.mem_append_left _ (List.mem_map.mpr ⟨(y, n), (List.mem_append_right _ (List.mem_append_right _ (List.mem_append_left _ h))), rfl⟩), rfl⟩
theorem nm_se4 {y : MethodName} {n : Nat} (h : (y, n) ∈ lw_privs_4) : Cond.selects y.cls y y ∈ nm_Tg := List.mem_filter.mpr ⟨List.mem_append_left _ (List.mem_map.mpr ⟨(y, n), (List.mem_append_right _ (List.mem_append_right _ (List.mem_append_right _ (List.mem_append_left _ h)))), rfl⟩), rfl⟩
theorem nm_se5 {y : MethodName} {n : Nat} (h : (y, n) ∈ lw_privs_5) : Cond.selects y.cls y y ∈ nm_Tg := List.mem_filter.mpr ⟨List.mem_append_left _ (List.mem_map.mpr ⟨(y, n), (List.mem_append_right _ (List.mem_append_right _ (List.mem_append_right _ (List.mem_append_right _ (List.mem_append_left _ h))))), rfl⟩), rfl⟩
theorem nm_se6 {y : MethodName} {n : Nat} (h : (y, n) ∈ lw_privs_6) : Cond.selects y.cls y y ∈ nm_Tg := List.mem_filter.mpr ⟨List.mem_append_left _ (List.mem_map.mpr ⟨(y, n), (List.mem_append_right _ (List.mem_append_right _ (List.mem_append_right _ (List.mem_append_right _ (List.mem_append_right _ (List.mem_append_left _ h)))))), rfl⟩), rfl⟩
theorem nm_se7 {y : MethodName} {n : Nat} (h : (y, n) ∈ lw_privs_7) : Cond.selects y.cls y y ∈ nm_Tg := List.mem_filter.mpr ⟨List.mem_append_left _ (List.mem_map.mpr ⟨(y, n), (List.mem_append_right _ (List.mem_append_right _ (List.mem_append_right _ (List.mem_append_right _ (List.mem_append_right _ (List.mem_append_right _ (List.mem_append_left _ h))))))), rfl⟩), rfl⟩
theorem nm_se8 {y : MethodName} {n : Nat} (h : (y, n) ∈ lw_privs_8) : Cond.selects y.cls y y ∈ nm_Tg := List.mem_filter.mpr ⟨List.mem_append_left _ (List.mem_map.mpr ⟨(y, n), (List.mem_append_right _ (List.mem_append_right _ (List.mem_append_right _ (List.mem_append_right _ (List.mem_append_right _ (List.mem_append_right _ (List.mem_append_right _ (List.mem_append_left _ h)))))))), rfl⟩), rfl⟩
theorem nm_se9 {y : MethodName} {n : Nat} (h : (y, n) ∈ lw_privs_9) : Cond.selects y.cls y y ∈ nm_Tg := List.mem_filter.mpr ⟨List.mem_append_left _ (List.mem_map.mpr ⟨(y, n), (List.mem_append_right _ (List.mem_append_right _ (List.mem_append_right _ (List.mem_append_right _ (List.mem_append_right _ (List.mem_append_right _ (List.mem_append_right _ (List.mem_append_right _ h)))))))), rfl⟩), rfl⟩
theorem nm_fc {α : Type} {P : α → Prop} {a : α} {l : List α} (h : P a) (t : ∀ x ∈ l, P x) : ∀ x ∈ a :: l, P x := List.forall_mem_cons.mpr ⟨h, t⟩
theorem nm_fa {α : Type} {P : α → Prop} {l l2 : List α} (h : ∀ x ∈ l, P x) (t : ∀ x ∈ l2, P x) : ∀ x ∈ l ++ l2, P x := fun x hx => (List.mem_append.mp hx).elim (h x) (t x)
theorem nm_lk {α : Type} {l : List ((String × Nat) × α)} {k : String × Nat} {x : α} (h : l.lookup k = some x) : (k, x) ∈ l := by
  induction l with
  | nil => cases h
  | cons a t ih =>
    obtain ⟨k2, v⟩ := a
    rw [List.lookup_cons] at h
    split at h
    · rename_i hk
      cases h
      have e : k = k2 := by simpa using hk
      rw [e]
      exact List.mem_cons_self
    · exact List.mem_cons_of_mem _ (ih h)
theorem nm_pd0 : parseFieldDescriptor "I" = some .int := by decide +kernel
theorem nm_pd1 : parseFieldDescriptor "LCobolParser$Clauses;" = some (.object "CobolParser$Clauses") := by decide +kernel
theorem nm_pd2 : parseFieldDescriptor "LCobolParser$Expressions;" = some (.object "CobolParser$Expressions") := by decide +kernel
theorem nm_pd3 : parseFieldDescriptor "LCobolParser$Items;" = some (.object "CobolParser$Items") := by decide +kernel
theorem nm_pd4 : parseFieldDescriptor "LCobolParser$Leaves;" = some (.object "CobolParser$Leaves") := by decide +kernel
theorem nm_pd5 : parseFieldDescriptor "LCobolParser$Row;" = some (.object "CobolParser$Row") := by decide +kernel
theorem nm_pd6 : parseFieldDescriptor "LCobolParser$Statements;" = some (.object "CobolParser$Statements") := by decide +kernel
theorem nm_pd7 : parseFieldDescriptor "LCobolParser$Tree;" = some (.object "CobolParser$Tree") := by decide +kernel
theorem nm_pd8 : parseFieldDescriptor "LCobolParser$Units;" = some (.object "CobolParser$Units") := by decide +kernel
theorem nm_pd9 : parseFieldDescriptor "Z" = some .boolean := by decide +kernel
theorem nm_pd10 : parseFieldDescriptor "[I" = some (.array .int) := by decide +kernel
theorem nm_pd11 : parseFieldDescriptor "[Z" = some (.array .boolean) := by decide +kernel
def nm_T0 : u_T := fun k => match k with
  | 0 => ("CobolParser", "row", "LCobolParser$Row;", true)
  | 1 => ("CobolParser", "tree", "LCobolParser$Tree;", true)
  | _ => ("CobolParser", "clauses", "LCobolParser$Clauses;", true)
def nm_ty0 : Nat → FieldType := fun k => match k with
  | 0 => (.object "CobolParser$Row")
  | 1 => (.object "CobolParser$Tree")
  | _ => (.object "CobolParser$Clauses")
theorem nm_nm0 : ∀ a, a < 3 → ∀ b, b < 3 → a ≠ b → (nm_T0 a).2.1 ≠ (nm_T0 b).2.1 := by decide +kernel
theorem nm_to0 : ∀ k, k < 3 → parseFieldDescriptor (nm_T0 k).2.2.1 = some (nm_ty0 k) := by decide +kernel
def nm_T1 : u_T := fun k => match k with
  | 0 => ("CobolParser$Row", "kinds", "[I", false)
  | 1 => ("CobolParser$Row", "values", "[I", false)
  | 2 => ("CobolParser$Row", "size", "I", false)
  | 3 => ("CobolParser$Row", "at", "I", false)
  | 4 => ("CobolParser$Row", "refusal", "I", false)
  | 5 => ("CobolParser$Row", "faultNumbers", "[I", true)
  | 6 => ("CobolParser$Row", "faultPlaces", "[I", true)
  | _ => ("CobolParser$Row", "faultSize", "I", false)
def nm_ty1 : Nat → FieldType := fun k => match k with
  | 0 => (.array .int)
  | 1 => (.array .int)
  | 2 => .int
  | 3 => .int
  | 4 => .int
  | 5 => (.array .int)
  | 6 => (.array .int)
  | _ => .int
theorem nm_nm1 : ∀ a, a < 8 → ∀ b, b < 8 → a ≠ b → (nm_T1 a).2.1 ≠ (nm_T1 b).2.1 := by decide +kernel
theorem nm_to1 : ∀ k, k < 8 → parseFieldDescriptor (nm_T1 k).2.2.1 = some (nm_ty1 k) := by decide +kernel
def nm_T2 : u_T := fun k => match k with
  | 0 => ("CobolParser$Tree", "cells", "[I", false)
  | 1 => ("CobolParser$Tree", "made", "I", false)
  | 2 => ("CobolParser$Tree", "numbered", "I", false)
  | 3 => ("CobolParser$Tree", "units", "I", false)
  | _ => ("CobolParser$Tree", "greatestLevel", "I", false)
def nm_ty2 : Nat → FieldType := fun k => match k with
  | 0 => (.array .int)
  | 1 => .int
  | 2 => .int
  | 3 => .int
  | _ => .int
theorem nm_nm2 : ∀ a, a < 5 → ∀ b, b < 5 → a ≠ b → (nm_T2 a).2.1 ≠ (nm_T2 b).2.1 := by decide +kernel
theorem nm_to2 : ∀ k, k < 5 → parseFieldDescriptor (nm_T2 k).2.2.1 = some (nm_ty2 k) := by decide +kernel
def nm_T3 : u_T := fun k => match k with
  | 0 => ("CobolParser$Leaves", "row", "LCobolParser$Row;", true)
  | _ => ("CobolParser$Leaves", "tree", "LCobolParser$Tree;", true)
def nm_ty3 : Nat → FieldType := fun k => match k with
  | 0 => (.object "CobolParser$Row")
  | _ => (.object "CobolParser$Tree")
theorem nm_nm3 : ∀ a, a < 2 → ∀ b, b < 2 → a ≠ b → (nm_T3 a).2.1 ≠ (nm_T3 b).2.1 := by decide +kernel
theorem nm_to3 : ∀ k, k < 2 → parseFieldDescriptor (nm_T3 k).2.2.1 = some (nm_ty3 k) := by decide +kernel
def nm_T4 : u_T := fun k => match k with
  | 0 => ("CobolParser$Statements", "row", "LCobolParser$Row;", true)
  | 1 => ("CobolParser$Statements", "tree", "LCobolParser$Tree;", true)
  | 2 => ("CobolParser$Statements", "leaves", "LCobolParser$Leaves;", true)
  | _ => ("CobolParser$Statements", "expressions", "LCobolParser$Expressions;", true)
def nm_ty4 : Nat → FieldType := fun k => match k with
  | 0 => (.object "CobolParser$Row")
  | 1 => (.object "CobolParser$Tree")
  | 2 => (.object "CobolParser$Leaves")
  | _ => (.object "CobolParser$Expressions")
theorem nm_nm4 : ∀ a, a < 4 → ∀ b, b < 4 → a ≠ b → (nm_T4 a).2.1 ≠ (nm_T4 b).2.1 := by decide +kernel
theorem nm_to4 : ∀ k, k < 4 → parseFieldDescriptor (nm_T4 k).2.2.1 = some (nm_ty4 k) := by decide +kernel
def nm_T5 : u_T := fun k => match k with
  | 0 => ("CobolParser$Expressions", "row", "LCobolParser$Row;", true)
  | 1 => ("CobolParser$Expressions", "tree", "LCobolParser$Tree;", true)
  | 2 => ("CobolParser$Expressions", "leaves", "LCobolParser$Leaves;", true)
  | 3 => ("CobolParser$Expressions", "subject", "I", false)
  | _ => ("CobolParser$Expressions", "latestHow", "I", false)
def nm_ty5 : Nat → FieldType := fun k => match k with
  | 0 => (.object "CobolParser$Row")
  | 1 => (.object "CobolParser$Tree")
  | 2 => (.object "CobolParser$Leaves")
  | 3 => .int
  | _ => .int
theorem nm_nm5 : ∀ a, a < 5 → ∀ b, b < 5 → a ≠ b → (nm_T5 a).2.1 ≠ (nm_T5 b).2.1 := by decide +kernel
theorem nm_to5 : ∀ k, k < 5 → parseFieldDescriptor (nm_T5 k).2.2.1 = some (nm_ty5 k) := by decide +kernel
def nm_T6 : u_T := fun k => match k with
  | 0 => ("CobolParser$Clauses", "row", "LCobolParser$Row;", true)
  | 1 => ("CobolParser$Clauses", "tree", "LCobolParser$Tree;", true)
  | 2 => ("CobolParser$Clauses", "leaves", "LCobolParser$Leaves;", true)
  | 3 => ("CobolParser$Clauses", "statements", "LCobolParser$Statements;", true)
  | 4 => ("CobolParser$Clauses", "items", "LCobolParser$Items;", true)
  | 5 => ("CobolParser$Clauses", "units", "LCobolParser$Units;", true)
  | 6 => ("CobolParser$Clauses", "openDivision", "I", false)
  | 7 => ("CobolParser$Clauses", "declaratives", "I", false)
  | 8 => ("CobolParser$Clauses", "section", "I", false)
  | _ => ("CobolParser$Clauses", "paragraph", "I", false)
def nm_ty6 : Nat → FieldType := fun k => match k with
  | 0 => (.object "CobolParser$Row")
  | 1 => (.object "CobolParser$Tree")
  | 2 => (.object "CobolParser$Leaves")
  | 3 => (.object "CobolParser$Statements")
  | 4 => (.object "CobolParser$Items")
  | 5 => (.object "CobolParser$Units")
  | 6 => .int
  | 7 => .int
  | 8 => .int
  | _ => .int
theorem nm_nm6 : ∀ a, a < 10 → ∀ b, b < 10 → a ≠ b → (nm_T6 a).2.1 ≠ (nm_T6 b).2.1 := by decide +kernel
theorem nm_to6 : ∀ k, k < 10 → parseFieldDescriptor (nm_T6 k).2.2.1 = some (nm_ty6 k) := by decide +kernel
def nm_T7 : u_T := fun k => match k with
  | 0 => ("CobolParser$Items", "row", "LCobolParser$Row;", true)
  | 1 => ("CobolParser$Items", "tree", "LCobolParser$Tree;", true)
  | 2 => ("CobolParser$Items", "leaves", "LCobolParser$Leaves;", true)
  | 3 => ("CobolParser$Items", "openLevels", "[I", true)
  | 4 => ("CobolParser$Items", "openHandles", "[I", true)
  | 5 => ("CobolParser$Items", "openSize", "I", false)
  | _ => ("CobolParser$Items", "holder", "I", false)
def nm_ty7 : Nat → FieldType := fun k => match k with
  | 0 => (.object "CobolParser$Row")
  | 1 => (.object "CobolParser$Tree")
  | 2 => (.object "CobolParser$Leaves")
  | 3 => (.array .int)
  | 4 => (.array .int)
  | 5 => .int
  | _ => .int
theorem nm_nm7 : ∀ a, a < 7 → ∀ b, b < 7 → a ≠ b → (nm_T7 a).2.1 ≠ (nm_T7 b).2.1 := by decide +kernel
theorem nm_to7 : ∀ k, k < 7 → parseFieldDescriptor (nm_T7 k).2.2.1 = some (nm_ty7 k) := by decide +kernel
def nm_T8 : u_T := fun k => match k with
  | 0 => ("CobolParser$Units", "states", "[I", true)
  | 1 => ("CobolParser$Units", "kinds", "[I", true)
  | 2 => ("CobolParser$Units", "names", "[I", true)
  | 3 => ("CobolParser$Units", "handles", "[I", true)
  | _ => ("CobolParser$Units", "size", "I", false)
def nm_ty8 : Nat → FieldType := fun k => match k with
  | 0 => (.array .int)
  | 1 => (.array .int)
  | 2 => (.array .int)
  | 3 => (.array .int)
  | _ => .int
theorem nm_nm8 : ∀ a, a < 5 → ∀ b, b < 5 → a ≠ b → (nm_T8 a).2.1 ≠ (nm_T8 b).2.1 := by decide +kernel
theorem nm_to8 : ∀ k, k < 5 → parseFieldDescriptor (nm_T8 k).2.2.1 = some (nm_ty8 k) := by decide +kernel
def nm_T9 : u_T := fun k => match k with
  | 0 => ("CobolParserModel", "thrown", "I", false)
  | 1 => ("CobolParserModel", "size", "I", false)
  | 2 => ("CobolParserModel", "kinds", "[I", true)
  | 3 => ("CobolParserModel", "values", "[I", true)
  | 4 => ("CobolParserModel", "n", "I", false)
  | 5 => ("CobolParserModel", "faults", "I", false)
  | 6 => ("CobolParserModel", "faultNumber", "[I", true)
  | 7 => ("CobolParserModel", "faultWord", "[I", true)
  | 8 => ("CobolParserModel", "nodes", "I", false)
  | 9 => ("CobolParserModel", "kind", "[I", true)
  | 10 => ("CobolParserModel", "value", "[I", true)
  | 11 => ("CobolParserModel", "place", "[I", true)
  | 12 => ("CobolParserModel", "extra", "[I", true)
  | 13 => ("CobolParserModel", "first", "[I", true)
  | 14 => ("CobolParserModel", "last", "[I", true)
  | 15 => ("CobolParserModel", "next", "[I", true)
  | 16 => ("CobolParserModel", "above", "[I", true)
  | 17 => ("CobolParserModel", "number", "[I", true)
  | 18 => ("CobolParserModel", "order", "[I", true)
  | 19 => ("CobolParserModel", "told", "I", false)
  | 20 => ("CobolParserModel", "units", "I", false)
  | 21 => ("CobolParserModel", "deepest", "I", false)
  | 22 => ("CobolParserModel", "unitNode", "[I", true)
  | 23 => ("CobolParserModel", "environment", "[I", true)
  | 24 => ("CobolParserModel", "data", "[I", true)
  | 25 => ("CobolParserModel", "procedure", "[I", true)
  | 26 => ("CobolParserModel", "open", "I", false)
  | 27 => ("CobolParserModel", "state", "[I", true)
  | 28 => ("CobolParserModel", "unit", "[I", true)
  | 29 => ("CobolParserModel", "its", "[I", true)
  | 30 => ("CobolParserModel", "function", "[Z", true)
  | 31 => ("CobolParserModel", "had", "[Z", true)
  | 32 => ("CobolParserModel", "files", "I", false)
  | 33 => ("CobolParserModel", "holder", "I", false)
  | 34 => ("CobolParserModel", "declaratives", "I", false)
  | 35 => ("CobolParserModel", "section", "I", false)
  | 36 => ("CobolParserModel", "paragraph", "I", false)
  | 37 => ("CobolParserModel", "items", "I", false)
  | 38 => ("CobolParserModel", "latest", "I", false)
  | 39 => ("CobolParserModel", "levels", "[I", true)
  | 40 => ("CobolParserModel", "itemNode", "[I", true)
  | 41 => ("CobolParserModel", "at", "I", false)
  | 42 => ("CobolParserModel", "failed", "I", false)
  | 43 => ("CobolParserModel", "bad", "Z", false)
  | 44 => ("CobolParserModel", "level", "I", false)
  | 45 => ("CobolParserModel", "piled", "I", false)
  | 46 => ("CobolParserModel", "pileKind", "[I", true)
  | 47 => ("CobolParserModel", "pileNode", "[I", true)
  | 48 => ("CobolParserModel", "pilePhase", "[I", true)
  | 49 => ("CobolParserModel", "contexts", "I", false)
  | 50 => ("CobolParserModel", "sums", "[I", true)
  | 51 => ("CobolParserModel", "sumSign", "[I", true)
  | 52 => ("CobolParserModel", "products", "[I", true)
  | 53 => ("CobolParserModel", "productSign", "[I", true)
  | 54 => ("CobolParserModel", "marks", "I", false)
  | 55 => ("CobolParserModel", "subject", "I", false)
  | 56 => ("CobolParserModel", "compared", "I", false)
  | 57 => ("CobolParserModel", "joints", "I", false)
  | 58 => ("CobolParserModel", "mark", "[I", true)
  | 59 => ("CobolParserModel", "andFirst", "[I", true)
  | 60 => ("CobolParserModel", "andLast", "[I", true)
  | 61 => ("CobolParserModel", "andMany", "[I", true)
  | 62 => ("CobolParserModel", "orFirst", "[I", true)
  | 63 => ("CobolParserModel", "orLast", "[I", true)
  | _ => ("CobolParserModel", "orMany", "[I", true)
def nm_ty9 : Nat → FieldType := fun k => match k with
  | 0 => .int
  | 1 => .int
  | 2 => (.array .int)
  | 3 => (.array .int)
  | 4 => .int
  | 5 => .int
  | 6 => (.array .int)
  | 7 => (.array .int)
  | 8 => .int
  | 9 => (.array .int)
  | 10 => (.array .int)
  | 11 => (.array .int)
  | 12 => (.array .int)
  | 13 => (.array .int)
  | 14 => (.array .int)
  | 15 => (.array .int)
  | 16 => (.array .int)
  | 17 => (.array .int)
  | 18 => (.array .int)
  | 19 => .int
  | 20 => .int
  | 21 => .int
  | 22 => (.array .int)
  | 23 => (.array .int)
  | 24 => (.array .int)
  | 25 => (.array .int)
  | 26 => .int
  | 27 => (.array .int)
  | 28 => (.array .int)
  | 29 => (.array .int)
  | 30 => (.array .boolean)
  | 31 => (.array .boolean)
  | 32 => .int
  | 33 => .int
  | 34 => .int
  | 35 => .int
  | 36 => .int
  | 37 => .int
  | 38 => .int
  | 39 => (.array .int)
  | 40 => (.array .int)
  | 41 => .int
  | 42 => .int
  | 43 => .boolean
  | 44 => .int
  | 45 => .int
  | 46 => (.array .int)
  | 47 => (.array .int)
  | 48 => (.array .int)
  | 49 => .int
  | 50 => (.array .int)
  | 51 => (.array .int)
  | 52 => (.array .int)
  | 53 => (.array .int)
  | 54 => .int
  | 55 => .int
  | 56 => .int
  | 57 => .int
  | 58 => (.array .int)
  | 59 => (.array .int)
  | 60 => (.array .int)
  | 61 => (.array .int)
  | 62 => (.array .int)
  | 63 => (.array .int)
  | _ => (.array .int)
theorem nm_nm9 : ∀ a, a < 65 → ∀ b, b < 65 → a ≠ b → (nm_T9 a).2.1 ≠ (nm_T9 b).2.1 := by decide +kernel
theorem nm_to9 : ∀ k, k < 65 → parseFieldDescriptor (nm_T9 k).2.2.1 = some (nm_ty9 k) := by decide +kernel
def nm_T10 : u_T := fun _ => ("", "", "", false)
def nm_T11 : u_T := fun _ => ("", "", "", false)
abbrev nm_cls : List vw_C := [("CobolParser", nm_T0, 3), ("CobolParser$Row", nm_T1, 8), ("CobolParser$Tree", nm_T2, 5), ("CobolParser$Leaves", nm_T3, 2), ("CobolParser$Statements", nm_T4, 4), ("CobolParser$Expressions", nm_T5, 5), ("CobolParser$Clauses", nm_T6, 10), ("CobolParser$Items", nm_T7, 7), ("CobolParser$Units", nm_T8, 5), ("CobolParserModel", nm_T9, 65), ("java/lang/IllegalArgumentException", nm_T10, 0), ("java/lang/IllegalStateException", nm_T11, 0)]
theorem nm_cw0 : ∀ w ∈ ([Cond.laysFinal "CobolParser" "CobolParser" "row" "LCobolParser$Row;", Cond.laysFinal "CobolParser" "CobolParser" "tree" "LCobolParser$Tree;", Cond.laysFinal "CobolParser" "CobolParser" "clauses" "LCobolParser$Clauses;"] : List Jvm.Cond), w ∈ nm_Tg := (nm_fc (nm_in1 (List.mem_of_getElem? (i := 225) rfl) rfl) (nm_fc (nm_in1 (List.mem_of_getElem? (i := 227) rfl) rfl) (nm_fc (nm_in1 (List.mem_of_getElem? (i := 229) rfl) rfl) (fun _ h => nomatch h))))
theorem nm_co0 : (∀ w ∈ u_ws "CobolParser" nm_T0 3, w ∈ nm_Tg) ∧ (∃ ty : Nat → FieldType, ∀ k, k < 3 → parseFieldDescriptor (nm_T0 k).2.2.1 = some (ty k)) ∧ (∀ a, a < 3 → ∀ b, b < 3 → a ≠ b → (nm_T0 a).2.1 ≠ (nm_T0 b).2.1) := ⟨nm_cw0, ⟨nm_ty0, nm_to0⟩, nm_nm0⟩
theorem nm_cw1 : ∀ w ∈ ([Cond.lays "CobolParser$Row" "CobolParser$Row" "kinds" "[I", Cond.lays "CobolParser$Row" "CobolParser$Row" "values" "[I", Cond.lays "CobolParser$Row" "CobolParser$Row" "size" "I", Cond.lays "CobolParser$Row" "CobolParser$Row" "at" "I", Cond.lays "CobolParser$Row" "CobolParser$Row" "refusal" "I", Cond.laysFinal "CobolParser$Row" "CobolParser$Row" "faultNumbers" "[I", Cond.laysFinal "CobolParser$Row" "CobolParser$Row" "faultPlaces" "[I", Cond.lays "CobolParser$Row" "CobolParser$Row" "faultSize" "I"] : List Jvm.Cond), w ∈ nm_Tg := (nm_fc (nm_in1 (List.mem_of_getElem? (i := 41) rfl) rfl) (nm_fc (nm_in1 (List.mem_of_getElem? (i := 43) rfl) rfl) (nm_fc (nm_in1 (List.mem_of_getElem? (i := 45) rfl) rfl) (nm_fc (nm_in1 (List.mem_of_getElem? (i := 47) rfl) rfl) (nm_fc (nm_in1 (List.mem_of_getElem? (i := 49) rfl) rfl) (nm_fc (nm_in1 (List.mem_of_getElem? (i := 51) rfl) rfl) (nm_fc (nm_in1 (List.mem_of_getElem? (i := 53) rfl) rfl) (nm_fc (nm_in1 (List.mem_of_getElem? (i := 55) rfl) rfl) (fun _ h => nomatch h)))))))))
theorem nm_co1 : (∀ w ∈ u_ws "CobolParser$Row" nm_T1 8, w ∈ nm_Tg) ∧ (∃ ty : Nat → FieldType, ∀ k, k < 8 → parseFieldDescriptor (nm_T1 k).2.2.1 = some (ty k)) ∧ (∀ a, a < 8 → ∀ b, b < 8 → a ≠ b → (nm_T1 a).2.1 ≠ (nm_T1 b).2.1) := ⟨nm_cw1, ⟨nm_ty1, nm_to1⟩, nm_nm1⟩
theorem nm_cw2 : ∀ w ∈ ([Cond.lays "CobolParser$Tree" "CobolParser$Tree" "cells" "[I", Cond.lays "CobolParser$Tree" "CobolParser$Tree" "made" "I", Cond.lays "CobolParser$Tree" "CobolParser$Tree" "numbered" "I", Cond.lays "CobolParser$Tree" "CobolParser$Tree" "units" "I", Cond.lays "CobolParser$Tree" "CobolParser$Tree" "greatestLevel" "I"] : List Jvm.Cond), w ∈ nm_Tg := (nm_fc (nm_in1 (List.mem_of_getElem? (i := 70) rfl) rfl) (nm_fc (nm_in1 (List.mem_of_getElem? (i := 72) rfl) rfl) (nm_fc (nm_in1 (List.mem_of_getElem? (i := 74) rfl) rfl) (nm_fc (nm_in1 (List.mem_of_getElem? (i := 76) rfl) rfl) (nm_fc (nm_in1 (List.mem_of_getElem? (i := 78) rfl) rfl) (fun _ h => nomatch h))))))
theorem nm_co2 : (∀ w ∈ u_ws "CobolParser$Tree" nm_T2 5, w ∈ nm_Tg) ∧ (∃ ty : Nat → FieldType, ∀ k, k < 5 → parseFieldDescriptor (nm_T2 k).2.2.1 = some (ty k)) ∧ (∀ a, a < 5 → ∀ b, b < 5 → a ≠ b → (nm_T2 a).2.1 ≠ (nm_T2 b).2.1) := ⟨nm_cw2, ⟨nm_ty2, nm_to2⟩, nm_nm2⟩
theorem nm_cw3 : ∀ w ∈ ([Cond.laysFinal "CobolParser$Leaves" "CobolParser$Leaves" "row" "LCobolParser$Row;", Cond.laysFinal "CobolParser$Leaves" "CobolParser$Leaves" "tree" "LCobolParser$Tree;"] : List Jvm.Cond), w ∈ nm_Tg := (nm_fc (nm_in1 (List.mem_of_getElem? (i := 89) rfl) rfl) (nm_fc (nm_in1 (List.mem_of_getElem? (i := 91) rfl) rfl) (fun _ h => nomatch h)))
theorem nm_co3 : (∀ w ∈ u_ws "CobolParser$Leaves" nm_T3 2, w ∈ nm_Tg) ∧ (∃ ty : Nat → FieldType, ∀ k, k < 2 → parseFieldDescriptor (nm_T3 k).2.2.1 = some (ty k)) ∧ (∀ a, a < 2 → ∀ b, b < 2 → a ≠ b → (nm_T3 a).2.1 ≠ (nm_T3 b).2.1) := ⟨nm_cw3, ⟨nm_ty3, nm_to3⟩, nm_nm3⟩
theorem nm_cw4 : ∀ w ∈ ([Cond.laysFinal "CobolParser$Statements" "CobolParser$Statements" "row" "LCobolParser$Row;", Cond.laysFinal "CobolParser$Statements" "CobolParser$Statements" "tree" "LCobolParser$Tree;", Cond.laysFinal "CobolParser$Statements" "CobolParser$Statements" "leaves" "LCobolParser$Leaves;", Cond.laysFinal "CobolParser$Statements" "CobolParser$Statements" "expressions" "LCobolParser$Expressions;"] : List Jvm.Cond), w ∈ nm_Tg := (nm_fc (nm_in1 (List.mem_of_getElem? (i := 126) rfl) rfl) (nm_fc (nm_in1 (List.mem_of_getElem? (i := 128) rfl) rfl) (nm_fc (nm_in1 (List.mem_of_getElem? (i := 130) rfl) rfl) (nm_fc (nm_in1 (List.mem_of_getElem? (i := 132) rfl) rfl) (fun _ h => nomatch h)))))
theorem nm_co4 : (∀ w ∈ u_ws "CobolParser$Statements" nm_T4 4, w ∈ nm_Tg) ∧ (∃ ty : Nat → FieldType, ∀ k, k < 4 → parseFieldDescriptor (nm_T4 k).2.2.1 = some (ty k)) ∧ (∀ a, a < 4 → ∀ b, b < 4 → a ≠ b → (nm_T4 a).2.1 ≠ (nm_T4 b).2.1) := ⟨nm_cw4, ⟨nm_ty4, nm_to4⟩, nm_nm4⟩
theorem nm_cw5 : ∀ w ∈ ([Cond.laysFinal "CobolParser$Expressions" "CobolParser$Expressions" "row" "LCobolParser$Row;", Cond.laysFinal "CobolParser$Expressions" "CobolParser$Expressions" "tree" "LCobolParser$Tree;", Cond.laysFinal "CobolParser$Expressions" "CobolParser$Expressions" "leaves" "LCobolParser$Leaves;", Cond.lays "CobolParser$Expressions" "CobolParser$Expressions" "subject" "I", Cond.lays "CobolParser$Expressions" "CobolParser$Expressions" "latestHow" "I"] : List Jvm.Cond), w ∈ nm_Tg := (nm_fc (nm_in1 (List.mem_of_getElem? (i := 107) rfl) rfl) (nm_fc (nm_in1 (List.mem_of_getElem? (i := 109) rfl) rfl) (nm_fc (nm_in1 (List.mem_of_getElem? (i := 111) rfl) rfl) (nm_fc (nm_in1 (List.mem_of_getElem? (i := 113) rfl) rfl) (nm_fc (nm_in1 (List.mem_of_getElem? (i := 115) rfl) rfl) (fun _ h => nomatch h))))))
theorem nm_co5 : (∀ w ∈ u_ws "CobolParser$Expressions" nm_T5 5, w ∈ nm_Tg) ∧ (∃ ty : Nat → FieldType, ∀ k, k < 5 → parseFieldDescriptor (nm_T5 k).2.2.1 = some (ty k)) ∧ (∀ a, a < 5 → ∀ b, b < 5 → a ≠ b → (nm_T5 a).2.1 ≠ (nm_T5 b).2.1) := ⟨nm_cw5, ⟨nm_ty5, nm_to5⟩, nm_nm5⟩
theorem nm_cw6 : ∀ w ∈ ([Cond.laysFinal "CobolParser$Clauses" "CobolParser$Clauses" "row" "LCobolParser$Row;", Cond.laysFinal "CobolParser$Clauses" "CobolParser$Clauses" "tree" "LCobolParser$Tree;", Cond.laysFinal "CobolParser$Clauses" "CobolParser$Clauses" "leaves" "LCobolParser$Leaves;", Cond.laysFinal "CobolParser$Clauses" "CobolParser$Clauses" "statements" "LCobolParser$Statements;", Cond.laysFinal "CobolParser$Clauses" "CobolParser$Clauses" "items" "LCobolParser$Items;", Cond.laysFinal "CobolParser$Clauses" "CobolParser$Clauses" "units" "LCobolParser$Units;", Cond.lays "CobolParser$Clauses" "CobolParser$Clauses" "openDivision" "I", Cond.lays "CobolParser$Clauses" "CobolParser$Clauses" "declaratives" "I", Cond.lays "CobolParser$Clauses" "CobolParser$Clauses" "section" "I", Cond.lays "CobolParser$Clauses" "CobolParser$Clauses" "paragraph" "I"] : List Jvm.Cond), w ∈ nm_Tg := (nm_fc (nm_in1 (List.mem_of_getElem? (i := 201) rfl) rfl) (nm_fc (nm_in1 (List.mem_of_getElem? (i := 203) rfl) rfl) (nm_fc (nm_in1 (List.mem_of_getElem? (i := 205) rfl) rfl) (nm_fc (nm_in1 (List.mem_of_getElem? (i := 207) rfl) rfl) (nm_fc (nm_in1 (List.mem_of_getElem? (i := 209) rfl) rfl) (nm_fc (nm_in1 (List.mem_of_getElem? (i := 211) rfl) rfl) (nm_fc (nm_in1 (List.mem_of_getElem? (i := 213) rfl) rfl) (nm_fc (nm_in1 (List.mem_of_getElem? (i := 215) rfl) rfl) (nm_fc (nm_in1 (List.mem_of_getElem? (i := 217) rfl) rfl) (nm_fc (nm_in1 (List.mem_of_getElem? (i := 219) rfl) rfl) (fun _ h => nomatch h)))))))))))
theorem nm_co6 : (∀ w ∈ u_ws "CobolParser$Clauses" nm_T6 10, w ∈ nm_Tg) ∧ (∃ ty : Nat → FieldType, ∀ k, k < 10 → parseFieldDescriptor (nm_T6 k).2.2.1 = some (ty k)) ∧ (∀ a, a < 10 → ∀ b, b < 10 → a ≠ b → (nm_T6 a).2.1 ≠ (nm_T6 b).2.1) := ⟨nm_cw6, ⟨nm_ty6, nm_to6⟩, nm_nm6⟩
theorem nm_cw7 : ∀ w ∈ ([Cond.laysFinal "CobolParser$Items" "CobolParser$Items" "row" "LCobolParser$Row;", Cond.laysFinal "CobolParser$Items" "CobolParser$Items" "tree" "LCobolParser$Tree;", Cond.laysFinal "CobolParser$Items" "CobolParser$Items" "leaves" "LCobolParser$Leaves;", Cond.laysFinal "CobolParser$Items" "CobolParser$Items" "openLevels" "[I", Cond.laysFinal "CobolParser$Items" "CobolParser$Items" "openHandles" "[I", Cond.lays "CobolParser$Items" "CobolParser$Items" "openSize" "I", Cond.lays "CobolParser$Items" "CobolParser$Items" "holder" "I"] : List Jvm.Cond), w ∈ nm_Tg := (nm_fc (nm_in1 (List.mem_of_getElem? (i := 150) rfl) rfl) (nm_fc (nm_in1 (List.mem_of_getElem? (i := 152) rfl) rfl) (nm_fc (nm_in1 (List.mem_of_getElem? (i := 154) rfl) rfl) (nm_fc (nm_in1 (List.mem_of_getElem? (i := 156) rfl) rfl) (nm_fc (nm_in1 (List.mem_of_getElem? (i := 158) rfl) rfl) (nm_fc (nm_in1 (List.mem_of_getElem? (i := 160) rfl) rfl) (nm_fc (nm_in1 (List.mem_of_getElem? (i := 162) rfl) rfl) (fun _ h => nomatch h))))))))
theorem nm_co7 : (∀ w ∈ u_ws "CobolParser$Items" nm_T7 7, w ∈ nm_Tg) ∧ (∃ ty : Nat → FieldType, ∀ k, k < 7 → parseFieldDescriptor (nm_T7 k).2.2.1 = some (ty k)) ∧ (∀ a, a < 7 → ∀ b, b < 7 → a ≠ b → (nm_T7 a).2.1 ≠ (nm_T7 b).2.1) := ⟨nm_cw7, ⟨nm_ty7, nm_to7⟩, nm_nm7⟩
theorem nm_cw8 : ∀ w ∈ ([Cond.laysFinal "CobolParser$Units" "CobolParser$Units" "states" "[I", Cond.laysFinal "CobolParser$Units" "CobolParser$Units" "kinds" "[I", Cond.laysFinal "CobolParser$Units" "CobolParser$Units" "names" "[I", Cond.laysFinal "CobolParser$Units" "CobolParser$Units" "handles" "[I", Cond.lays "CobolParser$Units" "CobolParser$Units" "size" "I"] : List Jvm.Cond), w ∈ nm_Tg := (nm_fc (nm_in1 (List.mem_of_getElem? (i := 180) rfl) rfl) (nm_fc (nm_in1 (List.mem_of_getElem? (i := 182) rfl) rfl) (nm_fc (nm_in1 (List.mem_of_getElem? (i := 184) rfl) rfl) (nm_fc (nm_in1 (List.mem_of_getElem? (i := 186) rfl) rfl) (nm_fc (nm_in1 (List.mem_of_getElem? (i := 188) rfl) rfl) (fun _ h => nomatch h))))))
theorem nm_co8 : (∀ w ∈ u_ws "CobolParser$Units" nm_T8 5, w ∈ nm_Tg) ∧ (∃ ty : Nat → FieldType, ∀ k, k < 5 → parseFieldDescriptor (nm_T8 k).2.2.1 = some (ty k)) ∧ (∀ a, a < 5 → ∀ b, b < 5 → a ≠ b → (nm_T8 a).2.1 ≠ (nm_T8 b).2.1) := ⟨nm_cw8, ⟨nm_ty8, nm_to8⟩, nm_nm8⟩
theorem nm_cw9 : ∀ w ∈ ([Cond.lays "CobolParserModel" "CobolParserModel" "thrown" "I", Cond.lays "CobolParserModel" "CobolParserModel" "size" "I", Cond.laysFinal "CobolParserModel" "CobolParserModel" "kinds" "[I", Cond.laysFinal "CobolParserModel" "CobolParserModel" "values" "[I", Cond.lays "CobolParserModel" "CobolParserModel" "n" "I", Cond.lays "CobolParserModel" "CobolParserModel" "faults" "I", Cond.laysFinal "CobolParserModel" "CobolParserModel" "faultNumber" "[I", Cond.laysFinal "CobolParserModel" "CobolParserModel" "faultWord" "[I", Cond.lays "CobolParserModel" "CobolParserModel" "nodes" "I", Cond.laysFinal "CobolParserModel" "CobolParserModel" "kind" "[I", Cond.laysFinal "CobolParserModel" "CobolParserModel" "value" "[I", Cond.laysFinal "CobolParserModel" "CobolParserModel" "place" "[I", Cond.laysFinal "CobolParserModel" "CobolParserModel" "extra" "[I", Cond.laysFinal "CobolParserModel" "CobolParserModel" "first" "[I", Cond.laysFinal "CobolParserModel" "CobolParserModel" "last" "[I", Cond.laysFinal "CobolParserModel" "CobolParserModel" "next" "[I", Cond.laysFinal "CobolParserModel" "CobolParserModel" "above" "[I", Cond.laysFinal "CobolParserModel" "CobolParserModel" "number" "[I", Cond.laysFinal "CobolParserModel" "CobolParserModel" "order" "[I", Cond.lays "CobolParserModel" "CobolParserModel" "told" "I", Cond.lays "CobolParserModel" "CobolParserModel" "units" "I", Cond.lays "CobolParserModel" "CobolParserModel" "deepest" "I", Cond.laysFinal "CobolParserModel" "CobolParserModel" "unitNode" "[I", Cond.laysFinal "CobolParserModel" "CobolParserModel" "environment" "[I", Cond.laysFinal "CobolParserModel" "CobolParserModel" "data" "[I", Cond.laysFinal "CobolParserModel" "CobolParserModel" "procedure" "[I", Cond.lays "CobolParserModel" "CobolParserModel" "open" "I", Cond.laysFinal "CobolParserModel" "CobolParserModel" "state" "[I", Cond.laysFinal "CobolParserModel" "CobolParserModel" "unit" "[I", Cond.laysFinal "CobolParserModel" "CobolParserModel" "its" "[I", Cond.laysFinal "CobolParserModel" "CobolParserModel" "function" "[Z", Cond.laysFinal "CobolParserModel" "CobolParserModel" "had" "[Z", Cond.lays "CobolParserModel" "CobolParserModel" "files" "I", Cond.lays "CobolParserModel" "CobolParserModel" "holder" "I", Cond.lays "CobolParserModel" "CobolParserModel" "declaratives" "I", Cond.lays "CobolParserModel" "CobolParserModel" "section" "I", Cond.lays "CobolParserModel" "CobolParserModel" "paragraph" "I", Cond.lays "CobolParserModel" "CobolParserModel" "items" "I", Cond.lays "CobolParserModel" "CobolParserModel" "latest" "I", Cond.laysFinal "CobolParserModel" "CobolParserModel" "levels" "[I", Cond.laysFinal "CobolParserModel" "CobolParserModel" "itemNode" "[I", Cond.lays "CobolParserModel" "CobolParserModel" "at" "I", Cond.lays "CobolParserModel" "CobolParserModel" "failed" "I", Cond.lays "CobolParserModel" "CobolParserModel" "bad" "Z", Cond.lays "CobolParserModel" "CobolParserModel" "level" "I", Cond.lays "CobolParserModel" "CobolParserModel" "piled" "I", Cond.laysFinal "CobolParserModel" "CobolParserModel" "pileKind" "[I", Cond.laysFinal "CobolParserModel" "CobolParserModel" "pileNode" "[I", Cond.laysFinal "CobolParserModel" "CobolParserModel" "pilePhase" "[I", Cond.lays "CobolParserModel" "CobolParserModel" "contexts" "I", Cond.laysFinal "CobolParserModel" "CobolParserModel" "sums" "[I", Cond.laysFinal "CobolParserModel" "CobolParserModel" "sumSign" "[I", Cond.laysFinal "CobolParserModel" "CobolParserModel" "products" "[I", Cond.laysFinal "CobolParserModel" "CobolParserModel" "productSign" "[I", Cond.lays "CobolParserModel" "CobolParserModel" "marks" "I", Cond.lays "CobolParserModel" "CobolParserModel" "subject" "I", Cond.lays "CobolParserModel" "CobolParserModel" "compared" "I", Cond.lays "CobolParserModel" "CobolParserModel" "joints" "I", Cond.laysFinal "CobolParserModel" "CobolParserModel" "mark" "[I", Cond.laysFinal "CobolParserModel" "CobolParserModel" "andFirst" "[I", Cond.laysFinal "CobolParserModel" "CobolParserModel" "andLast" "[I", Cond.laysFinal "CobolParserModel" "CobolParserModel" "andMany" "[I", Cond.laysFinal "CobolParserModel" "CobolParserModel" "orFirst" "[I", Cond.laysFinal "CobolParserModel" "CobolParserModel" "orLast" "[I", Cond.laysFinal "CobolParserModel" "CobolParserModel" "orMany" "[I"] : List Jvm.Cond), w ∈ nm_Tg := (nm_fc (nm_in5 (List.mem_of_getElem? (i := 98) rfl) rfl) (nm_fc (nm_in5 (List.mem_of_getElem? (i := 100) rfl) rfl) (nm_fc (nm_in5 (List.mem_of_getElem? (i := 102) rfl) rfl) (nm_fc (nm_in5 (List.mem_of_getElem? (i := 104) rfl) rfl) (nm_fc (nm_in5 (List.mem_of_getElem? (i := 106) rfl) rfl) (nm_fc (nm_in5 (List.mem_of_getElem? (i := 108) rfl) rfl) (nm_fc (nm_in5 (List.mem_of_getElem? (i := 110) rfl) rfl) (nm_fc (nm_in5 (List.mem_of_getElem? (i := 112) rfl) rfl) (nm_fc (nm_in5 (List.mem_of_getElem? (i := 114) rfl) rfl) (nm_fc (nm_in5 (List.mem_of_getElem? (i := 116) rfl) rfl) (nm_fc (nm_in5 (List.mem_of_getElem? (i := 118) rfl) rfl) (nm_fc (nm_in5 (List.mem_of_getElem? (i := 120) rfl) rfl) (nm_fc (nm_in5 (List.mem_of_getElem? (i := 122) rfl) rfl) (nm_fc (nm_in5 (List.mem_of_getElem? (i := 124) rfl) rfl) (nm_fc (nm_in5 (List.mem_of_getElem? (i := 126) rfl) rfl) (nm_fc (nm_in5 (List.mem_of_getElem? (i := 128) rfl) rfl) (nm_fc (nm_in5 (List.mem_of_getElem? (i := 130) rfl) rfl) (nm_fc (nm_in5 (List.mem_of_getElem? (i := 132) rfl) rfl) (nm_fc (nm_in5 (List.mem_of_getElem? (i := 134) rfl) rfl) (nm_fc (nm_in5 (List.mem_of_getElem? (i := 136) rfl) rfl) (nm_fc (nm_in5 (List.mem_of_getElem? (i := 138) rfl) rfl) (nm_fc (nm_in5 (List.mem_of_getElem? (i := 140) rfl) rfl) (nm_fc (nm_in5 (List.mem_of_getElem? (i := 142) rfl) rfl) (nm_fc (nm_in5 (List.mem_of_getElem? (i := 144) rfl) rfl) (nm_fc (nm_in5 (List.mem_of_getElem? (i := 146) rfl) rfl) (nm_fc (nm_in5 (List.mem_of_getElem? (i := 148) rfl) rfl) (nm_fc (nm_in5 (List.mem_of_getElem? (i := 150) rfl) rfl) (nm_fc (nm_in5 (List.mem_of_getElem? (i := 152) rfl) rfl) (nm_fc (nm_in5 (List.mem_of_getElem? (i := 154) rfl) rfl) (nm_fc (nm_in5 (List.mem_of_getElem? (i := 156) rfl) rfl) (nm_fc (nm_in5 (List.mem_of_getElem? (i := 158) rfl) rfl) (nm_fc (nm_in5 (List.mem_of_getElem? (i := 160) rfl) rfl) (nm_fc (nm_in5 (List.mem_of_getElem? (i := 162) rfl) rfl) (nm_fc (nm_in5 (List.mem_of_getElem? (i := 164) rfl) rfl) (nm_fc (nm_in5 (List.mem_of_getElem? (i := 166) rfl) rfl) (nm_fc (nm_in5 (List.mem_of_getElem? (i := 168) rfl) rfl) (nm_fc (nm_in5 (List.mem_of_getElem? (i := 170) rfl) rfl) (nm_fc (nm_in5 (List.mem_of_getElem? (i := 172) rfl) rfl) (nm_fc (nm_in5 (List.mem_of_getElem? (i := 174) rfl) rfl) (nm_fc (nm_in5 (List.mem_of_getElem? (i := 176) rfl) rfl) (nm_fc (nm_in5 (List.mem_of_getElem? (i := 178) rfl) rfl) (nm_fc (nm_in5 (List.mem_of_getElem? (i := 180) rfl) rfl) (nm_fc (nm_in5 (List.mem_of_getElem? (i := 182) rfl) rfl) (nm_fc (nm_in5 (List.mem_of_getElem? (i := 184) rfl) rfl) (nm_fc (nm_in5 (List.mem_of_getElem? (i := 186) rfl) rfl) (nm_fc (nm_in5 (List.mem_of_getElem? (i := 188) rfl) rfl) (nm_fc (nm_in5 (List.mem_of_getElem? (i := 190) rfl) rfl) (nm_fc (nm_in5 (List.mem_of_getElem? (i := 192) rfl) rfl) (nm_fc (nm_in5 (List.mem_of_getElem? (i := 194) rfl) rfl) (nm_fc (nm_in5 (List.mem_of_getElem? (i := 196) rfl) rfl) (nm_fc (nm_in5 (List.mem_of_getElem? (i := 198) rfl) rfl) (nm_fc (nm_in5 (List.mem_of_getElem? (i := 200) rfl) rfl) (nm_fc (nm_in5 (List.mem_of_getElem? (i := 202) rfl) rfl) (nm_fc (nm_in5 (List.mem_of_getElem? (i := 204) rfl) rfl) (nm_fc (nm_in5 (List.mem_of_getElem? (i := 206) rfl) rfl) (nm_fc (nm_in5 (List.mem_of_getElem? (i := 208) rfl) rfl) (nm_fc (nm_in5 (List.mem_of_getElem? (i := 210) rfl) rfl) (nm_fc (nm_in5 (List.mem_of_getElem? (i := 212) rfl) rfl) (nm_fc (nm_in5 (List.mem_of_getElem? (i := 214) rfl) rfl) (nm_fc (nm_in5 (List.mem_of_getElem? (i := 216) rfl) rfl) (nm_fc (nm_in5 (List.mem_of_getElem? (i := 218) rfl) rfl) (nm_fc (nm_in5 (List.mem_of_getElem? (i := 220) rfl) rfl) (nm_fc (nm_in5 (List.mem_of_getElem? (i := 222) rfl) rfl) (nm_fc (nm_in5 (List.mem_of_getElem? (i := 224) rfl) rfl) (nm_fc (nm_in5 (List.mem_of_getElem? (i := 226) rfl) rfl) (fun _ h => nomatch h))))))))))))))))))))))))))))))))))))))))))))))))))))))))))))))))))
theorem nm_co9 : (∀ w ∈ u_ws "CobolParserModel" nm_T9 65, w ∈ nm_Tg) ∧ (∃ ty : Nat → FieldType, ∀ k, k < 65 → parseFieldDescriptor (nm_T9 k).2.2.1 = some (ty k)) ∧ (∀ a, a < 65 → ∀ b, b < 65 → a ≠ b → (nm_T9 a).2.1 ≠ (nm_T9 b).2.1) := ⟨nm_cw9, ⟨nm_ty9, nm_to9⟩, nm_nm9⟩
theorem nm_co10 : (∀ w ∈ u_ws "java/lang/IllegalArgumentException" nm_T10 0, w ∈ nm_Tg) ∧ (∃ ty : Nat → FieldType, ∀ k, k < 0 → parseFieldDescriptor (nm_T10 k).2.2.1 = some (ty k)) ∧ (∀ a, a < 0 → ∀ b, b < 0 → a ≠ b → (nm_T10 a).2.1 ≠ (nm_T10 b).2.1) := ⟨(fun _ h => (nomatch h)), ⟨fun _ => .int, fun _ h => absurd h (Nat.not_lt_zero _)⟩, fun _ h => absurd h (Nat.not_lt_zero _)⟩
theorem nm_co11 : (∀ w ∈ u_ws "java/lang/IllegalStateException" nm_T11 0, w ∈ nm_Tg) ∧ (∃ ty : Nat → FieldType, ∀ k, k < 0 → parseFieldDescriptor (nm_T11 k).2.2.1 = some (ty k)) ∧ (∀ a, a < 0 → ∀ b, b < 0 → a ≠ b → (nm_T11 a).2.1 ≠ (nm_T11 b).2.1) := ⟨(fun _ h => (nomatch h)), ⟨fun _ => .int, fun _ h => absurd h (Nat.not_lt_zero _)⟩, fun _ h => absurd h (Nat.not_lt_zero _)⟩
theorem nm_cl_ok : ∀ q ∈ nm_cls, (∀ w ∈ u_ws q.1 q.2.1 q.2.2, w ∈ nm_Tg) ∧ (∃ ty : Nat → FieldType, ∀ k, k < q.2.2 → parseFieldDescriptor (q.2.1 k).2.2.1 = some (ty k)) ∧ (∀ a, a < q.2.2 → ∀ b, b < q.2.2 → a ≠ b → (q.2.1 a).2.1 ≠ (q.2.1 b).2.1) := (nm_fc nm_co0 (nm_fc nm_co1 (nm_fc nm_co2 (nm_fc nm_co3 (nm_fc nm_co4 (nm_fc nm_co5 (nm_fc nm_co6 (nm_fc nm_co7 (nm_fc nm_co8 (nm_fc nm_co9 (nm_fc nm_co10 (nm_fc nm_co11 (fun _ h => nomatch h)))))))))))))
def nm_fl_0 : List ((String × Nat) × (Nat × Nat × FieldType × Bool)) := [(("CobolParser$Row", 11), (1, 0, (.array .int), false)), (("CobolParser$Row", 15), (1, 1, (.array .int), false)), (("CobolParser$Row", 18), (1, 2, .int, false)), (("CobolParser$Row", 22), (1, 3, .int, false)), (("CobolParser$Row", 25), (1, 4, .int, false)), (("CobolParser$Row", 28), (1, 5, (.array .int), true)), (("CobolParser$Row", 31), (1, 6, (.array .int), true)), (("CobolParser$Row", 34), (1, 7, .int, false)), (("CobolParser$Tree", 11), (2, 0, (.array .int), false)), (("CobolParser$Tree", 15), (2, 1, .int, false)), (("CobolParser$Tree", 19), (2, 2, .int, false)), (("CobolParser$Tree", 22), (2, 3, .int, false)), (("CobolParser$Tree", 25), (2, 4, .int, false)), (("CobolParser$Leaves", 9), (3, 0, (.object "CobolParser$Row"), true)), (("CobolParser$Leaves", 15), (3, 1, (.object "CobolParser$Tree"), true)), (("CobolParser$Expressions", 18), (5, 0, (.object "CobolParser$Row"), true)), (("CobolParser$Expressions", 22), (5, 1, (.object "CobolParser$Tree"), true)), (("CobolParser$Expressions", 26), (5, 2, (.object "CobolParser$Leaves"), true)), (("CobolParser$Expressions", 9), (5, 3, .int, false)), (("CobolParser$Expressions", 15), (5, 4, .int, false)), (("CobolParser$Statements", 9), (4, 0, (.object "CobolParser$Row"), true)), (("CobolParser$Statements", 15), (4, 1, (.object "CobolParser$Tree"), true)), (("CobolParser$Statements", 19), (4, 2, (.object "CobolParser$Leaves"), true)), (("CobolParser$Statements", 23), (4, 3, (.object "CobolParser$Expressions"), true)), (("CobolParser$Items", 25), (7, 0, (.object "CobolParser$Row"), true)), (("CobolParser$Items", 29), (7, 1, (.object "CobolParser$Tree"), true)), (("CobolParser$Items", 33), (7, 2, (.object "CobolParser$Leaves"), true)), (("CobolParser$Items", 11), (7, 3, (.array .int), true)), (("CobolParser$Items", 15), (7, 4, (.array .int), true)), (("CobolParser$Items", 18), (7, 5, .int, false))]
theorem nm_fl_ok_0 : ∀ q ∈ nm_fl_0, ∃ (C : String) (T : u_T) (N : Nat), nm_cls[q.2.1]? = some (C, T, N) ∧ q.2.2.1 < N ∧ (T q.2.2.1).2.2.2 = q.2.2.2.2 ∧ (q.2.2.2.2 = true → (T q.2.2.1).1 = q.1.1) ∧ parseFieldDescriptor (T q.2.2.1).2.2.1 = some q.2.2.2.1 ∧ Cond.fieldLink q.1.1 q.1.2 (T q.2.2.1).1 (T q.2.2.1).2.1 (T q.2.2.1).2.2.1 ∈ nm_Tg := (nm_fc ⟨_, _, _, rfl, Nat.le_of_ble_eq_true rfl, rfl, (fun h => (nomatch h)), nm_pd10, (nm_in1 (List.mem_of_getElem? (i := 33) rfl) rfl)⟩ (nm_fc ⟨_, _, _, rfl, Nat.le_of_ble_eq_true rfl, rfl, (fun h => (nomatch h)), nm_pd10, (nm_in1 (List.mem_of_getElem? (i := 34) rfl) rfl)⟩ (nm_fc ⟨_, _, _, rfl, Nat.le_of_ble_eq_true rfl, rfl, (fun h => (nomatch h)), nm_pd0, (nm_in1 (List.mem_of_getElem? (i := 35) rfl) rfl)⟩ (nm_fc ⟨_, _, _, rfl, Nat.le_of_ble_eq_true rfl, rfl, (fun h => (nomatch h)), nm_pd0, (nm_in1 (List.mem_of_getElem? (i := 36) rfl) rfl)⟩ (nm_fc ⟨_, _, _, rfl, Nat.le_of_ble_eq_true rfl, rfl, (fun h => (nomatch h)), nm_pd0, (nm_in1 (List.mem_of_getElem? (i := 37) rfl) rfl)⟩ (nm_fc ⟨_, _, _, rfl, Nat.le_of_ble_eq_true rfl, rfl, (fun _ => rfl), nm_pd10, (nm_in1 (List.mem_of_getElem? (i := 38) rfl) rfl)⟩ (nm_fc ⟨_, _, _, rfl, Nat.le_of_ble_eq_true rfl, rfl, (fun _ => rfl), nm_pd10, (nm_in1 (List.mem_of_getElem? (i := 39) rfl) rfl)⟩ (nm_fc ⟨_, _, _, rfl, Nat.le_of_ble_eq_true rfl, rfl, (fun h => (nomatch h)), nm_pd0, (nm_in1 (List.mem_of_getElem? (i := 40) rfl) rfl)⟩ (nm_fc ⟨_, _, _, rfl, Nat.le_of_ble_eq_true rfl, rfl, (fun h => (nomatch h)), nm_pd10, (nm_in1 (List.mem_of_getElem? (i := 65) rfl) rfl)⟩ (nm_fc ⟨_, _, _, rfl, Nat.le_of_ble_eq_true rfl, rfl, (fun h => (nomatch h)), nm_pd0, (nm_in1 (List.mem_of_getElem? (i := 66) rfl) rfl)⟩ (nm_fc ⟨_, _, _, rfl, Nat.le_of_ble_eq_true rfl, rfl, (fun h => (nomatch h)), nm_pd0, (nm_in1 (List.mem_of_getElem? (i := 67) rfl) rfl)⟩ (nm_fc ⟨_, _, _, rfl, Nat.le_of_ble_eq_true rfl, rfl, (fun h => (nomatch h)), nm_pd0, (nm_in1 (List.mem_of_getElem? (i := 68) rfl) rfl)⟩ (nm_fc ⟨_, _, _, rfl, Nat.le_of_ble_eq_true rfl, rfl, (fun h => (nomatch h)), nm_pd0, (nm_in1 (List.mem_of_getElem? (i := 69) rfl) rfl)⟩ (nm_fc ⟨_, _, _, rfl, Nat.le_of_ble_eq_true rfl, rfl, (fun _ => rfl), nm_pd5, (nm_in1 (List.mem_of_getElem? (i := 87) rfl) rfl)⟩ (nm_fc ⟨_, _, _, rfl, Nat.le_of_ble_eq_true rfl, rfl, (fun _ => rfl), nm_pd7, (nm_in1 (List.mem_of_getElem? (i := 88) rfl) rfl)⟩ (nm_fc ⟨_, _, _, rfl, Nat.le_of_ble_eq_true rfl, rfl, (fun _ => rfl), nm_pd5, (nm_in1 (List.mem_of_getElem? (i := 102) rfl) rfl)⟩ (nm_fc ⟨_, _, _, rfl, Nat.le_of_ble_eq_true rfl, rfl, (fun _ => rfl), nm_pd7, (nm_in1 (List.mem_of_getElem? (i := 103) rfl) rfl)⟩ (nm_fc ⟨_, _, _, rfl, Nat.le_of_ble_eq_true rfl, rfl, (fun _ => rfl), nm_pd4, (nm_in1 (List.mem_of_getElem? (i := 104) rfl) rfl)⟩ (nm_fc ⟨_, _, _, rfl, Nat.le_of_ble_eq_true rfl, rfl, (fun h => (nomatch h)), nm_pd0, (nm_in1 (List.mem_of_getElem? (i := 105) rfl) rfl)⟩ (nm_fc ⟨_, _, _, rfl, Nat.le_of_ble_eq_true rfl, rfl, (fun h => (nomatch h)), nm_pd0, (nm_in1 (List.mem_of_getElem? (i := 106) rfl) rfl)⟩ (nm_fc ⟨_, _, _, rfl, Nat.le_of_ble_eq_true rfl, rfl, (fun _ => rfl), nm_pd5, (nm_in1 (List.mem_of_getElem? (i := 122) rfl) rfl)⟩ (nm_fc ⟨_, _, _, rfl, Nat.le_of_ble_eq_true rfl, rfl, (fun _ => rfl), nm_pd7, (nm_in1 (List.mem_of_getElem? (i := 123) rfl) rfl)⟩ (nm_fc ⟨_, _, _, rfl, Nat.le_of_ble_eq_true rfl, rfl, (fun _ => rfl), nm_pd4, (nm_in1 (List.mem_of_getElem? (i := 124) rfl) rfl)⟩ (nm_fc ⟨_, _, _, rfl, Nat.le_of_ble_eq_true rfl, rfl, (fun _ => rfl), nm_pd2, (nm_in1 (List.mem_of_getElem? (i := 125) rfl) rfl)⟩ (nm_fc ⟨_, _, _, rfl, Nat.le_of_ble_eq_true rfl, rfl, (fun _ => rfl), nm_pd5, (nm_in1 (List.mem_of_getElem? (i := 143) rfl) rfl)⟩ (nm_fc ⟨_, _, _, rfl, Nat.le_of_ble_eq_true rfl, rfl, (fun _ => rfl), nm_pd7, (nm_in1 (List.mem_of_getElem? (i := 144) rfl) rfl)⟩ (nm_fc ⟨_, _, _, rfl, Nat.le_of_ble_eq_true rfl, rfl, (fun _ => rfl), nm_pd4, (nm_in1 (List.mem_of_getElem? (i := 145) rfl) rfl)⟩ (nm_fc ⟨_, _, _, rfl, Nat.le_of_ble_eq_true rfl, rfl, (fun _ => rfl), nm_pd10, (nm_in1 (List.mem_of_getElem? (i := 146) rfl) rfl)⟩ (nm_fc ⟨_, _, _, rfl, Nat.le_of_ble_eq_true rfl, rfl, (fun _ => rfl), nm_pd10, (nm_in1 (List.mem_of_getElem? (i := 147) rfl) rfl)⟩ (nm_fc ⟨_, _, _, rfl, Nat.le_of_ble_eq_true rfl, rfl, (fun h => (nomatch h)), nm_pd0, (nm_in1 (List.mem_of_getElem? (i := 148) rfl) rfl)⟩ (fun _ h => nomatch h)))))))))))))))))))))))))))))))
def nm_fl_1 : List ((String × Nat) × (Nat × Nat × FieldType × Bool)) := [(("CobolParser$Items", 22), (7, 6, .int, false)), (("CobolParser$Units", 9), (8, 0, (.array .int), true)), (("CobolParser$Units", 15), (8, 1, (.array .int), true)), (("CobolParser$Units", 18), (8, 2, (.array .int), true)), (("CobolParser$Units", 21), (8, 3, (.array .int), true)), (("CobolParser$Units", 24), (8, 4, .int, false)), (("CobolParser$Clauses", 31), (6, 0, (.object "CobolParser$Row"), true)), (("CobolParser$Clauses", 35), (6, 1, (.object "CobolParser$Tree"), true)), (("CobolParser$Clauses", 39), (6, 2, (.object "CobolParser$Leaves"), true)), (("CobolParser$Clauses", 43), (6, 3, (.object "CobolParser$Statements"), true)), (("CobolParser$Clauses", 47), (6, 4, (.object "CobolParser$Items"), true)), (("CobolParser$Clauses", 12), (6, 5, (.object "CobolParser$Units"), true)), (("CobolParser$Clauses", 18), (6, 6, .int, false)), (("CobolParser$Clauses", 22), (6, 7, .int, false)), (("CobolParser$Clauses", 25), (6, 8, .int, false)), (("CobolParser$Clauses", 28), (6, 9, .int, false)), (("CobolParser", 10), (0, 0, (.object "CobolParser$Row"), true)), (("CobolParser", 19), (0, 1, (.object "CobolParser$Tree"), true)), (("CobolParser", 46), (0, 2, (.object "CobolParser$Clauses"), true)), (("CobolParserModel", 128), (9, 0, .int, false)), (("CobolParserModel", 137), (9, 1, .int, false)), (("CobolParserModel", 7), (9, 2, (.array .int), true)), (("CobolParserModel", 13), (9, 3, (.array .int), true)), (("CobolParserModel", 140), (9, 4, .int, false)), (("CobolParserModel", 147), (9, 5, .int, false)), (("CobolParserModel", 16), (9, 6, (.array .int), true)), (("CobolParserModel", 19), (9, 7, (.array .int), true)), (("CobolParserModel", 174), (9, 8, .int, false)), (("CobolParserModel", 22), (9, 9, (.array .int), true)), (("CobolParserModel", 25), (9, 10, (.array .int), true))]
theorem nm_fl_ok_1 : ∀ q ∈ nm_fl_1, ∃ (C : String) (T : u_T) (N : Nat), nm_cls[q.2.1]? = some (C, T, N) ∧ q.2.2.1 < N ∧ (T q.2.2.1).2.2.2 = q.2.2.2.2 ∧ (q.2.2.2.2 = true → (T q.2.2.1).1 = q.1.1) ∧ parseFieldDescriptor (T q.2.2.1).2.2.1 = some q.2.2.2.1 ∧ Cond.fieldLink q.1.1 q.1.2 (T q.2.2.1).1 (T q.2.2.1).2.1 (T q.2.2.1).2.2.1 ∈ nm_Tg := (nm_fc ⟨_, _, _, rfl, Nat.le_of_ble_eq_true rfl, rfl, (fun h => (nomatch h)), nm_pd0, (nm_in1 (List.mem_of_getElem? (i := 149) rfl) rfl)⟩ (nm_fc ⟨_, _, _, rfl, Nat.le_of_ble_eq_true rfl, rfl, (fun _ => rfl), nm_pd10, (nm_in1 (List.mem_of_getElem? (i := 175) rfl) rfl)⟩ (nm_fc ⟨_, _, _, rfl, Nat.le_of_ble_eq_true rfl, rfl, (fun _ => rfl), nm_pd10, (nm_in1 (List.mem_of_getElem? (i := 176) rfl) rfl)⟩ (nm_fc ⟨_, _, _, rfl, Nat.le_of_ble_eq_true rfl, rfl, (fun _ => rfl), nm_pd10, (nm_in1 (List.mem_of_getElem? (i := 177) rfl) rfl)⟩ (nm_fc ⟨_, _, _, rfl, Nat.le_of_ble_eq_true rfl, rfl, (fun _ => rfl), nm_pd10, (nm_in1 (List.mem_of_getElem? (i := 178) rfl) rfl)⟩ (nm_fc ⟨_, _, _, rfl, Nat.le_of_ble_eq_true rfl, rfl, (fun h => (nomatch h)), nm_pd0, (nm_in1 (List.mem_of_getElem? (i := 179) rfl) rfl)⟩ (nm_fc ⟨_, _, _, rfl, Nat.le_of_ble_eq_true rfl, rfl, (fun _ => rfl), nm_pd5, (nm_in1 (List.mem_of_getElem? (i := 191) rfl) rfl)⟩ (nm_fc ⟨_, _, _, rfl, Nat.le_of_ble_eq_true rfl, rfl, (fun _ => rfl), nm_pd7, (nm_in1 (List.mem_of_getElem? (i := 192) rfl) rfl)⟩ (nm_fc ⟨_, _, _, rfl, Nat.le_of_ble_eq_true rfl, rfl, (fun _ => rfl), nm_pd4, (nm_in1 (List.mem_of_getElem? (i := 193) rfl) rfl)⟩ (nm_fc ⟨_, _, _, rfl, Nat.le_of_ble_eq_true rfl, rfl, (fun _ => rfl), nm_pd6, (nm_in1 (List.mem_of_getElem? (i := 194) rfl) rfl)⟩ (nm_fc ⟨_, _, _, rfl, Nat.le_of_ble_eq_true rfl, rfl, (fun _ => rfl), nm_pd3, (nm_in1 (List.mem_of_getElem? (i := 195) rfl) rfl)⟩ (nm_fc ⟨_, _, _, rfl, Nat.le_of_ble_eq_true rfl, rfl, (fun _ => rfl), nm_pd8, (nm_in1 (List.mem_of_getElem? (i := 196) rfl) rfl)⟩ (nm_fc ⟨_, _, _, rfl, Nat.le_of_ble_eq_true rfl, rfl, (fun h => (nomatch h)), nm_pd0, (nm_in1 (List.mem_of_getElem? (i := 197) rfl) rfl)⟩ (nm_fc ⟨_, _, _, rfl, Nat.le_of_ble_eq_true rfl, rfl, (fun h => (nomatch h)), nm_pd0, (nm_in1 (List.mem_of_getElem? (i := 198) rfl) rfl)⟩ (nm_fc ⟨_, _, _, rfl, Nat.le_of_ble_eq_true rfl, rfl, (fun h => (nomatch h)), nm_pd0, (nm_in1 (List.mem_of_getElem? (i := 199) rfl) rfl)⟩ (nm_fc ⟨_, _, _, rfl, Nat.le_of_ble_eq_true rfl, rfl, (fun h => (nomatch h)), nm_pd0, (nm_in1 (List.mem_of_getElem? (i := 200) rfl) rfl)⟩ (nm_fc ⟨_, _, _, rfl, Nat.le_of_ble_eq_true rfl, rfl, (fun _ => rfl), nm_pd5, (nm_in1 (List.mem_of_getElem? (i := 222) rfl) rfl)⟩ (nm_fc ⟨_, _, _, rfl, Nat.le_of_ble_eq_true rfl, rfl, (fun _ => rfl), nm_pd7, (nm_in1 (List.mem_of_getElem? (i := 223) rfl) rfl)⟩ (nm_fc ⟨_, _, _, rfl, Nat.le_of_ble_eq_true rfl, rfl, (fun _ => rfl), nm_pd1, (nm_in1 (List.mem_of_getElem? (i := 224) rfl) rfl)⟩ (nm_fc ⟨_, _, _, rfl, Nat.le_of_ble_eq_true rfl, rfl, (fun h => (nomatch h)), nm_pd0, (nm_in5 (List.mem_of_getElem? (i := 33) rfl) rfl)⟩ (nm_fc ⟨_, _, _, rfl, Nat.le_of_ble_eq_true rfl, rfl, (fun h => (nomatch h)), nm_pd0, (nm_in5 (List.mem_of_getElem? (i := 34) rfl) rfl)⟩ (nm_fc ⟨_, _, _, rfl, Nat.le_of_ble_eq_true rfl, rfl, (fun _ => rfl), nm_pd10, (nm_in5 (List.mem_of_getElem? (i := 35) rfl) rfl)⟩ (nm_fc ⟨_, _, _, rfl, Nat.le_of_ble_eq_true rfl, rfl, (fun _ => rfl), nm_pd10, (nm_in5 (List.mem_of_getElem? (i := 36) rfl) rfl)⟩ (nm_fc ⟨_, _, _, rfl, Nat.le_of_ble_eq_true rfl, rfl, (fun h => (nomatch h)), nm_pd0, (nm_in5 (List.mem_of_getElem? (i := 37) rfl) rfl)⟩ (nm_fc ⟨_, _, _, rfl, Nat.le_of_ble_eq_true rfl, rfl, (fun h => (nomatch h)), nm_pd0, (nm_in5 (List.mem_of_getElem? (i := 38) rfl) rfl)⟩ (nm_fc ⟨_, _, _, rfl, Nat.le_of_ble_eq_true rfl, rfl, (fun _ => rfl), nm_pd10, (nm_in5 (List.mem_of_getElem? (i := 39) rfl) rfl)⟩ (nm_fc ⟨_, _, _, rfl, Nat.le_of_ble_eq_true rfl, rfl, (fun _ => rfl), nm_pd10, (nm_in5 (List.mem_of_getElem? (i := 40) rfl) rfl)⟩ (nm_fc ⟨_, _, _, rfl, Nat.le_of_ble_eq_true rfl, rfl, (fun h => (nomatch h)), nm_pd0, (nm_in5 (List.mem_of_getElem? (i := 41) rfl) rfl)⟩ (nm_fc ⟨_, _, _, rfl, Nat.le_of_ble_eq_true rfl, rfl, (fun _ => rfl), nm_pd10, (nm_in5 (List.mem_of_getElem? (i := 42) rfl) rfl)⟩ (nm_fc ⟨_, _, _, rfl, Nat.le_of_ble_eq_true rfl, rfl, (fun _ => rfl), nm_pd10, (nm_in5 (List.mem_of_getElem? (i := 43) rfl) rfl)⟩ (fun _ h => nomatch h)))))))))))))))))))))))))))))))
def nm_fl_2 : List ((String × Nat) × (Nat × Nat × FieldType × Bool)) := [(("CobolParserModel", 28), (9, 11, (.array .int), true)), (("CobolParserModel", 31), (9, 12, (.array .int), true)), (("CobolParserModel", 34), (9, 13, (.array .int), true)), (("CobolParserModel", 37), (9, 14, (.array .int), true)), (("CobolParserModel", 40), (9, 15, (.array .int), true)), (("CobolParserModel", 43), (9, 16, (.array .int), true)), (("CobolParserModel", 46), (9, 17, (.array .int), true)), (("CobolParserModel", 49), (9, 18, (.array .int), true)), (("CobolParserModel", 208), (9, 19, .int, false)), (("CobolParserModel", 202), (9, 20, .int, false)), (("CobolParserModel", 211), (9, 21, .int, false)), (("CobolParserModel", 52), (9, 22, (.array .int), true)), (("CobolParserModel", 55), (9, 23, (.array .int), true)), (("CobolParserModel", 58), (9, 24, (.array .int), true)), (("CobolParserModel", 61), (9, 25, (.array .int), true)), (("CobolParserModel", 205), (9, 26, .int, false)), (("CobolParserModel", 64), (9, 27, (.array .int), true)), (("CobolParserModel", 67), (9, 28, (.array .int), true)), (("CobolParserModel", 70), (9, 29, (.array .int), true)), (("CobolParserModel", 73), (9, 30, (.array .boolean), true)), (("CobolParserModel", 77), (9, 31, (.array .boolean), true)), (("CobolParserModel", 273), (9, 32, .int, false)), (("CobolParserModel", 276), (9, 33, .int, false)), (("CobolParserModel", 255), (9, 34, .int, false)), (("CobolParserModel", 233), (9, 35, .int, false)), (("CobolParserModel", 291), (9, 36, .int, false)), (("CobolParserModel", 279), (9, 37, .int, false)), (("CobolParserModel", 282), (9, 38, .int, false)), (("CobolParserModel", 80), (9, 39, (.array .int), true)), (("CobolParserModel", 83), (9, 40, (.array .int), true))]
theorem nm_fl_ok_2 : ∀ q ∈ nm_fl_2, ∃ (C : String) (T : u_T) (N : Nat), nm_cls[q.2.1]? = some (C, T, N) ∧ q.2.2.1 < N ∧ (T q.2.2.1).2.2.2 = q.2.2.2.2 ∧ (q.2.2.2.2 = true → (T q.2.2.1).1 = q.1.1) ∧ parseFieldDescriptor (T q.2.2.1).2.2.1 = some q.2.2.2.1 ∧ Cond.fieldLink q.1.1 q.1.2 (T q.2.2.1).1 (T q.2.2.1).2.1 (T q.2.2.1).2.2.1 ∈ nm_Tg := (nm_fc ⟨_, _, _, rfl, Nat.le_of_ble_eq_true rfl, rfl, (fun _ => rfl), nm_pd10, (nm_in5 (List.mem_of_getElem? (i := 44) rfl) rfl)⟩ (nm_fc ⟨_, _, _, rfl, Nat.le_of_ble_eq_true rfl, rfl, (fun _ => rfl), nm_pd10, (nm_in5 (List.mem_of_getElem? (i := 45) rfl) rfl)⟩ (nm_fc ⟨_, _, _, rfl, Nat.le_of_ble_eq_true rfl, rfl, (fun _ => rfl), nm_pd10, (nm_in5 (List.mem_of_getElem? (i := 46) rfl) rfl)⟩ (nm_fc ⟨_, _, _, rfl, Nat.le_of_ble_eq_true rfl, rfl, (fun _ => rfl), nm_pd10, (nm_in5 (List.mem_of_getElem? (i := 47) rfl) rfl)⟩ (nm_fc ⟨_, _, _, rfl, Nat.le_of_ble_eq_true rfl, rfl, (fun _ => rfl), nm_pd10, (nm_in5 (List.mem_of_getElem? (i := 48) rfl) rfl)⟩ (nm_fc ⟨_, _, _, rfl, Nat.le_of_ble_eq_true rfl, rfl, (fun _ => rfl), nm_pd10, (nm_in5 (List.mem_of_getElem? (i := 49) rfl) rfl)⟩ (nm_fc ⟨_, _, _, rfl, Nat.le_of_ble_eq_true rfl, rfl, (fun _ => rfl), nm_pd10, (nm_in5 (List.mem_of_getElem? (i := 50) rfl) rfl)⟩ (nm_fc ⟨_, _, _, rfl, Nat.le_of_ble_eq_true rfl, rfl, (fun _ => rfl), nm_pd10, (nm_in5 (List.mem_of_getElem? (i := 51) rfl) rfl)⟩ (nm_fc ⟨_, _, _, rfl, Nat.le_of_ble_eq_true rfl, rfl, (fun h => (nomatch h)), nm_pd0, (nm_in5 (List.mem_of_getElem? (i := 52) rfl) rfl)⟩ (nm_fc ⟨_, _, _, rfl, Nat.le_of_ble_eq_true rfl, rfl, (fun h => (nomatch h)), nm_pd0, (nm_in5 (List.mem_of_getElem? (i := 53) rfl) rfl)⟩ (nm_fc ⟨_, _, _, rfl, Nat.le_of_ble_eq_true rfl, rfl, (fun h => (nomatch h)), nm_pd0, (nm_in5 (List.mem_of_getElem? (i := 54) rfl) rfl)⟩ (nm_fc ⟨_, _, _, rfl, Nat.le_of_ble_eq_true rfl, rfl, (fun _ => rfl), nm_pd10, (nm_in5 (List.mem_of_getElem? (i := 55) rfl) rfl)⟩ (nm_fc ⟨_, _, _, rfl, Nat.le_of_ble_eq_true rfl, rfl, (fun _ => rfl), nm_pd10, (nm_in5 (List.mem_of_getElem? (i := 56) rfl) rfl)⟩ (nm_fc ⟨_, _, _, rfl, Nat.le_of_ble_eq_true rfl, rfl, (fun _ => rfl), nm_pd10, (nm_in5 (List.mem_of_getElem? (i := 57) rfl) rfl)⟩ (nm_fc ⟨_, _, _, rfl, Nat.le_of_ble_eq_true rfl, rfl, (fun _ => rfl), nm_pd10, (nm_in5 (List.mem_of_getElem? (i := 58) rfl) rfl)⟩ (nm_fc ⟨_, _, _, rfl, Nat.le_of_ble_eq_true rfl, rfl, (fun h => (nomatch h)), nm_pd0, (nm_in5 (List.mem_of_getElem? (i := 59) rfl) rfl)⟩ (nm_fc ⟨_, _, _, rfl, Nat.le_of_ble_eq_true rfl, rfl, (fun _ => rfl), nm_pd10, (nm_in5 (List.mem_of_getElem? (i := 60) rfl) rfl)⟩ (nm_fc ⟨_, _, _, rfl, Nat.le_of_ble_eq_true rfl, rfl, (fun _ => rfl), nm_pd10, (nm_in5 (List.mem_of_getElem? (i := 61) rfl) rfl)⟩ (nm_fc ⟨_, _, _, rfl, Nat.le_of_ble_eq_true rfl, rfl, (fun _ => rfl), nm_pd10, (nm_in5 (List.mem_of_getElem? (i := 62) rfl) rfl)⟩ (nm_fc ⟨_, _, _, rfl, Nat.le_of_ble_eq_true rfl, rfl, (fun _ => rfl), nm_pd11, (nm_in5 (List.mem_of_getElem? (i := 63) rfl) rfl)⟩ (nm_fc ⟨_, _, _, rfl, Nat.le_of_ble_eq_true rfl, rfl, (fun _ => rfl), nm_pd11, (nm_in5 (List.mem_of_getElem? (i := 64) rfl) rfl)⟩ (nm_fc ⟨_, _, _, rfl, Nat.le_of_ble_eq_true rfl, rfl, (fun h => (nomatch h)), nm_pd0, (nm_in5 (List.mem_of_getElem? (i := 65) rfl) rfl)⟩ (nm_fc ⟨_, _, _, rfl, Nat.le_of_ble_eq_true rfl, rfl, (fun h => (nomatch h)), nm_pd0, (nm_in5 (List.mem_of_getElem? (i := 66) rfl) rfl)⟩ (nm_fc ⟨_, _, _, rfl, Nat.le_of_ble_eq_true rfl, rfl, (fun h => (nomatch h)), nm_pd0, (nm_in5 (List.mem_of_getElem? (i := 67) rfl) rfl)⟩ (nm_fc ⟨_, _, _, rfl, Nat.le_of_ble_eq_true rfl, rfl, (fun h => (nomatch h)), nm_pd0, (nm_in5 (List.mem_of_getElem? (i := 68) rfl) rfl)⟩ (nm_fc ⟨_, _, _, rfl, Nat.le_of_ble_eq_true rfl, rfl, (fun h => (nomatch h)), nm_pd0, (nm_in5 (List.mem_of_getElem? (i := 69) rfl) rfl)⟩ (nm_fc ⟨_, _, _, rfl, Nat.le_of_ble_eq_true rfl, rfl, (fun h => (nomatch h)), nm_pd0, (nm_in5 (List.mem_of_getElem? (i := 70) rfl) rfl)⟩ (nm_fc ⟨_, _, _, rfl, Nat.le_of_ble_eq_true rfl, rfl, (fun h => (nomatch h)), nm_pd0, (nm_in5 (List.mem_of_getElem? (i := 71) rfl) rfl)⟩ (nm_fc ⟨_, _, _, rfl, Nat.le_of_ble_eq_true rfl, rfl, (fun _ => rfl), nm_pd10, (nm_in5 (List.mem_of_getElem? (i := 72) rfl) rfl)⟩ (nm_fc ⟨_, _, _, rfl, Nat.le_of_ble_eq_true rfl, rfl, (fun _ => rfl), nm_pd10, (nm_in5 (List.mem_of_getElem? (i := 73) rfl) rfl)⟩ (fun _ h => nomatch h)))))))))))))))))))))))))))))))
def nm_fl_3 : List ((String × Nat) × (Nat × Nat × FieldType × Bool)) := [(("CobolParserModel", 161), (9, 41, .int, false)), (("CobolParserModel", 158), (9, 42, .int, false)), (("CobolParserModel", 150), (9, 43, .boolean, false)), (("CobolParserModel", 313), (9, 44, .int, false)), (("CobolParserModel", 310), (9, 45, .int, false)), (("CobolParserModel", 86), (9, 46, (.array .int), true)), (("CobolParserModel", 89), (9, 47, (.array .int), true)), (("CobolParserModel", 92), (9, 48, (.array .int), true)), (("CobolParserModel", 371), (9, 49, .int, false)), (("CobolParserModel", 95), (9, 50, (.array .int), true)), (("CobolParserModel", 98), (9, 51, (.array .int), true)), (("CobolParserModel", 101), (9, 52, (.array .int), true)), (("CobolParserModel", 104), (9, 53, (.array .int), true)), (("CobolParserModel", 392), (9, 54, .int, false)), (("CobolParserModel", 386), (9, 55, .int, false)), (("CobolParserModel", 416), (9, 56, .int, false)), (("CobolParserModel", 383), (9, 57, .int, false)), (("CobolParserModel", 107), (9, 58, (.array .int), true)), (("CobolParserModel", 110), (9, 59, (.array .int), true)), (("CobolParserModel", 113), (9, 60, (.array .int), true)), (("CobolParserModel", 116), (9, 61, (.array .int), true)), (("CobolParserModel", 119), (9, 62, (.array .int), true)), (("CobolParserModel", 122), (9, 63, (.array .int), true)), (("CobolParserModel", 125), (9, 64, (.array .int), true))]
theorem nm_fl_ok_3 : ∀ q ∈ nm_fl_3, ∃ (C : String) (T : u_T) (N : Nat), nm_cls[q.2.1]? = some (C, T, N) ∧ q.2.2.1 < N ∧ (T q.2.2.1).2.2.2 = q.2.2.2.2 ∧ (q.2.2.2.2 = true → (T q.2.2.1).1 = q.1.1) ∧ parseFieldDescriptor (T q.2.2.1).2.2.1 = some q.2.2.2.1 ∧ Cond.fieldLink q.1.1 q.1.2 (T q.2.2.1).1 (T q.2.2.1).2.1 (T q.2.2.1).2.2.1 ∈ nm_Tg := (nm_fc ⟨_, _, _, rfl, Nat.le_of_ble_eq_true rfl, rfl, (fun h => (nomatch h)), nm_pd0, (nm_in5 (List.mem_of_getElem? (i := 74) rfl) rfl)⟩ (nm_fc ⟨_, _, _, rfl, Nat.le_of_ble_eq_true rfl, rfl, (fun h => (nomatch h)), nm_pd0, (nm_in5 (List.mem_of_getElem? (i := 75) rfl) rfl)⟩ (nm_fc ⟨_, _, _, rfl, Nat.le_of_ble_eq_true rfl, rfl, (fun h => (nomatch h)), nm_pd9, (nm_in5 (List.mem_of_getElem? (i := 76) rfl) rfl)⟩ (nm_fc ⟨_, _, _, rfl, Nat.le_of_ble_eq_true rfl, rfl, (fun h => (nomatch h)), nm_pd0, (nm_in5 (List.mem_of_getElem? (i := 77) rfl) rfl)⟩ (nm_fc ⟨_, _, _, rfl, Nat.le_of_ble_eq_true rfl, rfl, (fun h => (nomatch h)), nm_pd0, (nm_in5 (List.mem_of_getElem? (i := 78) rfl) rfl)⟩ (nm_fc ⟨_, _, _, rfl, Nat.le_of_ble_eq_true rfl, rfl, (fun _ => rfl), nm_pd10, (nm_in5 (List.mem_of_getElem? (i := 79) rfl) rfl)⟩ (nm_fc ⟨_, _, _, rfl, Nat.le_of_ble_eq_true rfl, rfl, (fun _ => rfl), nm_pd10, (nm_in5 (List.mem_of_getElem? (i := 80) rfl) rfl)⟩ (nm_fc ⟨_, _, _, rfl, Nat.le_of_ble_eq_true rfl, rfl, (fun _ => rfl), nm_pd10, (nm_in5 (List.mem_of_getElem? (i := 81) rfl) rfl)⟩ (nm_fc ⟨_, _, _, rfl, Nat.le_of_ble_eq_true rfl, rfl, (fun h => (nomatch h)), nm_pd0, (nm_in5 (List.mem_of_getElem? (i := 82) rfl) rfl)⟩ (nm_fc ⟨_, _, _, rfl, Nat.le_of_ble_eq_true rfl, rfl, (fun _ => rfl), nm_pd10, (nm_in5 (List.mem_of_getElem? (i := 83) rfl) rfl)⟩ (nm_fc ⟨_, _, _, rfl, Nat.le_of_ble_eq_true rfl, rfl, (fun _ => rfl), nm_pd10, (nm_in5 (List.mem_of_getElem? (i := 84) rfl) rfl)⟩ (nm_fc ⟨_, _, _, rfl, Nat.le_of_ble_eq_true rfl, rfl, (fun _ => rfl), nm_pd10, (nm_in5 (List.mem_of_getElem? (i := 85) rfl) rfl)⟩ (nm_fc ⟨_, _, _, rfl, Nat.le_of_ble_eq_true rfl, rfl, (fun _ => rfl), nm_pd10, (nm_in5 (List.mem_of_getElem? (i := 86) rfl) rfl)⟩ (nm_fc ⟨_, _, _, rfl, Nat.le_of_ble_eq_true rfl, rfl, (fun h => (nomatch h)), nm_pd0, (nm_in5 (List.mem_of_getElem? (i := 87) rfl) rfl)⟩ (nm_fc ⟨_, _, _, rfl, Nat.le_of_ble_eq_true rfl, rfl, (fun h => (nomatch h)), nm_pd0, (nm_in5 (List.mem_of_getElem? (i := 88) rfl) rfl)⟩ (nm_fc ⟨_, _, _, rfl, Nat.le_of_ble_eq_true rfl, rfl, (fun h => (nomatch h)), nm_pd0, (nm_in5 (List.mem_of_getElem? (i := 89) rfl) rfl)⟩ (nm_fc ⟨_, _, _, rfl, Nat.le_of_ble_eq_true rfl, rfl, (fun h => (nomatch h)), nm_pd0, (nm_in5 (List.mem_of_getElem? (i := 90) rfl) rfl)⟩ (nm_fc ⟨_, _, _, rfl, Nat.le_of_ble_eq_true rfl, rfl, (fun _ => rfl), nm_pd10, (nm_in5 (List.mem_of_getElem? (i := 91) rfl) rfl)⟩ (nm_fc ⟨_, _, _, rfl, Nat.le_of_ble_eq_true rfl, rfl, (fun _ => rfl), nm_pd10, (nm_in5 (List.mem_of_getElem? (i := 92) rfl) rfl)⟩ (nm_fc ⟨_, _, _, rfl, Nat.le_of_ble_eq_true rfl, rfl, (fun _ => rfl), nm_pd10, (nm_in5 (List.mem_of_getElem? (i := 93) rfl) rfl)⟩ (nm_fc ⟨_, _, _, rfl, Nat.le_of_ble_eq_true rfl, rfl, (fun _ => rfl), nm_pd10, (nm_in5 (List.mem_of_getElem? (i := 94) rfl) rfl)⟩ (nm_fc ⟨_, _, _, rfl, Nat.le_of_ble_eq_true rfl, rfl, (fun _ => rfl), nm_pd10, (nm_in5 (List.mem_of_getElem? (i := 95) rfl) rfl)⟩ (nm_fc ⟨_, _, _, rfl, Nat.le_of_ble_eq_true rfl, rfl, (fun _ => rfl), nm_pd10, (nm_in5 (List.mem_of_getElem? (i := 96) rfl) rfl)⟩ (nm_fc ⟨_, _, _, rfl, Nat.le_of_ble_eq_true rfl, rfl, (fun _ => rfl), nm_pd10, (nm_in5 (List.mem_of_getElem? (i := 97) rfl) rfl)⟩ (fun _ h => nomatch h)))))))))))))))))))))))))
def nm_fl : List ((String × Nat) × (Nat × Nat × FieldType × Bool)) := nm_fl_0 ++ nm_fl_1 ++ nm_fl_2 ++ nm_fl_3
theorem nm_fl_ok : ∀ q ∈ nm_fl, ∃ (C : String) (T : u_T) (N : Nat), nm_cls[q.2.1]? = some (C, T, N) ∧ q.2.2.1 < N ∧ (T q.2.2.1).2.2.2 = q.2.2.2.2 ∧ (q.2.2.2.2 = true → (T q.2.2.1).1 = q.1.1) ∧ parseFieldDescriptor (T q.2.2.1).2.2.1 = some q.2.2.2.1 ∧ Cond.fieldLink q.1.1 q.1.2 (T q.2.2.1).1 (T q.2.2.1).2.1 (T q.2.2.1).2.2.1 ∈ nm_Tg := (nm_fa (nm_fa (nm_fa nm_fl_ok_0 nm_fl_ok_1) nm_fl_ok_2) nm_fl_ok_3)
def nm_nw_0 : List ((String × Nat) × (Nat × List Value)) := [(("CobolParserLaw", 8), (0, [.null, .null, .null])), (("CobolParser", 7), (1, [.null, .null, .int 0, .int 0, .int 0, .null, .null, .int 0])), (("CobolParser", 16), (2, [.null, .int 0, .int 0, .int 0, .int 0])), (("CobolParser", 23), (3, [.null, .null])), (("CobolParser", 28), (4, [.null, .null, .null, .null])), (("CobolParser", 30), (5, [.null, .null, .null, .int 0, .int 0])), (("CobolParser", 38), (6, [.null, .null, .null, .null, .null, .null, .int 0, .int 0, .int 0, .int 0])), (("CobolParser", 40), (7, [.null, .null, .null, .null, .null, .int 0, .int 0])), (("CobolParser$Clauses", 9), (8, [.null, .null, .null, .null, .int 0])), (("CobolParserLaw", 16), (9, [.int 0, .int 0, .null, .null, .int 0, .int 0, .null, .null, .int 0, .null, .null, .null, .null, .null, .null, .null, .null, .null, .null, .int 0, .int 0, .int 0, .null, .null, .null, .null, .int 0, .null, .null, .null, .null, .null, .int 0, .int 0, .int 0, .int 0, .int 0, .int 0, .int 0, .null, .null, .int 0, .int 0, .int 0, .int 0, .int 0, .null, .null, .null, .int 0, .null, .null, .null, .null, .int 0, .int 0, .int 0, .int 0, .null, .null, .null, .null, .null, .null, .null]))]
theorem nm_nw_ok_0 : ∀ q ∈ nm_nw_0, ∃ (C : String) (T : u_T) (N : Nat) (ty : Nat → FieldType), nm_cls[q.2.1]? = some (C, T, N) ∧ Cond.classLink q.1.1 q.1.2 C ∈ nm_Tg ∧ Cond.instantiable C N ∈ nm_Tg ∧ Cond.initialized C ∈ nm_Tg ∧ q.2.2.length = N ∧ (∀ v ∈ q.2.2, am_isR v = false) ∧ (∀ k, k < N → parseFieldDescriptor (T k).2.2.1 = some (ty k)) ∧ ∀ j, j < N → defaultValue (ty j) = vp_V q.2.2 j := (nm_fc ⟨_, _, _, nm_ty0, rfl, (nm_in1 (List.mem_of_getElem? (i := 19) rfl) rfl), (nm_in1 (List.mem_of_getElem? (i := 20) rfl) rfl), (nm_in1 (List.mem_of_getElem? (i := 1) rfl) rfl), rfl, by decide +kernel, nm_to0, by decide +kernel⟩ (nm_fc ⟨_, _, _, nm_ty1, rfl, (nm_in1 (List.mem_of_getElem? (i := 27) rfl) rfl), (nm_in1 (List.mem_of_getElem? (i := 28) rfl) rfl), (nm_in1 (List.mem_of_getElem? (i := 2) rfl) rfl), rfl, by decide +kernel, nm_to1, by decide +kernel⟩ (nm_fc ⟨_, _, _, nm_ty2, rfl, (nm_in1 (List.mem_of_getElem? (i := 59) rfl) rfl), (nm_in1 (List.mem_of_getElem? (i := 60) rfl) rfl), (nm_in1 (List.mem_of_getElem? (i := 3) rfl) rfl), rfl, by decide +kernel, nm_to2, by decide +kernel⟩ (nm_fc ⟨_, _, _, nm_ty3, rfl, (nm_in1 (List.mem_of_getElem? (i := 81) rfl) rfl), (nm_in1 (List.mem_of_getElem? (i := 82) rfl) rfl), (nm_in1 (List.mem_of_getElem? (i := 4) rfl) rfl), rfl, by decide +kernel, nm_to3, by decide +kernel⟩ (nm_fc ⟨_, _, _, nm_ty4, rfl, (nm_in1 (List.mem_of_getElem? (i := 94) rfl) rfl), (nm_in1 (List.mem_of_getElem? (i := 95) rfl) rfl), (nm_in1 (List.mem_of_getElem? (i := 5) rfl) rfl), rfl, by decide +kernel, nm_to4, by decide +kernel⟩ (nm_fc ⟨_, _, _, nm_ty5, rfl, (nm_in1 (List.mem_of_getElem? (i := 96) rfl) rfl), (nm_in1 (List.mem_of_getElem? (i := 97) rfl) rfl), (nm_in1 (List.mem_of_getElem? (i := 6) rfl) rfl), rfl, by decide +kernel, nm_to5, by decide +kernel⟩ (nm_fc ⟨_, _, _, nm_ty6, rfl, (nm_in1 (List.mem_of_getElem? (i := 135) rfl) rfl), (nm_in1 (List.mem_of_getElem? (i := 136) rfl) rfl), (nm_in1 (List.mem_of_getElem? (i := 7) rfl) rfl), rfl, by decide +kernel, nm_to6, by decide +kernel⟩ (nm_fc ⟨_, _, _, nm_ty7, rfl, (nm_in1 (List.mem_of_getElem? (i := 137) rfl) rfl), (nm_in1 (List.mem_of_getElem? (i := 138) rfl) rfl), (nm_in1 (List.mem_of_getElem? (i := 8) rfl) rfl), rfl, by decide +kernel, nm_to7, by decide +kernel⟩ (nm_fc ⟨_, _, _, nm_ty8, rfl, (nm_in1 (List.mem_of_getElem? (i := 169) rfl) rfl), (nm_in1 (List.mem_of_getElem? (i := 170) rfl) rfl), (nm_in1 (List.mem_of_getElem? (i := 9) rfl) rfl), rfl, by decide +kernel, nm_to8, by decide +kernel⟩ (nm_fc ⟨_, _, _, nm_ty9, rfl, (nm_in5 (List.mem_of_getElem? (i := 27) rfl) rfl), (nm_in5 (List.mem_of_getElem? (i := 28) rfl) rfl), (nm_in1 (List.mem_of_getElem? (i := 10) rfl) rfl), rfl, by decide +kernel, nm_to9, by decide +kernel⟩ (fun _ h => nomatch h)))))))))))
def nm_nw : List ((String × Nat) × (Nat × List Value)) := nm_nw_0
theorem nm_nw_ok : ∀ q ∈ nm_nw, ∃ (C : String) (T : u_T) (N : Nat) (ty : Nat → FieldType), nm_cls[q.2.1]? = some (C, T, N) ∧ Cond.classLink q.1.1 q.1.2 C ∈ nm_Tg ∧ Cond.instantiable C N ∈ nm_Tg ∧ Cond.initialized C ∈ nm_Tg ∧ q.2.2.length = N ∧ (∀ v ∈ q.2.2, am_isR v = false) ∧ (∀ k, k < N → parseFieldDescriptor (T k).2.2.1 = some (ty k)) ∧ ∀ j, j < N → defaultValue (ty j) = vp_V q.2.2 j := nm_nw_ok_0
def nm_ld_0 : List ((String × Nat) × Int32) := [(("CobolParser", 138), 99999), (("CobolParser$Leaves", 31), 100000), (("CobolParserModel", 136), 99999), (("CobolParserModel", 187), 100000)]
theorem nm_ld_ok_0 : ∀ q ∈ nm_ld_0, Cond.constant q.1.1 q.1.2 q.2 ∈ nm_Tg := (nm_fc (nm_in1 (List.mem_of_getElem? (i := 239) rfl) rfl) (nm_fc (nm_in3 (List.mem_of_getElem? (i := 119) rfl) rfl) (nm_fc (nm_in5 (List.mem_of_getElem? (i := 237) rfl) rfl) (nm_fc (nm_in6 (List.mem_of_getElem? (i := 74) rfl) rfl) (fun _ h => nomatch h)))))
def nm_ld : List ((String × Nat) × Int32) := nm_ld_0
theorem nm_ld_ok : ∀ q ∈ nm_ld, Cond.constant q.1.1 q.1.2 q.2 ∈ nm_Tg := nm_ld_ok_0
