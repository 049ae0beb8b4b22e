-- the tables of the abstract machine, written by wip/gen/write_tab.py out of the Statement
theorem mem_of_places {α : Type} {l L : List α} {is : List Nat} (h : l.map some = is.map (fun i => L[i]?)) : ∀ w ∈ l, w ∈ L := by
  intro w hw
  have h1 : some w ∈ is.map (fun i => L[i]?) := h ▸ List.mem_map.mpr ⟨w, hw, rfl⟩
  obtain ⟨i, -, hi⟩ := List.mem_map.mp h1
  exact List.mem_of_getElem? hi
def mR0 : String := "FunDesk"
def mT0 : u_T := fun k => match k with
  | 0 => ("FunDesk", "line", "LFunDesk$Line;", true)
  | 1 => ("FunDesk", "draft", "LFunDesk$Tree;", true)
  | 2 => ("FunDesk", "program", "LFunDesk$Tree;", true)
  | 3 => ("FunDesk", "reader", "LFunDesk$Reader;", true)
  | 4 => ("FunDesk", "types", "LFunDesk$Types;", true)
  | 5 => ("FunDesk", "checker", "LFunDesk$Checker;", true)
  | 6 => ("FunDesk", "machine", "LFunDesk$Machine;", true)
  | 7 => ("FunDesk", "typeText", "LFunDesk$Row;", true)
  | 8 => ("FunDesk", "typeLength", "I", false)
  | _ => ("FunDesk", "looked", "LFunDesk$Value;", false)
def mTy0 : Nat → FieldType := fun k => match k with
  | 0 => (.object "FunDesk$Line")
  | 1 => (.object "FunDesk$Tree")
  | 2 => (.object "FunDesk$Tree")
  | 3 => (.object "FunDesk$Reader")
  | 4 => (.object "FunDesk$Types")
  | 5 => (.object "FunDesk$Checker")
  | 6 => (.object "FunDesk$Machine")
  | 7 => (.object "FunDesk$Row")
  | 8 => .int
  | _ => (.object "FunDesk$Value")
def mR1 : String := "FunDesk$Line"
def mT1 : u_T := fun k => match k with
  | 0 => ("FunDesk$Line", "characters", "LFunDesk$Row;", true)
  | _ => ("FunDesk$Line", "length", "I", false)
def mTy1 : Nat → FieldType := fun k => match k with
  | 0 => (.object "FunDesk$Row")
  | _ => .int
def mR2 : String := "FunDesk$Row"
def mT2 : u_T := fun k => match k with
  | _ => ("FunDesk$Row", "cells", "[I", true)
def mTy2 : Nat → FieldType := fun k => match k with
  | _ => (.array .int)
def mR3 : String := "FunDesk$Tree"
def mT3 : u_T := fun k => match k with
  | 0 => ("FunDesk$Tree", "kinds", "LFunDesk$Row;", true)
  | 1 => ("FunDesk$Tree", "numbers", "LFunDesk$Row;", true)
  | 2 => ("FunDesk$Tree", "firsts", "LFunDesk$Row;", true)
  | 3 => ("FunDesk$Tree", "seconds", "LFunDesk$Row;", true)
  | 4 => ("FunDesk$Tree", "thirds", "LFunDesk$Row;", true)
  | 5 => ("FunDesk$Tree", "parents", "LFunDesk$Row;", true)
  | 6 => ("FunDesk$Tree", "typesOf", "LFunDesk$Row;", true)
  | 7 => ("FunDesk$Tree", "count", "I", false)
  | _ => ("FunDesk$Tree", "root", "I", false)
def mTy3 : Nat → FieldType := fun k => match k with
  | 0 => (.object "FunDesk$Row")
  | 1 => (.object "FunDesk$Row")
  | 2 => (.object "FunDesk$Row")
  | 3 => (.object "FunDesk$Row")
  | 4 => (.object "FunDesk$Row")
  | 5 => (.object "FunDesk$Row")
  | 6 => (.object "FunDesk$Row")
  | 7 => .int
  | _ => .int
def mR4 : String := "FunDesk$Reader"
def mT4 : u_T := fun k => match k with
  | 0 => ("FunDesk$Reader", "text", "LFunDesk$Line;", true)
  | 1 => ("FunDesk$Reader", "tree", "LFunDesk$Tree;", true)
  | 2 => ("FunDesk$Reader", "bound", "LFunDesk$Row;", true)
  | 3 => ("FunDesk$Reader", "at", "I", false)
  | 4 => ("FunDesk$Reader", "broken", "Z", false)
  | 5 => ("FunDesk$Reader", "unbound", "Z", false)
  | _ => ("FunDesk$Reader", "patternNames", "I", false)
def mTy4 : Nat → FieldType := fun k => match k with
  | 0 => (.object "FunDesk$Line")
  | 1 => (.object "FunDesk$Tree")
  | 2 => (.object "FunDesk$Row")
  | 3 => .int
  | 4 => .boolean
  | 5 => .boolean
  | _ => .int
def mR5 : String := "FunDesk$Types"
def mT5 : u_T := fun k => match k with
  | 0 => ("FunDesk$Types", "kinds", "LFunDesk$Row;", true)
  | 1 => ("FunDesk$Types", "firsts", "LFunDesk$Row;", true)
  | 2 => ("FunDesk$Types", "seconds", "LFunDesk$Row;", true)
  | 3 => ("FunDesk$Types", "listed", "LFunDesk$Row;", true)
  | 4 => ("FunDesk$Types", "copies", "LFunDesk$Row;", true)
  | 5 => ("FunDesk$Types", "count", "I", false)
  | 6 => ("FunDesk$Types", "listedCount", "I", false)
  | _ => ("FunDesk$Types", "written", "I", false)
def mTy5 : Nat → FieldType := fun k => match k with
  | 0 => (.object "FunDesk$Row")
  | 1 => (.object "FunDesk$Row")
  | 2 => (.object "FunDesk$Row")
  | 3 => (.object "FunDesk$Row")
  | 4 => (.object "FunDesk$Row")
  | 5 => .int
  | 6 => .int
  | _ => .int
def mR6 : String := "FunDesk$Checker"
def mT6 : u_T := fun k => match k with
  | 0 => ("FunDesk$Checker", "tree", "LFunDesk$Tree;", true)
  | 1 => ("FunDesk$Checker", "types", "LFunDesk$Types;", true)
  | 2 => ("FunDesk$Checker", "names", "LFunDesk$Row;", true)
  | 3 => ("FunDesk$Checker", "nameTypes", "LFunDesk$Row;", true)
  | 4 => ("FunDesk$Checker", "open", "I", false)
  | 5 => ("FunDesk$Checker", "level", "I", false)
  | _ => ("FunDesk$Checker", "ill", "Z", false)
def mTy6 : Nat → FieldType := fun k => match k with
  | 0 => (.object "FunDesk$Tree")
  | 1 => (.object "FunDesk$Types")
  | 2 => (.object "FunDesk$Row")
  | 3 => (.object "FunDesk$Row")
  | 4 => .int
  | 5 => .int
  | _ => .boolean
def mR7 : String := "FunDesk$Machine"
def mT7 : u_T := fun k => match k with
  | 0 => ("FunDesk$Machine", "tree", "LFunDesk$Tree;", true)
  | 1 => ("FunDesk$Machine", "waiting", "[LFunDesk$Value;", true)
  | 2 => ("FunDesk$Machine", "waits", "I", false)
  | 3 => ("FunDesk$Machine", "at", "I", false)
  | 4 => ("FunDesk$Machine", "move", "I", false)
  | 5 => ("FunDesk$Machine", "scope", "LFunDesk$Scope;", false)
  | 6 => ("FunDesk$Machine", "frame", "LFunDesk$Frame;", false)
  | 7 => ("FunDesk$Machine", "phase", "I", false)
  | 8 => ("FunDesk$Machine", "failure", "I", false)
  | 9 => ("FunDesk$Machine", "steps", "I", false)
  | 10 => ("FunDesk$Machine", "allSteps", "I", false)
  | _ => ("FunDesk$Machine", "result", "LFunDesk$Value;", false)
def mTy7 : Nat → FieldType := fun k => match k with
  | 0 => (.object "FunDesk$Tree")
  | 1 => (.array (.object "FunDesk$Value"))
  | 2 => .int
  | 3 => .int
  | 4 => .int
  | 5 => (.object "FunDesk$Scope")
  | 6 => (.object "FunDesk$Frame")
  | 7 => .int
  | 8 => .int
  | 9 => .int
  | 10 => .int
  | _ => (.object "FunDesk$Value")
def mR8 : String := "FunDesk$Value"
def mT8 : u_T := fun k => match k with
  | 0 => ("FunDesk$Value", "kind", "I", true)
  | 1 => ("FunDesk$Value", "number", "I", true)
  | 2 => ("FunDesk$Value", "real", "D", false)
  | 3 => ("FunDesk$Value", "first", "LFunDesk$Value;", false)
  | 4 => ("FunDesk$Value", "rest", "LFunDesk$Value;", false)
  | _ => ("FunDesk$Value", "scope", "LFunDesk$Scope;", false)
def mTy8 : Nat → FieldType := fun k => match k with
  | 0 => .int
  | 1 => .int
  | 2 => .double
  | 3 => (.object "FunDesk$Value")
  | 4 => (.object "FunDesk$Value")
  | _ => (.object "FunDesk$Scope")
def mR9 : String := "FunDesk$Frame"
def mT9 : u_T := fun k => match k with
  | 0 => ("FunDesk$Frame", "node", "I", true)
  | 1 => ("FunDesk$Frame", "scope", "LFunDesk$Scope;", true)
  | _ => ("FunDesk$Frame", "caller", "LFunDesk$Frame;", true)
def mTy9 : Nat → FieldType := fun k => match k with
  | 0 => .int
  | 1 => (.object "FunDesk$Scope")
  | _ => (.object "FunDesk$Frame")
def mR10 : String := "FunDesk$Scope"
def mT10 : u_T := fun k => match k with
  | 0 => ("FunDesk$Scope", "name", "I", true)
  | 1 => ("FunDesk$Scope", "bound", "LFunDesk$Value;", true)
  | _ => ("FunDesk$Scope", "outer", "LFunDesk$Scope;", true)
def mTy10 : Nat → FieldType := fun k => match k with
  | 0 => .int
  | 1 => (.object "FunDesk$Value")
  | _ => (.object "FunDesk$Scope")
def mR11 : String := "FunDeskModel"
def mT11 : u_T := fun k => match k with
  | 0 => ("FunDeskModel", "thrown", "I", false)
  | 1 => ("FunDeskModel", "text", "[C", true)
  | 2 => ("FunDeskModel", "length", "I", false)
  | 3 => ("FunDeskModel", "at", "I", false)
  | 4 => ("FunDeskModel", "draft", "[I", true)
  | 5 => ("FunDeskModel", "draftArg", "[I", true)
  | 6 => ("FunDeskModel", "draftName", "[I", true)
  | 7 => ("FunDeskModel", "drafts", "I", false)
  | 8 => ("FunDeskModel", "code", "[I", true)
  | 9 => ("FunDeskModel", "arg", "[I", true)
  | 10 => ("FunDeskModel", "codeEnd", "[I", true)
  | 11 => ("FunDeskModel", "size", "I", false)
  | 12 => ("FunDeskModel", "sign", "[I", true)
  | 13 => ("FunDeskModel", "signArg", "[I", true)
  | 14 => ("FunDeskModel", "signs", "I", false)
  | 15 => ("FunDeskModel", "keptSign", "[I", true)
  | 16 => ("FunDeskModel", "keptArg", "[I", true)
  | 17 => ("FunDeskModel", "goal", "[I", true)
  | 18 => ("FunDeskModel", "stage", "[I", true)
  | 19 => ("FunDeskModel", "x", "[I", true)
  | 20 => ("FunDeskModel", "y", "[I", true)
  | 21 => ("FunDeskModel", "open", "I", false)
  | 22 => ("FunDeskModel", "depth", "I", false)
  | 23 => ("FunDeskModel", "bound", "I", false)
  | 24 => ("FunDeskModel", "bad", "Z", false)
  | 25 => ("FunDeskModel", "otherwise", "[I", true)
  | 26 => ("FunDeskModel", "keptOtherwise", "[I", true)
  | 27 => ("FunDeskModel", "names", "[I", true)
  | 28 => ("FunDeskModel", "nameType", "[I", true)
  | 29 => ("FunDeskModel", "many", "[Z", true)
  | 30 => ("FunDeskModel", "around", "I", false)
  | 31 => ("FunDeskModel", "sort", "[I", true)
  | 32 => ("FunDeskModel", "first", "[I", true)
  | 33 => ("FunDeskModel", "second", "[I", true)
  | 34 => ("FunDeskModel", "copied", "[I", true)
  | 35 => ("FunDeskModel", "types", "I", false)
  | 36 => ("FunDeskModel", "row", "[I", true)
  | 37 => ("FunDeskModel", "typed", "I", false)
  | 38 => ("FunDeskModel", "wanted", "I", false)
  | 39 => ("FunDeskModel", "touched", "I", false)
  | 40 => ("FunDeskModel", "looked", "[I", true)
  | 41 => ("FunDeskModel", "looks", "I", false)
  | 42 => ("FunDeskModel", "parts", "[I", true)
  | 43 => ("FunDeskModel", "kept", "I", false)
  | 44 => ("FunDeskModel", "ill", "Z", false)
  | 45 => ("FunDeskModel", "met", "Z", false)
  | 46 => ("FunDeskModel", "pairs", "[I", true)
  | 47 => ("FunDeskModel", "same", "[I", true)
  | 48 => ("FunDeskModel", "shownText", "[C", true)
  | 49 => ("FunDeskModel", "showing", "I", false)
  | 50 => ("FunDeskModel", "value", "[J", true)
  | 51 => ("FunDeskModel", "top", "I", false)
  | 52 => ("FunDeskModel", "back", "[I", true)
  | 53 => ("FunDeskModel", "backNames", "[I", true)
  | 54 => ("FunDeskModel", "backs", "I", false)
  | 55 => ("FunDeskModel", "worth", "[J", true)
  | 56 => ("FunDeskModel", "outer", "[I", true)
  | 57 => ("FunDeskModel", "bindings", "I", false)
  | 58 => ("FunDeskModel", "inner", "I", false)
  | 59 => ("FunDeskModel", "item", "[J", true)
  | 60 => ("FunDeskModel", "others", "[J", true)
  | 61 => ("FunDeskModel", "lists", "I", false)
  | 62 => ("FunDeskModel", "reals", "[D", true)
  | 63 => ("FunDeskModel", "realsMade", "I", false)
  | 64 => ("FunDeskModel", "pc", "I", false)
  | 65 => ("FunDeskModel", "state", "I", false)
  | 66 => ("FunDeskModel", "failure", "I", false)
  | 67 => ("FunDeskModel", "steps", "I", false)
  | 68 => ("FunDeskModel", "all", "I", false)
  | 69 => ("FunDeskModel", "seen", "J", false)
  | 70 => ("FunDeskModel", "seenType", "I", false)
  | _ => ("FunDeskModel", "fitted", "[J", true)
def mTy11 : Nat → FieldType := fun k => match k with
  | 0 => .int
  | 1 => (.array .char)
  | 2 => .int
  | 3 => .int
  | 4 => (.array .int)
  | 5 => (.array .int)
  | 6 => (.array .int)
  | 7 => .int
  | 8 => (.array .int)
  | 9 => (.array .int)
  | 10 => (.array .int)
  | 11 => .int
  | 12 => (.array .int)
  | 13 => (.array .int)
  | 14 => .int
  | 15 => (.array .int)
  | 16 => (.array .int)
  | 17 => (.array .int)
  | 18 => (.array .int)
  | 19 => (.array .int)
  | 20 => (.array .int)
  | 21 => .int
  | 22 => .int
  | 23 => .int
  | 24 => .boolean
  | 25 => (.array .int)
  | 26 => (.array .int)
  | 27 => (.array .int)
  | 28 => (.array .int)
  | 29 => (.array .boolean)
  | 30 => .int
  | 31 => (.array .int)
  | 32 => (.array .int)
  | 33 => (.array .int)
  | 34 => (.array .int)
  | 35 => .int
  | 36 => (.array .int)
  | 37 => .int
  | 38 => .int
  | 39 => .int
  | 40 => (.array .int)
  | 41 => .int
  | 42 => (.array .int)
  | 43 => .int
  | 44 => .boolean
  | 45 => .boolean
  | 46 => (.array .int)
  | 47 => (.array .int)
  | 48 => (.array .char)
  | 49 => .int
  | 50 => (.array .long)
  | 51 => .int
  | 52 => (.array .int)
  | 53 => (.array .int)
  | 54 => .int
  | 55 => (.array .long)
  | 56 => (.array .int)
  | 57 => .int
  | 58 => .int
  | 59 => (.array .long)
  | 60 => (.array .long)
  | 61 => .int
  | 62 => (.array .double)
  | 63 => .int
  | 64 => .int
  | 65 => .int
  | 66 => .int
  | 67 => .int
  | 68 => .int
  | 69 => .long
  | 70 => .int
  | _ => (.array .long)
def cls : List vw_C := [(mR0, mT0, 10), (mR1, mT1, 2), (mR2, mT2, 1), (mR3, mT3, 9), (mR4, mT4, 7), (mR5, mT5, 8), (mR6, mT6, 7), (mR7, mT7, 12), (mR8, mT8, 6), (mR9, mT9, 3), (mR10, mT10, 3), (mR11, mT11, 72)]
def clsTy (ci : Nat) : Nat → FieldType := match ci with
  | 0 => mTy0
  | 1 => mTy1
  | 2 => mTy2
  | 3 => mTy3
  | 4 => mTy4
  | 5 => mTy5
  | 6 => mTy6
  | 7 => mTy7
  | 8 => mTy8
  | 9 => mTy9
  | 10 => mTy10
  | _ => mTy11
def clsOk (q : vw_C) (ty : Nat → FieldType) : Prop := (∀ a, a < q.2.2 → ∀ b, b < q.2.2 → a ≠ b → (q.2.1 a).2.1 ≠ (q.2.1 b).2.1) ∧ (∀ k, k < q.2.2 → parseFieldDescriptor (q.2.1 k).2.2.1 = some (ty k)) ∧ (∀ w ∈ u_ws q.1 q.2.1 q.2.2, w ∈ lw_tbl) ∧ Cond.instantiable q.1 q.2.2 ∈ lw_tbl ∧ Cond.initialized q.1 ∈ lw_tbl ∧ (∀ k, k < q.2.2 → (q.2.1 k).1 = q.1)
set_option maxRecDepth 100000 in
theorem cls0_ok : clsOk (mR0, mT0, 10) mTy0 := ⟨by decide +kernel, by decide +kernel, mem_of_places (is := [375, 377, 379, 381, 383, 385, 387, 389, 391, 393]) (by decide +kernel), List.mem_of_getElem? (i := 158) (by decide +kernel), List.mem_of_getElem? (i := 135) (by decide +kernel), by decide +kernel⟩
set_option maxRecDepth 100000 in
theorem cls1_ok : clsOk (mR1, mT1, 2) mTy1 := ⟨by decide +kernel, by decide +kernel, mem_of_places (is := [184, 186]) (by decide +kernel), List.mem_of_getElem? (i := 166) (by decide +kernel), List.mem_of_getElem? (i := 136) (by decide +kernel), by decide +kernel⟩
set_option maxRecDepth 100000 in
theorem cls2_ok : clsOk (mR2, mT2, 1) mTy2 := ⟨by decide +kernel, by decide +kernel, mem_of_places (is := [178]) (by decide +kernel), List.mem_of_getElem? (i := 172) (by decide +kernel), List.mem_of_getElem? (i := 137) (by decide +kernel), by decide +kernel⟩
set_option maxRecDepth 100000 in
theorem cls3_ok : clsOk (mR3, mT3, 9) mTy3 := ⟨by decide +kernel, by decide +kernel, mem_of_places (is := [206, 208, 210, 212, 214, 216, 218, 220, 222]) (by decide +kernel), List.mem_of_getElem? (i := 190) (by decide +kernel), List.mem_of_getElem? (i := 138) (by decide +kernel), by decide +kernel⟩
set_option maxRecDepth 100000 in
theorem cls4_ok : clsOk (mR4, mT4, 7) mTy4 := ⟨by decide +kernel, by decide +kernel, mem_of_places (is := [240, 242, 244, 246, 248, 250, 252]) (by decide +kernel), List.mem_of_getElem? (i := 226) (by decide +kernel), List.mem_of_getElem? (i := 139) (by decide +kernel), by decide +kernel⟩
set_option maxRecDepth 100000 in
theorem cls5_ok : clsOk (mR5, mT5, 8) mTy5 := ⟨by decide +kernel, by decide +kernel, mem_of_places (is := [271, 273, 275, 277, 279, 281, 283, 285]) (by decide +kernel), List.mem_of_getElem? (i := 256) (by decide +kernel), List.mem_of_getElem? (i := 140) (by decide +kernel), by decide +kernel⟩
set_option maxRecDepth 100000 in
theorem cls6_ok : clsOk (mR6, mT6, 7) mTy6 := ⟨by decide +kernel, by decide +kernel, mem_of_places (is := [303, 305, 307, 309, 311, 313, 315]) (by decide +kernel), List.mem_of_getElem? (i := 289) (by decide +kernel), List.mem_of_getElem? (i := 141) (by decide +kernel), by decide +kernel⟩
set_option maxRecDepth 100000 in
theorem cls7_ok : clsOk (mR7, mT7, 12) mTy7 := ⟨by decide +kernel, by decide +kernel, mem_of_places (is := [338, 340, 342, 344, 346, 348, 350, 352, 354, 356, 358, 360]) (by decide +kernel), List.mem_of_getElem? (i := 319) (by decide +kernel), List.mem_of_getElem? (i := 142) (by decide +kernel), by decide +kernel⟩
set_option maxRecDepth 100000 in
theorem cls8_ok : clsOk (mR8, mT8, 6) mTy8 := ⟨by decide +kernel, by decide +kernel, mem_of_places (is := [469, 471, 473, 475, 477, 479]) (by decide +kernel), List.mem_of_getElem? (i := 446) (by decide +kernel), List.mem_of_getElem? (i := 152) (by decide +kernel), by decide +kernel⟩
set_option maxRecDepth 100000 in
theorem cls9_ok : clsOk (mR9, mT9, 3) mTy9 := ⟨by decide +kernel, by decide +kernel, mem_of_places (is := [576, 578, 580]) (by decide +kernel), List.mem_of_getElem? (i := 565) (by decide +kernel), List.mem_of_getElem? (i := 153) (by decide +kernel), by decide +kernel⟩
set_option maxRecDepth 100000 in
theorem cls10_ok : clsOk (mR10, mT10, 3) mTy10 := ⟨by decide +kernel, by decide +kernel, mem_of_places (is := [595, 597, 599]) (by decide +kernel), List.mem_of_getElem? (i := 584) (by decide +kernel), List.mem_of_getElem? (i := 154) (by decide +kernel), by decide +kernel⟩
set_option maxRecDepth 100000 in
theorem cls11_ok : clsOk (mR11, mT11, 72) mTy11 := ⟨by decide +kernel, by decide +kernel, mem_of_places (is := [1251, 1253, 1255, 1257, 1259, 1261, 1263, 1265, 1267, 1269, 1271, 1273, 1275, 1277, 1279, 1281, 1283, 1285, 1287, 1289, 1291, 1293, 1295, 1297, 1299, 1301, 1303, 1305, 1307, 1309, 1311, 1313, 1315, 1317, 1319, 1321, 1323, 1325, 1327, 1329, 1331, 1333, 1335, 1337, 1339, 1341, 1343, 1345, 1347, 1349, 1351, 1353, 1355, 1357, 1359, 1361, 1363, 1365, 1367, 1369, 1371, 1373, 1375, 1377, 1379, 1381, 1383, 1385, 1387, 1389, 1391, 1393]) (by decide +kernel), List.mem_of_getElem? (i := 1174) (by decide +kernel), List.mem_of_getElem? (i := 143) (by decide +kernel), by decide +kernel⟩
theorem cls_ok : ∀ (ci : Nat) (q : vw_C), cls[ci]? = some q → clsOk q (clsTy ci) := by
  intro ci q h
  match ci, h with
  | 0, h => cases h; exact cls0_ok
  | 1, h => cases h; exact cls1_ok
  | 2, h => cases h; exact cls2_ok
  | 3, h => cases h; exact cls3_ok
  | 4, h => cases h; exact cls4_ok
  | 5, h => cases h; exact cls5_ok
  | 6, h => cases h; exact cls6_ok
  | 7, h => cases h; exact cls7_ok
  | 8, h => cases h; exact cls8_ok
  | 9, h => cases h; exact cls9_ok
  | 10, h => cases h; exact cls10_ok
  | 11, h => cases h; exact cls11_ok
  | n + 12, h => simp [cls] at h
-- a method: name, bytes, maxLocals, answer, its class (0 .. 11: cls; 12 the law, 13 Integer, 14 Math), parameters, 1 if static
abbrev mMI : Type := MethodName × ByteArray × Nat × Option FieldType × Nat × Nat × Nat
def ownN : List String := ["FunDesk", "FunDesk$Line", "FunDesk$Row", "FunDesk$Tree", "FunDesk$Reader", "FunDesk$Types", "FunDesk$Checker", "FunDesk$Machine", "FunDesk$Value", "FunDesk$Frame", "FunDesk$Scope", "FunDeskModel", "FunDeskLaw", "java/lang/Integer", "java/lang/Math"]
def mI0 : mMI := (⟨"FunDesk", "<init>", "()V"⟩, prog_1_method_1_code, 1, (Option.none : Option Jvm.ClassFile.FieldType), 0, 0, 0)
def mI1 : mMI := (⟨"FunDesk$Line", "<init>", "()V"⟩, prog_4_method_1_code, 1, (Option.none : Option Jvm.ClassFile.FieldType), 1, 0, 0)
def mI2 : mMI := (⟨"FunDesk$Row", "<init>", "(I)V"⟩, prog_7_method_1_code, 2, (Option.none : Option Jvm.ClassFile.FieldType), 2, 1, 0)
def mI3 : mMI := (⟨"FunDesk$Tree", "<init>", "()V"⟩, prog_9_method_1_code, 1, (Option.none : Option Jvm.ClassFile.FieldType), 3, 0, 0)
def mI4 : mMI := (⟨"FunDesk$Reader", "<init>", "(LFunDesk$Line;LFunDesk$Tree;)V"⟩, prog_6_method_1_code, 3, (Option.none : Option Jvm.ClassFile.FieldType), 4, 2, 0)
def mI5 : mMI := (⟨"FunDesk$Types", "<init>", "()V"⟩, prog_10_method_1_code, 1, (Option.none : Option Jvm.ClassFile.FieldType), 5, 0, 0)
def mI6 : mMI := (⟨"FunDesk$Checker", "<init>", "(LFunDesk$Tree;LFunDesk$Types;)V"⟩, prog_2_method_1_code, 3, (Option.none : Option Jvm.ClassFile.FieldType), 6, 2, 0)
def mI7 : mMI := (⟨"FunDesk$Machine", "<init>", "(LFunDesk$Tree;)V"⟩, prog_5_method_1_code, 2, (Option.none : Option Jvm.ClassFile.FieldType), 7, 1, 0)
def mI8 : mMI := (⟨"FunDesk", "type", "(C)Z"⟩, prog_1_method_2_code, 2, (Option.some Jvm.ClassFile.FieldType.boolean), 0, 1, 0)
def mI9 : mMI := (⟨"FunDesk$Line", "append", "(I)Z"⟩, prog_4_method_2_code, 2, (Option.some Jvm.ClassFile.FieldType.boolean), 1, 1, 0)
def mI10 : mMI := (⟨"FunDesk$Row", "set", "(II)V"⟩, prog_7_method_3_code, 3, (Option.none : Option Jvm.ClassFile.FieldType), 2, 2, 0)
def mI11 : mMI := (⟨"FunDesk", "wipe", "()V"⟩, prog_1_method_3_code, 1, (Option.none : Option Jvm.ClassFile.FieldType), 0, 0, 0)
def mI12 : mMI := (⟨"FunDesk$Line", "clear", "()V"⟩, prog_4_method_3_code, 1, (Option.none : Option Jvm.ClassFile.FieldType), 1, 0, 0)
def mI13 : mMI := (⟨"FunDesk", "shown", "(I)I"⟩, prog_1_method_5_code, 2, (Option.some Jvm.ClassFile.FieldType.int), 0, 1, 0)
def mI14 : mMI := (⟨"FunDesk$Row", "get", "(I)I"⟩, prog_7_method_2_code, 2, (Option.some Jvm.ClassFile.FieldType.int), 2, 1, 0)
def mI15 : mMI := (⟨"FunDesk", "run", "(I)I"⟩, prog_1_method_6_code, 3, (Option.some Jvm.ClassFile.FieldType.int), 0, 1, 0)
def mI16 : mMI := (⟨"FunDesk$Machine", "phase", "()I"⟩, prog_5_method_3_code, 1, (Option.some Jvm.ClassFile.FieldType.int), 7, 0, 0)
def mI17 : mMI := (⟨"FunDesk$Machine", "go", "(I)I"⟩, prog_5_method_8_code, 4, (Option.some Jvm.ClassFile.FieldType.int), 7, 1, 0)
def mI18 : mMI := (⟨"FunDesk$Machine", "enter", "()V"⟩, prog_5_method_13_code, 1, (Option.none : Option Jvm.ClassFile.FieldType), 7, 0, 0)
def mI19 : mMI := (⟨"FunDesk$Tree", "kind", "(I)I"⟩, prog_9_method_11_code, 2, (Option.some Jvm.ClassFile.FieldType.int), 3, 1, 0)
def mI20 : mMI := (⟨"FunDesk$Tree", "number", "(I)I"⟩, prog_9_method_12_code, 2, (Option.some Jvm.ClassFile.FieldType.int), 3, 1, 0)
def mI21 : mMI := (⟨"FunDesk$Value", "<init>", "(II)V"⟩, prog_11_method_1_code, 3, (Option.none : Option Jvm.ClassFile.FieldType), 8, 2, 0)
def mI22 : mMI := (⟨"FunDesk$Machine", "settle", "(LFunDesk$Value;)V"⟩, prog_5_method_11_code, 2, (Option.none : Option Jvm.ClassFile.FieldType), 7, 1, 0)
def mI23 : mMI := (⟨"FunDesk$Machine", "fail", "(I)V"⟩, prog_5_method_9_code, 2, (Option.none : Option Jvm.ClassFile.FieldType), 7, 1, 0)
def mI24 : mMI := (⟨"FunDesk$Value", "ofReal", "(D)LFunDesk$Value;"⟩, prog_11_method_2_code, 3, (Option.some (Jvm.ClassFile.FieldType.object "FunDesk$Value")), 8, 1, 1)
def mI25 : mMI := (⟨"FunDesk$Machine", "find", "(I)LFunDesk$Value;"⟩, prog_5_method_14_code, 3, (Option.some (Jvm.ClassFile.FieldType.object "FunDesk$Value")), 7, 1, 0)
def mI26 : mMI := (⟨"FunDesk$Value", "ofFunction", "(ILFunDesk$Scope;)LFunDesk$Value;"⟩, prog_11_method_4_code, 3, (Option.some (Jvm.ClassFile.FieldType.object "FunDesk$Value")), 8, 2, 1)
def mI27 : mMI := (⟨"FunDesk$Tree", "first", "(I)I"⟩, prog_9_method_13_code, 2, (Option.some Jvm.ClassFile.FieldType.int), 3, 1, 0)
def mI28 : mMI := (⟨"FunDesk$Machine", "goInto", "(I)V"⟩, prog_5_method_10_code, 2, (Option.none : Option Jvm.ClassFile.FieldType), 7, 1, 0)
def mI29 : mMI := (⟨"FunDesk$Machine", "leave", "()V"⟩, prog_5_method_15_code, 2, (Option.none : Option Jvm.ClassFile.FieldType), 7, 0, 0)
def mI30 : mMI := (⟨"FunDesk$Tree", "parent", "(I)I"⟩, prog_9_method_16_code, 2, (Option.some Jvm.ClassFile.FieldType.int), 3, 1, 0)
def mI31 : mMI := (⟨"FunDesk$Tree", "second", "(I)I"⟩, prog_9_method_14_code, 2, (Option.some Jvm.ClassFile.FieldType.int), 3, 1, 0)
def mI32 : mMI := (⟨"FunDesk$Machine", "unbind", "(I)V"⟩, prog_5_method_16_code, 3, (Option.none : Option Jvm.ClassFile.FieldType), 7, 1, 0)
def mI33 : mMI := (⟨"FunDesk$Machine", "giveBack", "()V"⟩, prog_5_method_17_code, 2, (Option.none : Option Jvm.ClassFile.FieldType), 7, 0, 0)
def mI34 : mMI := (⟨"FunDesk$Machine", "finish", "()V"⟩, prog_5_method_18_code, 1, (Option.none : Option Jvm.ClassFile.FieldType), 7, 0, 0)
def mI35 : mMI := (⟨"FunDesk$Machine", "take", "()LFunDesk$Value;"⟩, prog_5_method_12_code, 2, (Option.some (Jvm.ClassFile.FieldType.object "FunDesk$Value")), 7, 0, 0)
def mI36 : mMI := (⟨"FunDesk$Machine", "step", "()V"⟩, prog_5_method_19_code, 2, (Option.none : Option Jvm.ClassFile.FieldType), 7, 0, 0)
def mI37 : mMI := (⟨"FunDesk$Machine", "operate", "()V"⟩, prog_5_method_21_code, 4, (Option.none : Option Jvm.ClassFile.FieldType), 7, 0, 0)
def mI38 : mMI := (⟨"FunDesk$Machine", "operateOnReals", "(IDD)V"⟩, prog_5_method_23_code, 8, (Option.none : Option Jvm.ClassFile.FieldType), 7, 3, 0)
def mI39 : mMI := (⟨"FunDesk$Machine", "operateOnNumbers", "(III)V"⟩, prog_5_method_22_code, 4, (Option.none : Option Jvm.ClassFile.FieldType), 7, 3, 0)
def mI40 : mMI := (⟨"FunDesk$Value", "ofList", "(LFunDesk$Value;LFunDesk$Value;)LFunDesk$Value;"⟩, prog_11_method_3_code, 3, (Option.some (Jvm.ClassFile.FieldType.object "FunDesk$Value")), 8, 2, 1)
def mI41 : mMI := (⟨"FunDesk$Machine", "apply", "()V"⟩, prog_5_method_24_code, 4, (Option.none : Option Jvm.ClassFile.FieldType), 7, 0, 0)
def mI42 : mMI := (⟨"FunDesk$Frame", "<init>", "(ILFunDesk$Scope;LFunDesk$Frame;)V"⟩, prog_3_method_1_code, 4, (Option.none : Option Jvm.ClassFile.FieldType), 9, 3, 0)
def mI43 : mMI := (⟨"FunDesk$Scope", "<init>", "(ILFunDesk$Value;LFunDesk$Scope;)V"⟩, prog_8_method_1_code, 4, (Option.none : Option Jvm.ClassFile.FieldType), 10, 3, 0)
def mI44 : mMI := (⟨"FunDesk$Machine", "bindOwn", "()V"⟩, prog_5_method_20_code, 2, (Option.none : Option Jvm.ClassFile.FieldType), 7, 0, 0)
def mI45 : mMI := (⟨"FunDesk$Tree", "third", "(I)I"⟩, prog_9_method_15_code, 2, (Option.some Jvm.ClassFile.FieldType.int), 3, 1, 0)
def mI46 : mMI := (⟨"FunDesk$Machine", "choose", "()V"⟩, prog_5_method_25_code, 5, (Option.none : Option Jvm.ClassFile.FieldType), 7, 0, 0)
def mI47 : mMI := (⟨"FunDesk$Machine", "fits", "(ILFunDesk$Value;I)Z"⟩, prog_5_method_26_code, 4, (Option.some Jvm.ClassFile.FieldType.boolean), 7, 3, 0)
def mI48 : mMI := (⟨"FunDesk$Machine", "bind", "(ILFunDesk$Value;LFunDesk$Scope;I)LFunDesk$Scope;"⟩, prog_5_method_27_code, 6, (Option.some (Jvm.ClassFile.FieldType.object "FunDesk$Scope")), 7, 4, 0)
def mI49 : mMI := (⟨"FunDesk$Machine", "result", "()LFunDesk$Value;"⟩, prog_5_method_7_code, 1, (Option.some (Jvm.ClassFile.FieldType.object "FunDesk$Value")), 7, 0, 0)
def mI50 : mMI := (⟨"FunDesk", "state", "(I)I"⟩, prog_1_method_7_code, 2, (Option.some Jvm.ClassFile.FieldType.int), 0, 1, 0)
def mI51 : mMI := (⟨"FunDesk$Machine", "failure", "()I"⟩, prog_5_method_4_code, 1, (Option.some Jvm.ClassFile.FieldType.int), 7, 0, 0)
def mI52 : mMI := (⟨"FunDesk$Machine", "steps", "()I"⟩, prog_5_method_5_code, 1, (Option.some Jvm.ClassFile.FieldType.int), 7, 0, 0)
def mI53 : mMI := (⟨"FunDesk$Machine", "allSteps", "()I"⟩, prog_5_method_6_code, 1, (Option.some Jvm.ClassFile.FieldType.int), 7, 0, 0)
def mI54 : mMI := (⟨"FunDesk", "load", "()I"⟩, prog_1_method_4_code, 1, (Option.some Jvm.ClassFile.FieldType.int), 0, 0, 0)
def mI55 : mMI := (⟨"FunDesk$Reader", "reads", "()Z"⟩, prog_6_method_2_code, 1, (Option.some Jvm.ClassFile.FieldType.boolean), 4, 0, 0)
def mI56 : mMI := (⟨"FunDesk$Row", "fill", "(I)V"⟩, prog_7_method_4_code, 3, (Option.none : Option Jvm.ClassFile.FieldType), 2, 1, 0)
def mI57 : mMI := (⟨"FunDesk$Tree", "clear", "()V"⟩, prog_9_method_2_code, 1, (Option.none : Option Jvm.ClassFile.FieldType), 3, 0, 0)
def mI58 : mMI := (⟨"FunDesk$Reader", "expression", "(I)I"⟩, prog_6_method_11_code, 2, (Option.some Jvm.ClassFile.FieldType.int), 4, 1, 0)
def mI59 : mMI := (⟨"FunDesk$Reader", "breakOff", "()I"⟩, prog_6_method_7_code, 1, (Option.some Jvm.ClassFile.FieldType.int), 4, 0, 0)
def mI60 : mMI := (⟨"FunDesk$Reader", "next", "()I"⟩, prog_6_method_4_code, 2, (Option.some Jvm.ClassFile.FieldType.int), 4, 0, 0)
def mI61 : mMI := (⟨"FunDesk$Line", "charAt", "(I)I"⟩, prog_4_method_4_code, 2, (Option.some Jvm.ClassFile.FieldType.int), 1, 1, 0)
def mI62 : mMI := (⟨"FunDesk$Reader", "function", "(I)I"⟩, prog_6_method_12_code, 4, (Option.some Jvm.ClassFile.FieldType.int), 4, 1, 0)
def mI63 : mMI := (⟨"FunDesk$Reader", "expect", "(I)V"⟩, prog_6_method_6_code, 2, (Option.none : Option Jvm.ClassFile.FieldType), 4, 1, 0)
def mI64 : mMI := (⟨"FunDesk$Reader", "takes", "(I)Z"⟩, prog_6_method_5_code, 2, (Option.some Jvm.ClassFile.FieldType.boolean), 4, 1, 0)
def mI65 : mMI := (⟨"FunDesk$Reader", "name", "()I"⟩, prog_6_method_8_code, 2, (Option.some Jvm.ClassFile.FieldType.int), 4, 0, 0)
def mI66 : mMI := (⟨"FunDesk$Reader", "bind", "(II)V"⟩, prog_6_method_9_code, 3, (Option.none : Option Jvm.ClassFile.FieldType), 4, 2, 0)
def mI67 : mMI := (⟨"FunDesk$Tree", "add", "(IIIII)I"⟩, prog_9_method_3_code, 7, (Option.some Jvm.ClassFile.FieldType.int), 3, 5, 0)
def mI68 : mMI := (⟨"FunDesk$Reader", "let", "(I)I"⟩, prog_6_method_13_code, 5, (Option.some Jvm.ClassFile.FieldType.int), 4, 1, 0)
def mI69 : mMI := (⟨"FunDesk$Reader", "recursion", "(I)I"⟩, prog_6_method_14_code, 5, (Option.some Jvm.ClassFile.FieldType.int), 4, 1, 0)
def mI70 : mMI := (⟨"FunDesk$Reader", "condition", "(I)I"⟩, prog_6_method_15_code, 5, (Option.some Jvm.ClassFile.FieldType.int), 4, 1, 0)
def mI71 : mMI := (⟨"FunDesk$Reader", "choice", "(I)I"⟩, prog_6_method_16_code, 6, (Option.some Jvm.ClassFile.FieldType.int), 4, 1, 0)
def mI72 : mMI := (⟨"FunDesk$Reader", "branch", "(I)I"⟩, prog_6_method_17_code, 5, (Option.some Jvm.ClassFile.FieldType.int), 4, 1, 0)
def mI73 : mMI := (⟨"FunDesk$Reader", "pattern", "(I)I"⟩, prog_6_method_18_code, 3, (Option.some Jvm.ClassFile.FieldType.int), 4, 1, 0)
def mI74 : mMI := (⟨"FunDesk$Reader", "part", "(I)I"⟩, prog_6_method_19_code, 4, (Option.some Jvm.ClassFile.FieldType.int), 4, 1, 0)
def mI75 : mMI := (⟨"FunDesk$Reader", "binder", "()I"⟩, prog_6_method_20_code, 3, (Option.some Jvm.ClassFile.FieldType.int), 4, 0, 0)
def mI76 : mMI := (⟨"FunDesk$Tree", "addLeaf", "(II)I"⟩, prog_9_method_4_code, 3, (Option.some Jvm.ClassFile.FieldType.int), 3, 2, 0)
def mI77 : mMI := (⟨"FunDesk$Reader", "isDigit", "(I)Z"⟩, prog_6_method_29_code, 1, (Option.some Jvm.ClassFile.FieldType.boolean), 4, 1, 1)
def mI78 : mMI := (⟨"FunDesk$Reader", "digits", "(I)I"⟩, prog_6_method_34_code, 4, (Option.some Jvm.ClassFile.FieldType.int), 4, 1, 0)
def mI79 : mMI := (⟨"FunDesk$Reader", "constant", "()I"⟩, prog_6_method_21_code, 1, (Option.some Jvm.ClassFile.FieldType.int), 4, 0, 0)
def mI80 : mMI := (⟨"FunDesk$Reader", "bindAll", "(II)V"⟩, prog_6_method_10_code, 4, (Option.none : Option Jvm.ClassFile.FieldType), 4, 2, 0)
def mI81 : mMI := (⟨"java/lang/Integer", "bitCount", "(I)I"⟩, prog_18_method_49_code, 1, (Option.some Jvm.ClassFile.FieldType.int), 13, 1, 1)
def mI82 : mMI := (⟨"FunDesk$Tree", "addBranch", "(III)V"⟩, prog_9_method_6_code, 4, (Option.none : Option Jvm.ClassFile.FieldType), 3, 3, 0)
def mI83 : mMI := (⟨"FunDesk$Reader", "list", "(I)I"⟩, prog_6_method_22_code, 7, (Option.some Jvm.ClassFile.FieldType.int), 4, 1, 0)
def mI84 : mMI := (⟨"FunDesk$Reader", "comparison", "(I)I"⟩, prog_6_method_23_code, 4, (Option.some Jvm.ClassFile.FieldType.int), 4, 1, 0)
def mI85 : mMI := (⟨"FunDesk$Reader", "sum", "(I)I"⟩, prog_6_method_24_code, 5, (Option.some Jvm.ClassFile.FieldType.int), 4, 1, 0)
def mI86 : mMI := (⟨"FunDesk$Reader", "product", "(I)I"⟩, prog_6_method_25_code, 5, (Option.some Jvm.ClassFile.FieldType.int), 4, 1, 0)
def mI87 : mMI := (⟨"FunDesk$Reader", "application", "(I)I"⟩, prog_6_method_27_code, 4, (Option.some Jvm.ClassFile.FieldType.int), 4, 1, 0)
def mI88 : mMI := (⟨"FunDesk$Reader", "atom", "(I)I"⟩, prog_6_method_30_code, 5, (Option.some Jvm.ClassFile.FieldType.int), 4, 1, 0)
def mI89 : mMI := (⟨"FunDesk$Reader", "plainAtom", "(I)I"⟩, prog_6_method_31_code, 4, (Option.some Jvm.ClassFile.FieldType.int), 4, 1, 0)
def mI90 : mMI := (⟨"FunDesk$Reader", "usedName", "()I"⟩, prog_6_method_32_code, 2, (Option.some Jvm.ClassFile.FieldType.int), 4, 0, 0)
def mI91 : mMI := (⟨"FunDesk$Reader", "numeral", "()I"⟩, prog_6_method_33_code, 5, (Option.some Jvm.ClassFile.FieldType.int), 4, 0, 0)
def mI92 : mMI := (⟨"FunDesk$Reader", "startsAtom", "(I)Z"⟩, prog_6_method_28_code, 1, (Option.some Jvm.ClassFile.FieldType.boolean), 4, 1, 1)
def mI93 : mMI := (⟨"FunDesk$Reader", "operator", "(II)I"⟩, prog_6_method_26_code, 4, (Option.some Jvm.ClassFile.FieldType.int), 4, 2, 0)
def mI94 : mMI := (⟨"FunDesk$Tree", "setSecond", "(II)V"⟩, prog_9_method_5_code, 3, (Option.none : Option Jvm.ClassFile.FieldType), 3, 2, 0)
def mI95 : mMI := (⟨"FunDesk$Tree", "setRoot", "(I)V"⟩, prog_9_method_7_code, 2, (Option.none : Option Jvm.ClassFile.FieldType), 3, 1, 0)
def mI96 : mMI := (⟨"FunDesk$Reader", "allBound", "()Z"⟩, prog_6_method_3_code, 1, (Option.some Jvm.ClassFile.FieldType.boolean), 4, 0, 0)
def mI97 : mMI := (⟨"FunDesk$Checker", "accepts", "()Z"⟩, prog_2_method_2_code, 2, (Option.some Jvm.ClassFile.FieldType.boolean), 6, 0, 0)
def mI98 : mMI := (⟨"FunDesk$Types", "clear", "()V"⟩, prog_10_method_2_code, 1, (Option.none : Option Jvm.ClassFile.FieldType), 5, 0, 0)
def mI99 : mMI := (⟨"FunDesk$Types", "make", "(III)I"⟩, prog_10_method_3_code, 5, (Option.some Jvm.ClassFile.FieldType.int), 5, 3, 0)
def mI100 : mMI := (⟨"FunDesk$Tree", "root", "()I"⟩, prog_9_method_9_code, 1, (Option.some Jvm.ClassFile.FieldType.int), 3, 0, 0)
def mI101 : mMI := (⟨"FunDesk$Checker", "infer", "(II)I"⟩, prog_2_method_6_code, 4, (Option.some Jvm.ClassFile.FieldType.int), 6, 2, 0)
def mI102 : mMI := (⟨"FunDesk$Checker", "leaf", "(I)I"⟩, prog_2_method_7_code, 3, (Option.some Jvm.ClassFile.FieldType.int), 6, 1, 0)
def mI103 : mMI := (⟨"FunDesk$Types", "fresh", "(I)I"⟩, prog_10_method_4_code, 2, (Option.some Jvm.ClassFile.FieldType.int), 5, 1, 0)
def mI104 : mMI := (⟨"FunDesk$Types", "list", "(I)I"⟩, prog_10_method_5_code, 2, (Option.some Jvm.ClassFile.FieldType.int), 5, 1, 0)
def mI105 : mMI := (⟨"FunDesk$Types", "arrow", "(II)I"⟩, prog_10_method_6_code, 3, (Option.some Jvm.ClassFile.FieldType.int), 5, 2, 0)
def mI106 : mMI := (⟨"FunDesk$Checker", "typeOfName", "(I)I"⟩, prog_2_method_5_code, 3, (Option.some Jvm.ClassFile.FieldType.int), 6, 1, 0)
def mI107 : mMI := (⟨"FunDesk$Types", "instance", "(II)I"⟩, prog_10_method_14_code, 3, (Option.some Jvm.ClassFile.FieldType.int), 5, 2, 0)
def mI108 : mMI := (⟨"FunDesk$Types", "tooLong", "(I)Z"⟩, prog_10_method_8_code, 2, (Option.some Jvm.ClassFile.FieldType.boolean), 5, 1, 0)
def mI109 : mMI := (⟨"FunDesk$Types", "length", "(II)I"⟩, prog_10_method_9_code, 5, (Option.some Jvm.ClassFile.FieldType.int), 5, 2, 0)
def mI110 : mMI := (⟨"FunDesk$Types", "resolve", "(I)I"⟩, prog_10_method_7_code, 4, (Option.some Jvm.ClassFile.FieldType.int), 5, 1, 0)
def mI111 : mMI := (⟨"FunDesk$Types", "copy", "(III)I"⟩, prog_10_method_15_code, 10, (Option.some Jvm.ClassFile.FieldType.int), 5, 3, 0)
def mI112 : mMI := (⟨"FunDesk$Types", "copyOf", "(II)I"⟩, prog_10_method_16_code, 4, (Option.some Jvm.ClassFile.FieldType.int), 5, 2, 0)
def mI113 : mMI := (⟨"FunDesk$Types", "placeOf", "(I)I"⟩, prog_10_method_17_code, 3, (Option.some Jvm.ClassFile.FieldType.int), 5, 1, 0)
def mI114 : mMI := (⟨"FunDesk$Checker", "enter", "(II)V"⟩, prog_2_method_4_code, 3, (Option.none : Option Jvm.ClassFile.FieldType), 6, 2, 0)
def mI115 : mMI := (⟨"FunDesk$Checker", "inferWhole", "(II)I"⟩, prog_2_method_8_code, 10, (Option.some Jvm.ClassFile.FieldType.int), 6, 2, 0)
def mI116 : mMI := (⟨"FunDesk$Checker", "demand", "(II)V"⟩, prog_2_method_3_code, 3, (Option.none : Option Jvm.ClassFile.FieldType), 6, 2, 0)
def mI117 : mMI := (⟨"FunDesk$Types", "unify", "(III)Z"⟩, prog_10_method_10_code, 6, (Option.some Jvm.ClassFile.FieldType.boolean), 5, 3, 0)
def mI118 : mMI := (⟨"FunDesk$Types", "link", "(II)Z"⟩, prog_10_method_11_code, 3, (Option.some Jvm.ClassFile.FieldType.boolean), 5, 2, 0)
def mI119 : mMI := (⟨"FunDesk$Types", "takesIn", "(III)Z"⟩, prog_10_method_12_code, 5, (Option.some Jvm.ClassFile.FieldType.boolean), 5, 3, 0)
def mI120 : mMI := (⟨"FunDesk$Checker", "operandOf", "(I)I"⟩, prog_2_method_10_code, 1, (Option.some Jvm.ClassFile.FieldType.int), 6, 1, 1)
def mI121 : mMI := (⟨"FunDesk$Checker", "compares", "(I)Z"⟩, prog_2_method_9_code, 1, (Option.some Jvm.ClassFile.FieldType.boolean), 6, 1, 1)
def mI122 : mMI := (⟨"FunDesk$Checker", "inferLet", "(II)I"⟩, prog_2_method_11_code, 4, (Option.some Jvm.ClassFile.FieldType.int), 6, 2, 0)
def mI123 : mMI := (⟨"FunDesk$Checker", "inferBound", "(III)I"⟩, prog_2_method_13_code, 5, (Option.some Jvm.ClassFile.FieldType.int), 6, 3, 0)
def mI124 : mMI := (⟨"FunDesk$Types", "generalise", "(III)V"⟩, prog_10_method_13_code, 5, (Option.none : Option Jvm.ClassFile.FieldType), 5, 3, 0)
def mI125 : mMI := (⟨"FunDesk$Checker", "inferRecursion", "(II)I"⟩, prog_2_method_12_code, 5, (Option.some Jvm.ClassFile.FieldType.int), 6, 2, 0)
def mI126 : mMI := (⟨"FunDesk$Checker", "inferCondition", "(II)I"⟩, prog_2_method_14_code, 4, (Option.some Jvm.ClassFile.FieldType.int), 6, 2, 0)
def mI127 : mMI := (⟨"FunDesk$Checker", "inferChoice", "(II)I"⟩, prog_2_method_15_code, 8, (Option.some Jvm.ClassFile.FieldType.int), 6, 2, 0)
def mI128 : mMI := (⟨"FunDesk$Tree", "setType", "(II)V"⟩, prog_9_method_8_code, 3, (Option.none : Option Jvm.ClassFile.FieldType), 3, 2, 0)
def mI129 : mMI := (⟨"FunDesk$Tree", "size", "()I"⟩, prog_9_method_10_code, 1, (Option.some Jvm.ClassFile.FieldType.int), 3, 0, 0)
def mI130 : mMI := (⟨"FunDesk$Tree", "typeOf", "(I)I"⟩, prog_9_method_17_code, 2, (Option.some Jvm.ClassFile.FieldType.int), 3, 1, 0)
def mI131 : mMI := (⟨"FunDesk$Types", "write", "(ILFunDesk$Row;)I"⟩, prog_10_method_18_code, 3, (Option.some Jvm.ClassFile.FieldType.int), 5, 2, 0)
def mI132 : mMI := (⟨"FunDesk$Types", "writePart", "(ILFunDesk$Row;I)V"⟩, prog_10_method_19_code, 5, (Option.none : Option Jvm.ClassFile.FieldType), 5, 3, 0)
def mI133 : mMI := (⟨"FunDesk$Types", "put", "(ILFunDesk$Row;)V"⟩, prog_10_method_20_code, 3, (Option.none : Option Jvm.ClassFile.FieldType), 5, 2, 0)
def mI134 : mMI := (⟨"FunDesk$Tree", "copy", "(LFunDesk$Tree;)V"⟩, prog_9_method_18_code, 2, (Option.none : Option Jvm.ClassFile.FieldType), 3, 1, 0)
def mI135 : mMI := (⟨"FunDesk$Row", "copy", "(LFunDesk$Row;)V"⟩, prog_7_method_5_code, 3, (Option.none : Option Jvm.ClassFile.FieldType), 2, 1, 0)
def mI136 : mMI := (⟨"FunDesk$Machine", "begin", "()V"⟩, prog_5_method_2_code, 1, (Option.none : Option Jvm.ClassFile.FieldType), 7, 0, 0)
def mI137 : mMI := (⟨"FunDesk", "value", "(I)I"⟩, prog_1_method_8_code, 3, (Option.some Jvm.ClassFile.FieldType.int), 0, 1, 0)
def mI138 : mMI := (⟨"FunDesk", "real", "()D"⟩, prog_1_method_9_code, 2, (Option.some Jvm.ClassFile.FieldType.double), 0, 0, 0)
def mI139 : mMI := (⟨"FunDesk", "item", "(I)V"⟩, prog_1_method_10_code, 4, (Option.none : Option Jvm.ClassFile.FieldType), 0, 1, 0)
def mI140 : mMI := (⟨"FunDesk$Value", "itemAt", "(I)LFunDesk$Value;"⟩, prog_11_method_5_code, 4, (Option.some (Jvm.ClassFile.FieldType.object "FunDesk$Value")), 8, 1, 0)
def mI141 : mMI := (⟨"FunDesk", "top", "()V"⟩, prog_1_method_11_code, 1, (Option.none : Option Jvm.ClassFile.FieldType), 0, 0, 0)
def mI142 : mMI := (⟨"FunDeskModel", "<init>", "()V"⟩, prog_13_method_1_code, 1, (Option.none : Option Jvm.ClassFile.FieldType), 11, 0, 0)
def mI143 : mMI := (⟨"FunDeskModel", "thrown", "()I"⟩, prog_13_method_2_code, 1, (Option.some Jvm.ClassFile.FieldType.int), 11, 0, 0)
def mI144 : mMI := (⟨"FunDeskModel", "type", "(C)Z"⟩, prog_13_method_3_code, 2, (Option.some Jvm.ClassFile.FieldType.boolean), 11, 1, 0)
def mI145 : mMI := (⟨"FunDeskModel", "wipe", "()V"⟩, prog_13_method_4_code, 1, (Option.none : Option Jvm.ClassFile.FieldType), 11, 0, 0)
def mI146 : mMI := (⟨"FunDeskModel", "load", "()I"⟩, prog_13_method_73_code, 1, (Option.some Jvm.ClassFile.FieldType.int), 11, 0, 0)
def mI147 : mMI := (⟨"FunDeskModel", "reads", "()Z"⟩, prog_13_method_30_code, 3, (Option.some Jvm.ClassFile.FieldType.boolean), 11, 0, 0)
def mI148 : mMI := (⟨"FunDeskModel", "begin", "(I)V"⟩, prog_13_method_18_code, 2, (Option.none : Option Jvm.ClassFile.FieldType), 11, 1, 0)
def mI149 : mMI := (⟨"FunDeskModel", "exprBegins", "(I)V"⟩, prog_13_method_22_code, 5, (Option.none : Option Jvm.ClassFile.FieldType), 11, 1, 0)
def mI150 : mMI := (⟨"FunDeskModel", "deeper", "()V"⟩, prog_13_method_20_code, 1, (Option.none : Option Jvm.ClassFile.FieldType), 11, 0, 0)
def mI151 : mMI := (⟨"FunDeskModel", "peek", "()C"⟩, prog_13_method_6_code, 1, (Option.some Jvm.ClassFile.FieldType.char), 11, 0, 0)
def mI152 : mMI := (⟨"FunDeskModel", "here", "()C"⟩, prog_13_method_5_code, 1, (Option.some Jvm.ClassFile.FieldType.char), 11, 0, 0)
def mI153 : mMI := (⟨"FunDeskModel", "after", "(II)V"⟩, prog_13_method_19_code, 3, (Option.none : Option Jvm.ClassFile.FieldType), 11, 2, 0)
def mI154 : mMI := (⟨"FunDeskModel", "name", "()I"⟩, prog_13_method_12_code, 2, (Option.some Jvm.ClassFile.FieldType.int), 11, 0, 0)
def mI155 : mMI := (⟨"FunDeskModel", "letter", "(C)Z"⟩, prog_13_method_10_code, 1, (Option.some Jvm.ClassFile.FieldType.boolean), 11, 1, 1)
def mI156 : mMI := (⟨"FunDeskModel", "want", "(C)V"⟩, prog_13_method_8_code, 2, (Option.none : Option Jvm.ClassFile.FieldType), 11, 1, 0)
def mI157 : mMI := (⟨"FunDeskModel", "eat", "(C)Z"⟩, prog_13_method_7_code, 3, (Option.some Jvm.ClassFile.FieldType.boolean), 11, 1, 0)
def mI158 : mMI := (⟨"FunDeskModel", "put", "(III)V"⟩, prog_13_method_15_code, 4, (Option.none : Option Jvm.ClassFile.FieldType), 11, 3, 0)
def mI159 : mMI := (⟨"FunDeskModel", "exprGoesOn", "(I)V"⟩, prog_13_method_25_code, 4, (Option.none : Option Jvm.ClassFile.FieldType), 11, 1, 0)
def mI160 : mMI := (⟨"FunDeskModel", "clauseEnds", "(I)V"⟩, prog_13_method_24_code, 6, (Option.none : Option Jvm.ClassFile.FieldType), 11, 1, 0)
def mI161 : mMI := (⟨"FunDeskModel", "clauseBegins", "(I)V"⟩, prog_13_method_23_code, 2, (Option.none : Option Jvm.ClassFile.FieldType), 11, 1, 0)
def mI162 : mMI := (⟨"FunDeskModel", "endsDeep", "()V"⟩, prog_13_method_21_code, 1, (Option.none : Option Jvm.ClassFile.FieldType), 11, 0, 0)
def mI163 : mMI := (⟨"FunDeskModel", "operands", "(I)V"⟩, prog_13_method_29_code, 4, (Option.none : Option Jvm.ClassFile.FieldType), 11, 1, 0)
def mI164 : mMI := (⟨"FunDeskModel", "atomBegins", "(C)Z"⟩, prog_13_method_11_code, 1, (Option.some Jvm.ClassFile.FieldType.boolean), 11, 1, 1)
def mI165 : mMI := (⟨"FunDeskModel", "digit", "(C)Z"⟩, prog_13_method_9_code, 1, (Option.some Jvm.ClassFile.FieldType.boolean), 11, 1, 1)
def mI166 : mMI := (⟨"FunDeskModel", "operator", "(I)I"⟩, prog_13_method_14_code, 4, (Option.some Jvm.ClassFile.FieldType.int), 11, 1, 0)
def mI167 : mMI := (⟨"FunDeskModel", "atom", "(I)V"⟩, prog_13_method_26_code, 7, (Option.none : Option Jvm.ClassFile.FieldType), 11, 1, 0)
def mI168 : mMI := (⟨"FunDeskModel", "digits", "(I)I"⟩, prog_13_method_13_code, 4, (Option.some Jvm.ClassFile.FieldType.int), 11, 1, 0)
def mI169 : mMI := (⟨"FunDeskModel", "pattern", "(I)V"⟩, prog_13_method_28_code, 2, (Option.none : Option Jvm.ClassFile.FieldType), 11, 1, 0)
def mI170 : mMI := (⟨"FunDeskModel", "insertSign", "(I)V"⟩, prog_13_method_17_code, 3, (Option.none : Option Jvm.ClassFile.FieldType), 11, 1, 0)
def mI171 : mMI := (⟨"FunDeskModel", "part", "(I)V"⟩, prog_13_method_27_code, 4, (Option.none : Option Jvm.ClassFile.FieldType), 11, 1, 0)
def mI172 : mMI := (⟨"FunDeskModel", "putSign", "(II)V"⟩, prog_13_method_16_code, 3, (Option.none : Option Jvm.ClassFile.FieldType), 11, 2, 0)
def mI173 : mMI := (⟨"FunDeskModel", "namesFound", "()Z"⟩, prog_13_method_34_code, 3, (Option.some Jvm.ClassFile.FieldType.boolean), 11, 0, 0)
def mI174 : mMI := (⟨"FunDeskModel", "scope", "(I)V"⟩, prog_13_method_33_code, 3, (Option.none : Option Jvm.ClassFile.FieldType), 11, 1, 0)
def mI175 : mMI := (⟨"FunDeskModel", "bind", "(II)V"⟩, prog_13_method_31_code, 3, (Option.none : Option Jvm.ClassFile.FieldType), 11, 2, 0)
def mI176 : mMI := (⟨"FunDeskModel", "bindPattern", "(I)V"⟩, prog_13_method_32_code, 3, (Option.none : Option Jvm.ClassFile.FieldType), 11, 1, 0)
def mI177 : mMI := (⟨"FunDeskModel", "typesFound", "()Z"⟩, prog_13_method_52_code, 6, (Option.some Jvm.ClassFile.FieldType.boolean), 11, 0, 0)
def mI178 : mMI := (⟨"FunDeskModel", "make", "(III)I"⟩, prog_13_method_35_code, 4, (Option.some Jvm.ClassFile.FieldType.int), 11, 3, 0)
def mI179 : mMI := (⟨"FunDeskModel", "typeOf", "(I)V"⟩, prog_13_method_50_code, 5, (Option.none : Option Jvm.ClassFile.FieldType), 11, 1, 0)
def mI180 : mMI := (⟨"FunDeskModel", "push", "(I)V"⟩, prog_13_method_41_code, 2, (Option.none : Option Jvm.ClassFile.FieldType), 11, 1, 0)
def mI181 : mMI := (⟨"FunDeskModel", "fresh", "()I"⟩, prog_13_method_36_code, 1, (Option.some Jvm.ClassFile.FieldType.int), 11, 0, 0)
def mI182 : mMI := (⟨"FunDeskModel", "instance", "(I)I"⟩, prog_13_method_45_code, 6, (Option.some Jvm.ClassFile.FieldType.int), 11, 1, 0)
def mI183 : mMI := (⟨"FunDeskModel", "width", "(I)I"⟩, prog_13_method_38_code, 5, (Option.some Jvm.ClassFile.FieldType.int), 11, 1, 0)
def mI184 : mMI := (⟨"FunDeskModel", "realType", "(I)I"⟩, prog_13_method_37_code, 3, (Option.some Jvm.ClassFile.FieldType.int), 11, 1, 0)
def mI185 : mMI := (⟨"FunDeskModel", "copyOf", "(I)I"⟩, prog_13_method_44_code, 3, (Option.some Jvm.ClassFile.FieldType.int), 11, 1, 0)
def mI186 : mMI := (⟨"FunDeskModel", "pop", "()I"⟩, prog_13_method_42_code, 1, (Option.some Jvm.ClassFile.FieldType.int), 11, 0, 0)
def mI187 : mMI := (⟨"FunDeskModel", "applied", "()V"⟩, prog_13_method_49_code, 3, (Option.none : Option Jvm.ClassFile.FieldType), 11, 0, 0)
def mI188 : mMI := (⟨"FunDeskModel", "unify", "(II)V"⟩, prog_13_method_40_code, 8, (Option.none : Option Jvm.ClassFile.FieldType), 11, 2, 0)
def mI189 : mMI := (⟨"FunDeskModel", "standsIn", "(II)Z"⟩, prog_13_method_39_code, 3, (Option.some Jvm.ClassFile.FieldType.boolean), 11, 2, 0)
def mI190 : mMI := (⟨"FunDeskModel", "operation", "(I)V"⟩, prog_13_method_47_code, 4, (Option.none : Option Jvm.ClassFile.FieldType), 11, 1, 0)
def mI191 : mMI := (⟨"FunDeskModel", "operand", "(I)I"⟩, prog_13_method_46_code, 2, (Option.some Jvm.ClassFile.FieldType.int), 11, 1, 0)
def mI192 : mMI := (⟨"FunDeskModel", "bindingType", "(II)V"⟩, prog_13_method_51_code, 4, (Option.none : Option Jvm.ClassFile.FieldType), 11, 2, 0)
def mI193 : mMI := (⟨"FunDeskModel", "generalize", "(I)V"⟩, prog_13_method_43_code, 5, (Option.none : Option Jvm.ClassFile.FieldType), 11, 1, 0)
def mI194 : mMI := (⟨"FunDeskModel", "patternTypes", "(II)V"⟩, prog_13_method_48_code, 8, (Option.none : Option Jvm.ClassFile.FieldType), 11, 2, 0)
def mI195 : mMI := (⟨"FunDeskModel", "startProgram", "()V"⟩, prog_13_method_72_code, 2, (Option.none : Option Jvm.ClassFile.FieldType), 11, 0, 0)
def mI196 : mMI := (⟨"FunDeskModel", "show", "(I)V"⟩, prog_13_method_53_code, 6, (Option.none : Option Jvm.ClassFile.FieldType), 11, 1, 0)
def mI197 : mMI := (⟨"FunDeskModel", "shown", "(I)I"⟩, prog_13_method_74_code, 2, (Option.some Jvm.ClassFile.FieldType.int), 11, 1, 0)
def mI198 : mMI := (⟨"FunDeskModel", "run", "(I)I"⟩, prog_13_method_76_code, 3, (Option.some Jvm.ClassFile.FieldType.int), 11, 1, 0)
def mI199 : mMI := (⟨"FunDeskModel", "stepIsDue", "()Z"⟩, prog_13_method_75_code, 1, (Option.some Jvm.ClassFile.FieldType.boolean), 11, 0, 0)
def mI200 : mMI := (⟨"FunDeskModel", "isStep", "(I)Z"⟩, prog_13_method_62_code, 1, (Option.some Jvm.ClassFile.FieldType.boolean), 11, 1, 1)
def mI201 : mMI := (⟨"FunDeskModel", "execute", "()V"⟩, prog_13_method_69_code, 4, (Option.none : Option Jvm.ClassFile.FieldType), 11, 0, 0)
def mI202 : mMI := (⟨"FunDeskModel", "known", "(II)V"⟩, prog_13_method_55_code, 3, (Option.none : Option Jvm.ClassFile.FieldType), 11, 2, 0)
def mI203 : mMI := (⟨"FunDeskModel", "fail", "(I)V"⟩, prog_13_method_54_code, 2, (Option.none : Option Jvm.ClassFile.FieldType), 11, 1, 0)
def mI204 : mMI := (⟨"FunDeskModel", "further", "(I)I"⟩, prog_13_method_68_code, 4, (Option.some Jvm.ClassFile.FieldType.int), 11, 1, 0)
def mI205 : mMI := (⟨"FunDeskModel", "knownValue", "(J)V"⟩, prog_13_method_56_code, 3, (Option.none : Option Jvm.ClassFile.FieldType), 11, 1, 0)
def mI206 : mMI := (⟨"FunDeskModel", "apply", "()V"⟩, prog_13_method_63_code, 5, (Option.none : Option Jvm.ClassFile.FieldType), 11, 0, 0)
def mI207 : mMI := (⟨"FunDeskModel", "kind", "(J)I"⟩, prog_13_method_57_code, 2, (Option.some Jvm.ClassFile.FieldType.int), 11, 1, 1)
def mI208 : mMI := (⟨"FunDeskModel", "told", "(J)I"⟩, prog_13_method_58_code, 2, (Option.some Jvm.ClassFile.FieldType.int), 11, 1, 1)
def mI209 : mMI := (⟨"FunDeskModel", "knownReal", "(D)V"⟩, prog_13_method_60_code, 3, (Option.none : Option Jvm.ClassFile.FieldType), 11, 1, 0)
def mI210 : mMI := (⟨"FunDeskModel", "realOf", "(J)D"⟩, prog_13_method_59_code, 3, (Option.some Jvm.ClassFile.FieldType.double), 11, 1, 0)
def mI211 : mMI := (⟨"FunDeskModel", "worthIs", "(JI)V"⟩, prog_13_method_61_code, 4, (Option.none : Option Jvm.ClassFile.FieldType), 11, 2, 0)
def mI212 : mMI := (⟨"FunDeskModel", "work", "(I)V"⟩, prog_13_method_64_code, 6, (Option.none : Option Jvm.ClassFile.FieldType), 11, 1, 0)
def mI213 : mMI := (⟨"FunDeskModel", "workReals", "(IDD)V"⟩, prog_13_method_66_code, 8, (Option.none : Option Jvm.ClassFile.FieldType), 11, 3, 0)
def mI214 : mMI := (⟨"FunDeskModel", "workNumbers", "(III)V"⟩, prog_13_method_65_code, 4, (Option.none : Option Jvm.ClassFile.FieldType), 11, 3, 0)
def mI215 : mMI := (⟨"FunDeskModel", "bindTop", "(Z)V"⟩, prog_13_method_70_code, 4, (Option.none : Option Jvm.ClassFile.FieldType), 11, 1, 0)
def mI216 : mMI := (⟨"FunDeskModel", "flow", "(III)V"⟩, prog_13_method_71_code, 5, (Option.none : Option Jvm.ClassFile.FieldType), 11, 3, 0)
def mI217 : mMI := (⟨"FunDeskModel", "fits", "(II)Z"⟩, prog_13_method_67_code, 10, (Option.some Jvm.ClassFile.FieldType.boolean), 11, 2, 0)
def mI218 : mMI := (⟨"FunDeskModel", "state", "(I)I"⟩, prog_13_method_77_code, 2, (Option.some Jvm.ClassFile.FieldType.int), 11, 1, 0)
def mI219 : mMI := (⟨"FunDeskModel", "value", "(I)I"⟩, prog_13_method_79_code, 3, (Option.some Jvm.ClassFile.FieldType.int), 11, 1, 0)
def mI220 : mMI := (⟨"FunDeskModel", "items", "(J)I"⟩, prog_13_method_78_code, 6, (Option.some Jvm.ClassFile.FieldType.int), 11, 1, 0)
def mI221 : mMI := (⟨"FunDeskModel", "real", "()D"⟩, prog_13_method_80_code, 1, (Option.some Jvm.ClassFile.FieldType.double), 11, 0, 0)
def mI222 : mMI := (⟨"FunDeskModel", "item", "(I)V"⟩, prog_13_method_81_code, 5, (Option.none : Option Jvm.ClassFile.FieldType), 11, 1, 0)
def mI223 : mMI := (⟨"FunDeskModel", "top", "()V"⟩, prog_13_method_82_code, 1, (Option.none : Option Jvm.ClassFile.FieldType), 11, 0, 0)
def mI224 : mMI := (⟨"FunDeskLaw", "load", "(LFunDesk;[J)I"⟩, method_3_code, 3, (Option.some Jvm.ClassFile.FieldType.int), 12, 2, 1)
def mI225 : mMI := (⟨"FunDeskLaw", "value", "(LFunDesk;I[J)I"⟩, method_4_code, 4, (Option.some Jvm.ClassFile.FieldType.int), 12, 3, 1)
def mI226 : mMI := (⟨"FunDeskLaw", "real", "(LFunDesk;[D)I"⟩, method_5_code, 3, (Option.some Jvm.ClassFile.FieldType.int), 12, 2, 1)
def mI227 : mMI := (⟨"FunDeskLaw", "item", "(LFunDesk;I)I"⟩, method_6_code, 3, (Option.some Jvm.ClassFile.FieldType.int), 12, 2, 1)
def mI228 : mMI := (⟨"FunDeskLaw", "top", "(LFunDesk;)I"⟩, method_7_code, 2, (Option.some Jvm.ClassFile.FieldType.int), 12, 1, 1)
def mI229 : mMI := (⟨"FunDeskLaw", "law", "([I)Z"⟩, code, 9, ret, 12, 1, 1)
def mTab : List mMI := [mI0, mI1, mI2, mI3, mI4, mI5, mI6, mI7, mI8, mI9, mI10, mI11, mI12, mI13, mI14, mI15, mI16, mI17, mI18, mI19, mI20, mI21, mI22, mI23, mI24, mI25, mI26, mI27, mI28, mI29, mI30, mI31, mI32, mI33, mI34, mI35, mI36, mI37, mI38, mI39, mI40, mI41, mI42, mI43, mI44, mI45, mI46, mI47, mI48, mI49, mI50, mI51, mI52, mI53, mI54, mI55, mI56, mI57, mI58, mI59, mI60, mI61, mI62, mI63, mI64, mI65, mI66, mI67, mI68, mI69, mI70, mI71, mI72, mI73, mI74, mI75, mI76, mI77, mI78, mI79, mI80, mI81, mI82, mI83, mI84, mI85, mI86, mI87, mI88, mI89, mI90, mI91, mI92, mI93, mI94, mI95, mI96, mI97, mI98, mI99, mI100, mI101, mI102, mI103, mI104, mI105, mI106, mI107, mI108, mI109, mI110, mI111, mI112, mI113, mI114, mI115, mI116, mI117, mI118, mI119, mI120, mI121, mI122, mI123, mI124, mI125, mI126, mI127, mI128, mI129, mI130, mI131, mI132, mI133, mI134, mI135, mI136, mI137, mI138, mI139, mI140, mI141, mI142, mI143, mI144, mI145, mI146, mI147, mI148, mI149, mI150, mI151, mI152, mI153, mI154, mI155, mI156, mI157, mI158, mI159, mI160, mI161, mI162, mI163, mI164, mI165, mI166, mI167, mI168, mI169, mI170, mI171, mI172, mI173, mI174, mI175, mI176, mI177, mI178, mI179, mI180, mI181, mI182, mI183, mI184, mI185, mI186, mI187, mI188, mI189, mI190, mI191, mI192, mI193, mI194, mI195, mI196, mI197, mI198, mI199, mI200, mI201, mI202, mI203, mI204, mI205, mI206, mI207, mI208, mI209, mI210, mI211, mI212, mI213, mI214, mI215, mI216, mI217, mI218, mI219, mI220, mI221, mI222, mI223, mI224, mI225, mI226, mI227, mI228, mI229]
def mIO (q : mMI) : Prop := ownN[q.2.2.2.2.1]? = some q.1.cls ∧ (q.1.cls ≠ "java/lang/invoke/MethodHandle" ∧ q.1.cls ≠ "java/lang/invoke/VarHandle" ∧ (parseMethodDescriptor q.1.desc).map (fun d => d.parameters.length) = some q.2.2.2.2.2.1) ∧ plainName q.1.cls = true ∧ Cond.initialized q.1.cls ∈ lw_tbl ∧ (q.2.2.2.2.2.2 = 1 → Cond.static q.1 ∈ lw_tbl) ∧ (q.2.2.2.2.2.2 = 0 → Cond.instanceMethod q.1 ∈ lw_tbl ∧ (q.1.name ≠ "<init>" → Cond.selects q.1.cls q.1 q.1 ∈ lw_tbl))
def mIC (q : mMI) : Prop := Cond.code q.1 q.2.1 q.2.2.1 q.2.2.2.1 ∈ lw_tbl
theorem mI0_ok : mIO mI0 := ⟨rfl, by decide +kernel, by decide +kernel, List.mem_of_getElem? (i := 135) (by decide +kernel), fun h => absurd h (by decide +kernel), fun _ => ⟨List.mem_of_getElem? (i := 160) (by decide +kernel), fun h => absurd rfl h⟩⟩
theorem mI0_code : mIC mI0 := List.mem_of_getElem? (i := 161) (by decide +kernel)
theorem mI1_ok : mIO mI1 := ⟨rfl, by decide +kernel, by decide +kernel, List.mem_of_getElem? (i := 136) (by decide +kernel), fun h => absurd h (by decide +kernel), fun _ => ⟨List.mem_of_getElem? (i := 168) (by decide +kernel), fun h => absurd rfl h⟩⟩
theorem mI1_code : mIC mI1 := List.mem_of_getElem? (i := 169) (by decide +kernel)
theorem mI2_ok : mIO mI2 := ⟨rfl, by decide +kernel, by decide +kernel, List.mem_of_getElem? (i := 137) (by decide +kernel), fun h => absurd h (by decide +kernel), fun _ => ⟨List.mem_of_getElem? (i := 174) (by decide +kernel), fun h => absurd rfl h⟩⟩
theorem mI2_code : mIC mI2 := List.mem_of_getElem? (i := 175) (by decide +kernel)
theorem mI3_ok : mIO mI3 := ⟨rfl, by decide +kernel, by decide +kernel, List.mem_of_getElem? (i := 138) (by decide +kernel), fun h => absurd h (by decide +kernel), fun _ => ⟨List.mem_of_getElem? (i := 192) (by decide +kernel), fun h => absurd rfl h⟩⟩
theorem mI3_code : mIC mI3 := List.mem_of_getElem? (i := 193) (by decide +kernel)
theorem mI4_ok : mIO mI4 := ⟨rfl, by decide +kernel, by decide +kernel, List.mem_of_getElem? (i := 139) (by decide +kernel), fun h => absurd h (by decide +kernel), fun _ => ⟨List.mem_of_getElem? (i := 228) (by decide +kernel), fun h => absurd rfl h⟩⟩
theorem mI4_code : mIC mI4 := List.mem_of_getElem? (i := 229) (by decide +kernel)
theorem mI5_ok : mIO mI5 := ⟨rfl, by decide +kernel, by decide +kernel, List.mem_of_getElem? (i := 140) (by decide +kernel), fun h => absurd h (by decide +kernel), fun _ => ⟨List.mem_of_getElem? (i := 258) (by decide +kernel), fun h => absurd rfl h⟩⟩
theorem mI5_code : mIC mI5 := List.mem_of_getElem? (i := 259) (by decide +kernel)
theorem mI6_ok : mIO mI6 := ⟨rfl, by decide +kernel, by decide +kernel, List.mem_of_getElem? (i := 141) (by decide +kernel), fun h => absurd h (by decide +kernel), fun _ => ⟨List.mem_of_getElem? (i := 291) (by decide +kernel), fun h => absurd rfl h⟩⟩
theorem mI6_code : mIC mI6 := List.mem_of_getElem? (i := 292) (by decide +kernel)
theorem mI7_ok : mIO mI7 := ⟨rfl, by decide +kernel, by decide +kernel, List.mem_of_getElem? (i := 142) (by decide +kernel), fun h => absurd h (by decide +kernel), fun _ => ⟨List.mem_of_getElem? (i := 321) (by decide +kernel), fun h => absurd rfl h⟩⟩
theorem mI7_code : mIC mI7 := List.mem_of_getElem? (i := 322) (by decide +kernel)
theorem mI8_ok : mIO mI8 := ⟨rfl, by decide +kernel, by decide +kernel, List.mem_of_getElem? (i := 135) (by decide +kernel), fun h => absurd h (by decide +kernel), fun _ => ⟨List.mem_of_getElem? (i := 397) (by decide +kernel), fun _ => List.mem_of_getElem? (i := 398) (by decide +kernel)⟩⟩
theorem mI8_code : mIC mI8 := List.mem_of_getElem? (i := 399) (by decide +kernel)
theorem mI9_ok : mIO mI9 := ⟨rfl, by decide +kernel, by decide +kernel, List.mem_of_getElem? (i := 136) (by decide +kernel), fun h => absurd h (by decide +kernel), fun _ => ⟨List.mem_of_getElem? (i := 401) (by decide +kernel), fun _ => List.mem_of_getElem? (i := 402) (by decide +kernel)⟩⟩
theorem mI9_code : mIC mI9 := List.mem_of_getElem? (i := 403) (by decide +kernel)
theorem mI10_ok : mIO mI10 := ⟨rfl, by decide +kernel, by decide +kernel, List.mem_of_getElem? (i := 137) (by decide +kernel), fun h => absurd h (by decide +kernel), fun _ => ⟨List.mem_of_getElem? (i := 405) (by decide +kernel), fun _ => List.mem_of_getElem? (i := 406) (by decide +kernel)⟩⟩
theorem mI10_code : mIC mI10 := List.mem_of_getElem? (i := 407) (by decide +kernel)
theorem mI11_ok : mIO mI11 := ⟨rfl, by decide +kernel, by decide +kernel, List.mem_of_getElem? (i := 135) (by decide +kernel), fun h => absurd h (by decide +kernel), fun _ => ⟨List.mem_of_getElem? (i := 409) (by decide +kernel), fun _ => List.mem_of_getElem? (i := 410) (by decide +kernel)⟩⟩
theorem mI11_code : mIC mI11 := List.mem_of_getElem? (i := 411) (by decide +kernel)
theorem mI12_ok : mIO mI12 := ⟨rfl, by decide +kernel, by decide +kernel, List.mem_of_getElem? (i := 136) (by decide +kernel), fun h => absurd h (by decide +kernel), fun _ => ⟨List.mem_of_getElem? (i := 413) (by decide +kernel), fun _ => List.mem_of_getElem? (i := 414) (by decide +kernel)⟩⟩
theorem mI12_code : mIC mI12 := List.mem_of_getElem? (i := 415) (by decide +kernel)
theorem mI13_ok : mIO mI13 := ⟨rfl, by decide +kernel, by decide +kernel, List.mem_of_getElem? (i := 135) (by decide +kernel), fun h => absurd h (by decide +kernel), fun _ => ⟨List.mem_of_getElem? (i := 417) (by decide +kernel), fun _ => List.mem_of_getElem? (i := 418) (by decide +kernel)⟩⟩
theorem mI13_code : mIC mI13 := List.mem_of_getElem? (i := 419) (by decide +kernel)
theorem mI14_ok : mIO mI14 := ⟨rfl, by decide +kernel, by decide +kernel, List.mem_of_getElem? (i := 137) (by decide +kernel), fun h => absurd h (by decide +kernel), fun _ => ⟨List.mem_of_getElem? (i := 421) (by decide +kernel), fun _ => List.mem_of_getElem? (i := 422) (by decide +kernel)⟩⟩
theorem mI14_code : mIC mI14 := List.mem_of_getElem? (i := 423) (by decide +kernel)
theorem mI15_ok : mIO mI15 := ⟨rfl, by decide +kernel, by decide +kernel, List.mem_of_getElem? (i := 135) (by decide +kernel), fun h => absurd h (by decide +kernel), fun _ => ⟨List.mem_of_getElem? (i := 425) (by decide +kernel), fun _ => List.mem_of_getElem? (i := 426) (by decide +kernel)⟩⟩
theorem mI15_code : mIC mI15 := List.mem_of_getElem? (i := 427) (by decide +kernel)
theorem mI16_ok : mIO mI16 := ⟨rfl, by decide +kernel, by decide +kernel, List.mem_of_getElem? (i := 142) (by decide +kernel), fun h => absurd h (by decide +kernel), fun _ => ⟨List.mem_of_getElem? (i := 429) (by decide +kernel), fun _ => List.mem_of_getElem? (i := 430) (by decide +kernel)⟩⟩
theorem mI16_code : mIC mI16 := List.mem_of_getElem? (i := 431) (by decide +kernel)
theorem mI17_ok : mIO mI17 := ⟨rfl, by decide +kernel, by decide +kernel, List.mem_of_getElem? (i := 142) (by decide +kernel), fun h => absurd h (by decide +kernel), fun _ => ⟨List.mem_of_getElem? (i := 433) (by decide +kernel), fun _ => List.mem_of_getElem? (i := 434) (by decide +kernel)⟩⟩
theorem mI17_code : mIC mI17 := List.mem_of_getElem? (i := 435) (by decide +kernel)
theorem mI18_ok : mIO mI18 := ⟨rfl, by decide +kernel, by decide +kernel, List.mem_of_getElem? (i := 142) (by decide +kernel), fun h => absurd h (by decide +kernel), fun _ => ⟨List.mem_of_getElem? (i := 439) (by decide +kernel), fun _ => List.mem_of_getElem? (i := 0) (by decide +kernel)⟩⟩
theorem mI18_code : mIC mI18 := List.mem_of_getElem? (i := 440) (by decide +kernel)
theorem mI19_ok : mIO mI19 := ⟨rfl, by decide +kernel, by decide +kernel, List.mem_of_getElem? (i := 138) (by decide +kernel), fun h => absurd h (by decide +kernel), fun _ => ⟨List.mem_of_getElem? (i := 442) (by decide +kernel), fun _ => List.mem_of_getElem? (i := 443) (by decide +kernel)⟩⟩
theorem mI19_code : mIC mI19 := List.mem_of_getElem? (i := 444) (by decide +kernel)
theorem mI20_ok : mIO mI20 := ⟨rfl, by decide +kernel, by decide +kernel, List.mem_of_getElem? (i := 138) (by decide +kernel), fun h => absurd h (by decide +kernel), fun _ => ⟨List.mem_of_getElem? (i := 448) (by decide +kernel), fun _ => List.mem_of_getElem? (i := 449) (by decide +kernel)⟩⟩
theorem mI20_code : mIC mI20 := List.mem_of_getElem? (i := 450) (by decide +kernel)
theorem mI21_ok : mIO mI21 := ⟨rfl, by decide +kernel, by decide +kernel, List.mem_of_getElem? (i := 152) (by decide +kernel), fun h => absurd h (by decide +kernel), fun _ => ⟨List.mem_of_getElem? (i := 452) (by decide +kernel), fun h => absurd rfl h⟩⟩
theorem mI21_code : mIC mI21 := List.mem_of_getElem? (i := 453) (by decide +kernel)
theorem mI22_ok : mIO mI22 := ⟨rfl, by decide +kernel, by decide +kernel, List.mem_of_getElem? (i := 142) (by decide +kernel), fun h => absurd h (by decide +kernel), fun _ => ⟨List.mem_of_getElem? (i := 484) (by decide +kernel), fun _ => List.mem_of_getElem? (i := 1) (by decide +kernel)⟩⟩
theorem mI22_code : mIC mI22 := List.mem_of_getElem? (i := 485) (by decide +kernel)
theorem mI23_ok : mIO mI23 := ⟨rfl, by decide +kernel, by decide +kernel, List.mem_of_getElem? (i := 142) (by decide +kernel), fun h => absurd h (by decide +kernel), fun _ => ⟨List.mem_of_getElem? (i := 488) (by decide +kernel), fun _ => List.mem_of_getElem? (i := 2) (by decide +kernel)⟩⟩
theorem mI23_code : mIC mI23 := List.mem_of_getElem? (i := 489) (by decide +kernel)
theorem mI24_ok : mIO mI24 := ⟨rfl, by decide +kernel, by decide +kernel, List.mem_of_getElem? (i := 152) (by decide +kernel), fun _ => List.mem_of_getElem? (i := 492) (by decide +kernel), fun h => absurd h (by decide +kernel)⟩
theorem mI24_code : mIC mI24 := List.mem_of_getElem? (i := 493) (by decide +kernel)
theorem mI25_ok : mIO mI25 := ⟨rfl, by decide +kernel, by decide +kernel, List.mem_of_getElem? (i := 142) (by decide +kernel), fun h => absurd h (by decide +kernel), fun _ => ⟨List.mem_of_getElem? (i := 498) (by decide +kernel), fun _ => List.mem_of_getElem? (i := 3) (by decide +kernel)⟩⟩
theorem mI25_code : mIC mI25 := List.mem_of_getElem? (i := 499) (by decide +kernel)
theorem mI26_ok : mIO mI26 := ⟨rfl, by decide +kernel, by decide +kernel, List.mem_of_getElem? (i := 152) (by decide +kernel), fun _ => List.mem_of_getElem? (i := 501) (by decide +kernel), fun h => absurd h (by decide +kernel)⟩
theorem mI26_code : mIC mI26 := List.mem_of_getElem? (i := 502) (by decide +kernel)
theorem mI27_ok : mIO mI27 := ⟨rfl, by decide +kernel, by decide +kernel, List.mem_of_getElem? (i := 138) (by decide +kernel), fun h => absurd h (by decide +kernel), fun _ => ⟨List.mem_of_getElem? (i := 504) (by decide +kernel), fun _ => List.mem_of_getElem? (i := 505) (by decide +kernel)⟩⟩
theorem mI27_code : mIC mI27 := List.mem_of_getElem? (i := 506) (by decide +kernel)
theorem mI28_ok : mIO mI28 := ⟨rfl, by decide +kernel, by decide +kernel, List.mem_of_getElem? (i := 142) (by decide +kernel), fun h => absurd h (by decide +kernel), fun _ => ⟨List.mem_of_getElem? (i := 509) (by decide +kernel), fun _ => List.mem_of_getElem? (i := 4) (by decide +kernel)⟩⟩
theorem mI28_code : mIC mI28 := List.mem_of_getElem? (i := 510) (by decide +kernel)
theorem mI29_ok : mIO mI29 := ⟨rfl, by decide +kernel, by decide +kernel, List.mem_of_getElem? (i := 142) (by decide +kernel), fun h => absurd h (by decide +kernel), fun _ => ⟨List.mem_of_getElem? (i := 513) (by decide +kernel), fun _ => List.mem_of_getElem? (i := 5) (by decide +kernel)⟩⟩
theorem mI29_code : mIC mI29 := List.mem_of_getElem? (i := 514) (by decide +kernel)
theorem mI30_ok : mIO mI30 := ⟨rfl, by decide +kernel, by decide +kernel, List.mem_of_getElem? (i := 138) (by decide +kernel), fun h => absurd h (by decide +kernel), fun _ => ⟨List.mem_of_getElem? (i := 516) (by decide +kernel), fun _ => List.mem_of_getElem? (i := 517) (by decide +kernel)⟩⟩
theorem mI30_code : mIC mI30 := List.mem_of_getElem? (i := 518) (by decide +kernel)
theorem mI31_ok : mIO mI31 := ⟨rfl, by decide +kernel, by decide +kernel, List.mem_of_getElem? (i := 138) (by decide +kernel), fun h => absurd h (by decide +kernel), fun _ => ⟨List.mem_of_getElem? (i := 520) (by decide +kernel), fun _ => List.mem_of_getElem? (i := 521) (by decide +kernel)⟩⟩
theorem mI31_code : mIC mI31 := List.mem_of_getElem? (i := 522) (by decide +kernel)
theorem mI32_ok : mIO mI32 := ⟨rfl, by decide +kernel, by decide +kernel, List.mem_of_getElem? (i := 142) (by decide +kernel), fun h => absurd h (by decide +kernel), fun _ => ⟨List.mem_of_getElem? (i := 525) (by decide +kernel), fun _ => List.mem_of_getElem? (i := 6) (by decide +kernel)⟩⟩
theorem mI32_code : mIC mI32 := List.mem_of_getElem? (i := 526) (by decide +kernel)
theorem mI33_ok : mIO mI33 := ⟨rfl, by decide +kernel, by decide +kernel, List.mem_of_getElem? (i := 142) (by decide +kernel), fun h => absurd h (by decide +kernel), fun _ => ⟨List.mem_of_getElem? (i := 529) (by decide +kernel), fun _ => List.mem_of_getElem? (i := 7) (by decide +kernel)⟩⟩
theorem mI33_code : mIC mI33 := List.mem_of_getElem? (i := 530) (by decide +kernel)
theorem mI34_ok : mIO mI34 := ⟨rfl, by decide +kernel, by decide +kernel, List.mem_of_getElem? (i := 142) (by decide +kernel), fun h => absurd h (by decide +kernel), fun _ => ⟨List.mem_of_getElem? (i := 533) (by decide +kernel), fun _ => List.mem_of_getElem? (i := 8) (by decide +kernel)⟩⟩
theorem mI34_code : mIC mI34 := List.mem_of_getElem? (i := 534) (by decide +kernel)
theorem mI35_ok : mIO mI35 := ⟨rfl, by decide +kernel, by decide +kernel, List.mem_of_getElem? (i := 142) (by decide +kernel), fun h => absurd h (by decide +kernel), fun _ => ⟨List.mem_of_getElem? (i := 537) (by decide +kernel), fun _ => List.mem_of_getElem? (i := 9) (by decide +kernel)⟩⟩
theorem mI35_code : mIC mI35 := List.mem_of_getElem? (i := 538) (by decide +kernel)
theorem mI36_ok : mIO mI36 := ⟨rfl, by decide +kernel, by decide +kernel, List.mem_of_getElem? (i := 142) (by decide +kernel), fun h => absurd h (by decide +kernel), fun _ => ⟨List.mem_of_getElem? (i := 541) (by decide +kernel), fun _ => List.mem_of_getElem? (i := 10) (by decide +kernel)⟩⟩
theorem mI36_code : mIC mI36 := List.mem_of_getElem? (i := 542) (by decide +kernel)
theorem mI37_ok : mIO mI37 := ⟨rfl, by decide +kernel, by decide +kernel, List.mem_of_getElem? (i := 142) (by decide +kernel), fun h => absurd h (by decide +kernel), fun _ => ⟨List.mem_of_getElem? (i := 545) (by decide +kernel), fun _ => List.mem_of_getElem? (i := 11) (by decide +kernel)⟩⟩
theorem mI37_code : mIC mI37 := List.mem_of_getElem? (i := 546) (by decide +kernel)
theorem mI38_ok : mIO mI38 := ⟨rfl, by decide +kernel, by decide +kernel, List.mem_of_getElem? (i := 142) (by decide +kernel), fun h => absurd h (by decide +kernel), fun _ => ⟨List.mem_of_getElem? (i := 549) (by decide +kernel), fun _ => List.mem_of_getElem? (i := 12) (by decide +kernel)⟩⟩
theorem mI38_code : mIC mI38 := List.mem_of_getElem? (i := 550) (by decide +kernel)
theorem mI39_ok : mIO mI39 := ⟨rfl, by decide +kernel, by decide +kernel, List.mem_of_getElem? (i := 142) (by decide +kernel), fun h => absurd h (by decide +kernel), fun _ => ⟨List.mem_of_getElem? (i := 555) (by decide +kernel), fun _ => List.mem_of_getElem? (i := 13) (by decide +kernel)⟩⟩
theorem mI39_code : mIC mI39 := List.mem_of_getElem? (i := 556) (by decide +kernel)
theorem mI40_ok : mIO mI40 := ⟨rfl, by decide +kernel, by decide +kernel, List.mem_of_getElem? (i := 152) (by decide +kernel), fun _ => List.mem_of_getElem? (i := 558) (by decide +kernel), fun h => absurd h (by decide +kernel)⟩
theorem mI40_code : mIC mI40 := List.mem_of_getElem? (i := 559) (by decide +kernel)
theorem mI41_ok : mIO mI41 := ⟨rfl, by decide +kernel, by decide +kernel, List.mem_of_getElem? (i := 142) (by decide +kernel), fun h => absurd h (by decide +kernel), fun _ => ⟨List.mem_of_getElem? (i := 562) (by decide +kernel), fun _ => List.mem_of_getElem? (i := 14) (by decide +kernel)⟩⟩
theorem mI41_code : mIC mI41 := List.mem_of_getElem? (i := 563) (by decide +kernel)
theorem mI42_ok : mIO mI42 := ⟨rfl, by decide +kernel, by decide +kernel, List.mem_of_getElem? (i := 153) (by decide +kernel), fun h => absurd h (by decide +kernel), fun _ => ⟨List.mem_of_getElem? (i := 567) (by decide +kernel), fun h => absurd rfl h⟩⟩
theorem mI42_code : mIC mI42 := List.mem_of_getElem? (i := 568) (by decide +kernel)
theorem mI43_ok : mIO mI43 := ⟨rfl, by decide +kernel, by decide +kernel, List.mem_of_getElem? (i := 154) (by decide +kernel), fun h => absurd h (by decide +kernel), fun _ => ⟨List.mem_of_getElem? (i := 586) (by decide +kernel), fun h => absurd rfl h⟩⟩
theorem mI43_code : mIC mI43 := List.mem_of_getElem? (i := 587) (by decide +kernel)
theorem mI44_ok : mIO mI44 := ⟨rfl, by decide +kernel, by decide +kernel, List.mem_of_getElem? (i := 142) (by decide +kernel), fun h => absurd h (by decide +kernel), fun _ => ⟨List.mem_of_getElem? (i := 604) (by decide +kernel), fun _ => List.mem_of_getElem? (i := 15) (by decide +kernel)⟩⟩
theorem mI44_code : mIC mI44 := List.mem_of_getElem? (i := 605) (by decide +kernel)
theorem mI45_ok : mIO mI45 := ⟨rfl, by decide +kernel, by decide +kernel, List.mem_of_getElem? (i := 138) (by decide +kernel), fun h => absurd h (by decide +kernel), fun _ => ⟨List.mem_of_getElem? (i := 607) (by decide +kernel), fun _ => List.mem_of_getElem? (i := 608) (by decide +kernel)⟩⟩
theorem mI45_code : mIC mI45 := List.mem_of_getElem? (i := 609) (by decide +kernel)
theorem mI46_ok : mIO mI46 := ⟨rfl, by decide +kernel, by decide +kernel, List.mem_of_getElem? (i := 142) (by decide +kernel), fun h => absurd h (by decide +kernel), fun _ => ⟨List.mem_of_getElem? (i := 612) (by decide +kernel), fun _ => List.mem_of_getElem? (i := 16) (by decide +kernel)⟩⟩
theorem mI46_code : mIC mI46 := List.mem_of_getElem? (i := 613) (by decide +kernel)
theorem mI47_ok : mIO mI47 := ⟨rfl, by decide +kernel, by decide +kernel, List.mem_of_getElem? (i := 142) (by decide +kernel), fun h => absurd h (by decide +kernel), fun _ => ⟨List.mem_of_getElem? (i := 616) (by decide +kernel), fun _ => List.mem_of_getElem? (i := 17) (by decide +kernel)⟩⟩
theorem mI47_code : mIC mI47 := List.mem_of_getElem? (i := 617) (by decide +kernel)
theorem mI48_ok : mIO mI48 := ⟨rfl, by decide +kernel, by decide +kernel, List.mem_of_getElem? (i := 142) (by decide +kernel), fun h => absurd h (by decide +kernel), fun _ => ⟨List.mem_of_getElem? (i := 620) (by decide +kernel), fun _ => List.mem_of_getElem? (i := 18) (by decide +kernel)⟩⟩
theorem mI48_code : mIC mI48 := List.mem_of_getElem? (i := 621) (by decide +kernel)
theorem mI49_ok : mIO mI49 := ⟨rfl, by decide +kernel, by decide +kernel, List.mem_of_getElem? (i := 142) (by decide +kernel), fun h => absurd h (by decide +kernel), fun _ => ⟨List.mem_of_getElem? (i := 623) (by decide +kernel), fun _ => List.mem_of_getElem? (i := 624) (by decide +kernel)⟩⟩
theorem mI49_code : mIC mI49 := List.mem_of_getElem? (i := 625) (by decide +kernel)
theorem mI50_ok : mIO mI50 := ⟨rfl, by decide +kernel, by decide +kernel, List.mem_of_getElem? (i := 135) (by decide +kernel), fun h => absurd h (by decide +kernel), fun _ => ⟨List.mem_of_getElem? (i := 627) (by decide +kernel), fun _ => List.mem_of_getElem? (i := 628) (by decide +kernel)⟩⟩
theorem mI50_code : mIC mI50 := List.mem_of_getElem? (i := 629) (by decide +kernel)
theorem mI51_ok : mIO mI51 := ⟨rfl, by decide +kernel, by decide +kernel, List.mem_of_getElem? (i := 142) (by decide +kernel), fun h => absurd h (by decide +kernel), fun _ => ⟨List.mem_of_getElem? (i := 631) (by decide +kernel), fun _ => List.mem_of_getElem? (i := 632) (by decide +kernel)⟩⟩
theorem mI51_code : mIC mI51 := List.mem_of_getElem? (i := 633) (by decide +kernel)
theorem mI52_ok : mIO mI52 := ⟨rfl, by decide +kernel, by decide +kernel, List.mem_of_getElem? (i := 142) (by decide +kernel), fun h => absurd h (by decide +kernel), fun _ => ⟨List.mem_of_getElem? (i := 635) (by decide +kernel), fun _ => List.mem_of_getElem? (i := 636) (by decide +kernel)⟩⟩
theorem mI52_code : mIC mI52 := List.mem_of_getElem? (i := 637) (by decide +kernel)
theorem mI53_ok : mIO mI53 := ⟨rfl, by decide +kernel, by decide +kernel, List.mem_of_getElem? (i := 142) (by decide +kernel), fun h => absurd h (by decide +kernel), fun _ => ⟨List.mem_of_getElem? (i := 639) (by decide +kernel), fun _ => List.mem_of_getElem? (i := 640) (by decide +kernel)⟩⟩
theorem mI53_code : mIC mI53 := List.mem_of_getElem? (i := 641) (by decide +kernel)
theorem mI54_ok : mIO mI54 := ⟨rfl, by decide +kernel, by decide +kernel, List.mem_of_getElem? (i := 135) (by decide +kernel), fun h => absurd h (by decide +kernel), fun _ => ⟨List.mem_of_getElem? (i := 649) (by decide +kernel), fun _ => List.mem_of_getElem? (i := 650) (by decide +kernel)⟩⟩
theorem mI54_code : mIC mI54 := List.mem_of_getElem? (i := 651) (by decide +kernel)
theorem mI55_ok : mIO mI55 := ⟨rfl, by decide +kernel, by decide +kernel, List.mem_of_getElem? (i := 139) (by decide +kernel), fun h => absurd h (by decide +kernel), fun _ => ⟨List.mem_of_getElem? (i := 653) (by decide +kernel), fun _ => List.mem_of_getElem? (i := 654) (by decide +kernel)⟩⟩
theorem mI55_code : mIC mI55 := List.mem_of_getElem? (i := 655) (by decide +kernel)
theorem mI56_ok : mIO mI56 := ⟨rfl, by decide +kernel, by decide +kernel, List.mem_of_getElem? (i := 137) (by decide +kernel), fun h => absurd h (by decide +kernel), fun _ => ⟨List.mem_of_getElem? (i := 657) (by decide +kernel), fun _ => List.mem_of_getElem? (i := 658) (by decide +kernel)⟩⟩
theorem mI56_code : mIC mI56 := List.mem_of_getElem? (i := 659) (by decide +kernel)
theorem mI57_ok : mIO mI57 := ⟨rfl, by decide +kernel, by decide +kernel, List.mem_of_getElem? (i := 138) (by decide +kernel), fun h => absurd h (by decide +kernel), fun _ => ⟨List.mem_of_getElem? (i := 661) (by decide +kernel), fun _ => List.mem_of_getElem? (i := 662) (by decide +kernel)⟩⟩
theorem mI57_code : mIC mI57 := List.mem_of_getElem? (i := 663) (by decide +kernel)
theorem mI58_ok : mIO mI58 := ⟨rfl, by decide +kernel, by decide +kernel, List.mem_of_getElem? (i := 139) (by decide +kernel), fun h => absurd h (by decide +kernel), fun _ => ⟨List.mem_of_getElem? (i := 666) (by decide +kernel), fun _ => List.mem_of_getElem? (i := 19) (by decide +kernel)⟩⟩
theorem mI58_code : mIC mI58 := List.mem_of_getElem? (i := 667) (by decide +kernel)
theorem mI59_ok : mIO mI59 := ⟨rfl, by decide +kernel, by decide +kernel, List.mem_of_getElem? (i := 139) (by decide +kernel), fun h => absurd h (by decide +kernel), fun _ => ⟨List.mem_of_getElem? (i := 670) (by decide +kernel), fun _ => List.mem_of_getElem? (i := 20) (by decide +kernel)⟩⟩
theorem mI59_code : mIC mI59 := List.mem_of_getElem? (i := 671) (by decide +kernel)
theorem mI60_ok : mIO mI60 := ⟨rfl, by decide +kernel, by decide +kernel, List.mem_of_getElem? (i := 139) (by decide +kernel), fun h => absurd h (by decide +kernel), fun _ => ⟨List.mem_of_getElem? (i := 674) (by decide +kernel), fun _ => List.mem_of_getElem? (i := 21) (by decide +kernel)⟩⟩
theorem mI60_code : mIC mI60 := List.mem_of_getElem? (i := 675) (by decide +kernel)
theorem mI61_ok : mIO mI61 := ⟨rfl, by decide +kernel, by decide +kernel, List.mem_of_getElem? (i := 136) (by decide +kernel), fun h => absurd h (by decide +kernel), fun _ => ⟨List.mem_of_getElem? (i := 677) (by decide +kernel), fun _ => List.mem_of_getElem? (i := 678) (by decide +kernel)⟩⟩
theorem mI61_code : mIC mI61 := List.mem_of_getElem? (i := 679) (by decide +kernel)
theorem mI62_ok : mIO mI62 := ⟨rfl, by decide +kernel, by decide +kernel, List.mem_of_getElem? (i := 139) (by decide +kernel), fun h => absurd h (by decide +kernel), fun _ => ⟨List.mem_of_getElem? (i := 683) (by decide +kernel), fun _ => List.mem_of_getElem? (i := 22) (by decide +kernel)⟩⟩
theorem mI62_code : mIC mI62 := List.mem_of_getElem? (i := 684) (by decide +kernel)
theorem mI63_ok : mIO mI63 := ⟨rfl, by decide +kernel, by decide +kernel, List.mem_of_getElem? (i := 139) (by decide +kernel), fun h => absurd h (by decide +kernel), fun _ => ⟨List.mem_of_getElem? (i := 687) (by decide +kernel), fun _ => List.mem_of_getElem? (i := 23) (by decide +kernel)⟩⟩
theorem mI63_code : mIC mI63 := List.mem_of_getElem? (i := 688) (by decide +kernel)
theorem mI64_ok : mIO mI64 := ⟨rfl, by decide +kernel, by decide +kernel, List.mem_of_getElem? (i := 139) (by decide +kernel), fun h => absurd h (by decide +kernel), fun _ => ⟨List.mem_of_getElem? (i := 691) (by decide +kernel), fun _ => List.mem_of_getElem? (i := 24) (by decide +kernel)⟩⟩
theorem mI64_code : mIC mI64 := List.mem_of_getElem? (i := 692) (by decide +kernel)
theorem mI65_ok : mIO mI65 := ⟨rfl, by decide +kernel, by decide +kernel, List.mem_of_getElem? (i := 139) (by decide +kernel), fun h => absurd h (by decide +kernel), fun _ => ⟨List.mem_of_getElem? (i := 695) (by decide +kernel), fun _ => List.mem_of_getElem? (i := 25) (by decide +kernel)⟩⟩
theorem mI65_code : mIC mI65 := List.mem_of_getElem? (i := 696) (by decide +kernel)
theorem mI66_ok : mIO mI66 := ⟨rfl, by decide +kernel, by decide +kernel, List.mem_of_getElem? (i := 139) (by decide +kernel), fun h => absurd h (by decide +kernel), fun _ => ⟨List.mem_of_getElem? (i := 699) (by decide +kernel), fun _ => List.mem_of_getElem? (i := 26) (by decide +kernel)⟩⟩
theorem mI66_code : mIC mI66 := List.mem_of_getElem? (i := 700) (by decide +kernel)
theorem mI67_ok : mIO mI67 := ⟨rfl, by decide +kernel, by decide +kernel, List.mem_of_getElem? (i := 138) (by decide +kernel), fun h => absurd h (by decide +kernel), fun _ => ⟨List.mem_of_getElem? (i := 704) (by decide +kernel), fun _ => List.mem_of_getElem? (i := 705) (by decide +kernel)⟩⟩
theorem mI67_code : mIC mI67 := List.mem_of_getElem? (i := 706) (by decide +kernel)
theorem mI68_ok : mIO mI68 := ⟨rfl, by decide +kernel, by decide +kernel, List.mem_of_getElem? (i := 139) (by decide +kernel), fun h => absurd h (by decide +kernel), fun _ => ⟨List.mem_of_getElem? (i := 710) (by decide +kernel), fun _ => List.mem_of_getElem? (i := 27) (by decide +kernel)⟩⟩
theorem mI68_code : mIC mI68 := List.mem_of_getElem? (i := 711) (by decide +kernel)
theorem mI69_ok : mIO mI69 := ⟨rfl, by decide +kernel, by decide +kernel, List.mem_of_getElem? (i := 139) (by decide +kernel), fun h => absurd h (by decide +kernel), fun _ => ⟨List.mem_of_getElem? (i := 714) (by decide +kernel), fun _ => List.mem_of_getElem? (i := 28) (by decide +kernel)⟩⟩
theorem mI69_code : mIC mI69 := List.mem_of_getElem? (i := 715) (by decide +kernel)
theorem mI70_ok : mIO mI70 := ⟨rfl, by decide +kernel, by decide +kernel, List.mem_of_getElem? (i := 139) (by decide +kernel), fun h => absurd h (by decide +kernel), fun _ => ⟨List.mem_of_getElem? (i := 718) (by decide +kernel), fun _ => List.mem_of_getElem? (i := 29) (by decide +kernel)⟩⟩
theorem mI70_code : mIC mI70 := List.mem_of_getElem? (i := 719) (by decide +kernel)
theorem mI71_ok : mIO mI71 := ⟨rfl, by decide +kernel, by decide +kernel, List.mem_of_getElem? (i := 139) (by decide +kernel), fun h => absurd h (by decide +kernel), fun _ => ⟨List.mem_of_getElem? (i := 722) (by decide +kernel), fun _ => List.mem_of_getElem? (i := 30) (by decide +kernel)⟩⟩
theorem mI71_code : mIC mI71 := List.mem_of_getElem? (i := 723) (by decide +kernel)
theorem mI72_ok : mIO mI72 := ⟨rfl, by decide +kernel, by decide +kernel, List.mem_of_getElem? (i := 139) (by decide +kernel), fun h => absurd h (by decide +kernel), fun _ => ⟨List.mem_of_getElem? (i := 726) (by decide +kernel), fun _ => List.mem_of_getElem? (i := 31) (by decide +kernel)⟩⟩
theorem mI72_code : mIC mI72 := List.mem_of_getElem? (i := 727) (by decide +kernel)
theorem mI73_ok : mIO mI73 := ⟨rfl, by decide +kernel, by decide +kernel, List.mem_of_getElem? (i := 139) (by decide +kernel), fun h => absurd h (by decide +kernel), fun _ => ⟨List.mem_of_getElem? (i := 730) (by decide +kernel), fun _ => List.mem_of_getElem? (i := 32) (by decide +kernel)⟩⟩
theorem mI73_code : mIC mI73 := List.mem_of_getElem? (i := 731) (by decide +kernel)
theorem mI74_ok : mIO mI74 := ⟨rfl, by decide +kernel, by decide +kernel, List.mem_of_getElem? (i := 139) (by decide +kernel), fun h => absurd h (by decide +kernel), fun _ => ⟨List.mem_of_getElem? (i := 734) (by decide +kernel), fun _ => List.mem_of_getElem? (i := 33) (by decide +kernel)⟩⟩
theorem mI74_code : mIC mI74 := List.mem_of_getElem? (i := 735) (by decide +kernel)
theorem mI75_ok : mIO mI75 := ⟨rfl, by decide +kernel, by decide +kernel, List.mem_of_getElem? (i := 139) (by decide +kernel), fun h => absurd h (by decide +kernel), fun _ => ⟨List.mem_of_getElem? (i := 738) (by decide +kernel), fun _ => List.mem_of_getElem? (i := 34) (by decide +kernel)⟩⟩
theorem mI75_code : mIC mI75 := List.mem_of_getElem? (i := 739) (by decide +kernel)
theorem mI76_ok : mIO mI76 := ⟨rfl, by decide +kernel, by decide +kernel, List.mem_of_getElem? (i := 138) (by decide +kernel), fun h => absurd h (by decide +kernel), fun _ => ⟨List.mem_of_getElem? (i := 741) (by decide +kernel), fun _ => List.mem_of_getElem? (i := 742) (by decide +kernel)⟩⟩
theorem mI76_code : mIC mI76 := List.mem_of_getElem? (i := 743) (by decide +kernel)
theorem mI77_ok : mIO mI77 := ⟨rfl, by decide +kernel, by decide +kernel, List.mem_of_getElem? (i := 139) (by decide +kernel), fun _ => List.mem_of_getElem? (i := 746) (by decide +kernel), fun h => absurd h (by decide +kernel)⟩
theorem mI77_code : mIC mI77 := List.mem_of_getElem? (i := 747) (by decide +kernel)
theorem mI78_ok : mIO mI78 := ⟨rfl, by decide +kernel, by decide +kernel, List.mem_of_getElem? (i := 139) (by decide +kernel), fun h => absurd h (by decide +kernel), fun _ => ⟨List.mem_of_getElem? (i := 750) (by decide +kernel), fun _ => List.mem_of_getElem? (i := 35) (by decide +kernel)⟩⟩
theorem mI78_code : mIC mI78 := List.mem_of_getElem? (i := 751) (by decide +kernel)
theorem mI79_ok : mIO mI79 := ⟨rfl, by decide +kernel, by decide +kernel, List.mem_of_getElem? (i := 139) (by decide +kernel), fun h => absurd h (by decide +kernel), fun _ => ⟨List.mem_of_getElem? (i := 754) (by decide +kernel), fun _ => List.mem_of_getElem? (i := 36) (by decide +kernel)⟩⟩
theorem mI79_code : mIC mI79 := List.mem_of_getElem? (i := 755) (by decide +kernel)
theorem mI80_ok : mIO mI80 := ⟨rfl, by decide +kernel, by decide +kernel, List.mem_of_getElem? (i := 139) (by decide +kernel), fun h => absurd h (by decide +kernel), fun _ => ⟨List.mem_of_getElem? (i := 758) (by decide +kernel), fun _ => List.mem_of_getElem? (i := 37) (by decide +kernel)⟩⟩
theorem mI80_code : mIC mI80 := List.mem_of_getElem? (i := 759) (by decide +kernel)
theorem mI81_ok : mIO mI81 := ⟨rfl, by decide +kernel, by decide +kernel, List.mem_of_getElem? (i := 144) (by decide +kernel), fun _ => List.mem_of_getElem? (i := 761) (by decide +kernel), fun h => absurd h (by decide +kernel)⟩
theorem mI81_code : mIC mI81 := List.mem_of_getElem? (i := 762) (by decide +kernel)
theorem mI82_ok : mIO mI82 := ⟨rfl, by decide +kernel, by decide +kernel, List.mem_of_getElem? (i := 138) (by decide +kernel), fun h => absurd h (by decide +kernel), fun _ => ⟨List.mem_of_getElem? (i := 767) (by decide +kernel), fun _ => List.mem_of_getElem? (i := 768) (by decide +kernel)⟩⟩
theorem mI82_code : mIC mI82 := List.mem_of_getElem? (i := 769) (by decide +kernel)
theorem mI83_ok : mIO mI83 := ⟨rfl, by decide +kernel, by decide +kernel, List.mem_of_getElem? (i := 139) (by decide +kernel), fun h => absurd h (by decide +kernel), fun _ => ⟨List.mem_of_getElem? (i := 772) (by decide +kernel), fun _ => List.mem_of_getElem? (i := 38) (by decide +kernel)⟩⟩
theorem mI83_code : mIC mI83 := List.mem_of_getElem? (i := 773) (by decide +kernel)
theorem mI84_ok : mIO mI84 := ⟨rfl, by decide +kernel, by decide +kernel, List.mem_of_getElem? (i := 139) (by decide +kernel), fun h => absurd h (by decide +kernel), fun _ => ⟨List.mem_of_getElem? (i := 776) (by decide +kernel), fun _ => List.mem_of_getElem? (i := 39) (by decide +kernel)⟩⟩
theorem mI84_code : mIC mI84 := List.mem_of_getElem? (i := 777) (by decide +kernel)
theorem mI85_ok : mIO mI85 := ⟨rfl, by decide +kernel, by decide +kernel, List.mem_of_getElem? (i := 139) (by decide +kernel), fun h => absurd h (by decide +kernel), fun _ => ⟨List.mem_of_getElem? (i := 780) (by decide +kernel), fun _ => List.mem_of_getElem? (i := 40) (by decide +kernel)⟩⟩
theorem mI85_code : mIC mI85 := List.mem_of_getElem? (i := 781) (by decide +kernel)
theorem mI86_ok : mIO mI86 := ⟨rfl, by decide +kernel, by decide +kernel, List.mem_of_getElem? (i := 139) (by decide +kernel), fun h => absurd h (by decide +kernel), fun _ => ⟨List.mem_of_getElem? (i := 784) (by decide +kernel), fun _ => List.mem_of_getElem? (i := 41) (by decide +kernel)⟩⟩
theorem mI86_code : mIC mI86 := List.mem_of_getElem? (i := 785) (by decide +kernel)
theorem mI87_ok : mIO mI87 := ⟨rfl, by decide +kernel, by decide +kernel, List.mem_of_getElem? (i := 139) (by decide +kernel), fun h => absurd h (by decide +kernel), fun _ => ⟨List.mem_of_getElem? (i := 788) (by decide +kernel), fun _ => List.mem_of_getElem? (i := 42) (by decide +kernel)⟩⟩
theorem mI87_code : mIC mI87 := List.mem_of_getElem? (i := 789) (by decide +kernel)
theorem mI88_ok : mIO mI88 := ⟨rfl, by decide +kernel, by decide +kernel, List.mem_of_getElem? (i := 139) (by decide +kernel), fun h => absurd h (by decide +kernel), fun _ => ⟨List.mem_of_getElem? (i := 792) (by decide +kernel), fun _ => List.mem_of_getElem? (i := 43) (by decide +kernel)⟩⟩
theorem mI88_code : mIC mI88 := List.mem_of_getElem? (i := 793) (by decide +kernel)
theorem mI89_ok : mIO mI89 := ⟨rfl, by decide +kernel, by decide +kernel, List.mem_of_getElem? (i := 139) (by decide +kernel), fun h => absurd h (by decide +kernel), fun _ => ⟨List.mem_of_getElem? (i := 796) (by decide +kernel), fun _ => List.mem_of_getElem? (i := 44) (by decide +kernel)⟩⟩
theorem mI89_code : mIC mI89 := List.mem_of_getElem? (i := 797) (by decide +kernel)
theorem mI90_ok : mIO mI90 := ⟨rfl, by decide +kernel, by decide +kernel, List.mem_of_getElem? (i := 139) (by decide +kernel), fun h => absurd h (by decide +kernel), fun _ => ⟨List.mem_of_getElem? (i := 800) (by decide +kernel), fun _ => List.mem_of_getElem? (i := 45) (by decide +kernel)⟩⟩
theorem mI90_code : mIC mI90 := List.mem_of_getElem? (i := 801) (by decide +kernel)
theorem mI91_ok : mIO mI91 := ⟨rfl, by decide +kernel, by decide +kernel, List.mem_of_getElem? (i := 139) (by decide +kernel), fun h => absurd h (by decide +kernel), fun _ => ⟨List.mem_of_getElem? (i := 804) (by decide +kernel), fun _ => List.mem_of_getElem? (i := 46) (by decide +kernel)⟩⟩
theorem mI91_code : mIC mI91 := List.mem_of_getElem? (i := 805) (by decide +kernel)
theorem mI92_ok : mIO mI92 := ⟨rfl, by decide +kernel, by decide +kernel, List.mem_of_getElem? (i := 139) (by decide +kernel), fun _ => List.mem_of_getElem? (i := 807) (by decide +kernel), fun h => absurd h (by decide +kernel)⟩
theorem mI92_code : mIC mI92 := List.mem_of_getElem? (i := 808) (by decide +kernel)
theorem mI93_ok : mIO mI93 := ⟨rfl, by decide +kernel, by decide +kernel, List.mem_of_getElem? (i := 139) (by decide +kernel), fun h => absurd h (by decide +kernel), fun _ => ⟨List.mem_of_getElem? (i := 811) (by decide +kernel), fun _ => List.mem_of_getElem? (i := 47) (by decide +kernel)⟩⟩
theorem mI93_code : mIC mI93 := List.mem_of_getElem? (i := 812) (by decide +kernel)
theorem mI94_ok : mIO mI94 := ⟨rfl, by decide +kernel, by decide +kernel, List.mem_of_getElem? (i := 138) (by decide +kernel), fun h => absurd h (by decide +kernel), fun _ => ⟨List.mem_of_getElem? (i := 814) (by decide +kernel), fun _ => List.mem_of_getElem? (i := 815) (by decide +kernel)⟩⟩
theorem mI94_code : mIC mI94 := List.mem_of_getElem? (i := 816) (by decide +kernel)
theorem mI95_ok : mIO mI95 := ⟨rfl, by decide +kernel, by decide +kernel, List.mem_of_getElem? (i := 138) (by decide +kernel), fun h => absurd h (by decide +kernel), fun _ => ⟨List.mem_of_getElem? (i := 818) (by decide +kernel), fun _ => List.mem_of_getElem? (i := 819) (by decide +kernel)⟩⟩
theorem mI95_code : mIC mI95 := List.mem_of_getElem? (i := 820) (by decide +kernel)
theorem mI96_ok : mIO mI96 := ⟨rfl, by decide +kernel, by decide +kernel, List.mem_of_getElem? (i := 139) (by decide +kernel), fun h => absurd h (by decide +kernel), fun _ => ⟨List.mem_of_getElem? (i := 892) (by decide +kernel), fun _ => List.mem_of_getElem? (i := 893) (by decide +kernel)⟩⟩
theorem mI96_code : mIC mI96 := List.mem_of_getElem? (i := 894) (by decide +kernel)
theorem mI97_ok : mIO mI97 := ⟨rfl, by decide +kernel, by decide +kernel, List.mem_of_getElem? (i := 141) (by decide +kernel), fun h => absurd h (by decide +kernel), fun _ => ⟨List.mem_of_getElem? (i := 912) (by decide +kernel), fun _ => List.mem_of_getElem? (i := 913) (by decide +kernel)⟩⟩
theorem mI97_code : mIC mI97 := List.mem_of_getElem? (i := 914) (by decide +kernel)
theorem mI98_ok : mIO mI98 := ⟨rfl, by decide +kernel, by decide +kernel, List.mem_of_getElem? (i := 140) (by decide +kernel), fun h => absurd h (by decide +kernel), fun _ => ⟨List.mem_of_getElem? (i := 916) (by decide +kernel), fun _ => List.mem_of_getElem? (i := 917) (by decide +kernel)⟩⟩
theorem mI98_code : mIC mI98 := List.mem_of_getElem? (i := 918) (by decide +kernel)
theorem mI99_ok : mIO mI99 := ⟨rfl, by decide +kernel, by decide +kernel, List.mem_of_getElem? (i := 140) (by decide +kernel), fun h => absurd h (by decide +kernel), fun _ => ⟨List.mem_of_getElem? (i := 921) (by decide +kernel), fun _ => List.mem_of_getElem? (i := 49) (by decide +kernel)⟩⟩
theorem mI99_code : mIC mI99 := List.mem_of_getElem? (i := 922) (by decide +kernel)
theorem mI100_ok : mIO mI100 := ⟨rfl, by decide +kernel, by decide +kernel, List.mem_of_getElem? (i := 138) (by decide +kernel), fun h => absurd h (by decide +kernel), fun _ => ⟨List.mem_of_getElem? (i := 925) (by decide +kernel), fun _ => List.mem_of_getElem? (i := 926) (by decide +kernel)⟩⟩
theorem mI100_code : mIC mI100 := List.mem_of_getElem? (i := 927) (by decide +kernel)
theorem mI101_ok : mIO mI101 := ⟨rfl, by decide +kernel, by decide +kernel, List.mem_of_getElem? (i := 141) (by decide +kernel), fun h => absurd h (by decide +kernel), fun _ => ⟨List.mem_of_getElem? (i := 930) (by decide +kernel), fun _ => List.mem_of_getElem? (i := 50) (by decide +kernel)⟩⟩
theorem mI101_code : mIC mI101 := List.mem_of_getElem? (i := 931) (by decide +kernel)
theorem mI102_ok : mIO mI102 := ⟨rfl, by decide +kernel, by decide +kernel, List.mem_of_getElem? (i := 141) (by decide +kernel), fun h => absurd h (by decide +kernel), fun _ => ⟨List.mem_of_getElem? (i := 935) (by decide +kernel), fun _ => List.mem_of_getElem? (i := 51) (by decide +kernel)⟩⟩
theorem mI102_code : mIC mI102 := List.mem_of_getElem? (i := 936) (by decide +kernel)
theorem mI103_ok : mIO mI103 := ⟨rfl, by decide +kernel, by decide +kernel, List.mem_of_getElem? (i := 140) (by decide +kernel), fun h => absurd h (by decide +kernel), fun _ => ⟨List.mem_of_getElem? (i := 939) (by decide +kernel), fun _ => List.mem_of_getElem? (i := 940) (by decide +kernel)⟩⟩
theorem mI103_code : mIC mI103 := List.mem_of_getElem? (i := 941) (by decide +kernel)
theorem mI104_ok : mIO mI104 := ⟨rfl, by decide +kernel, by decide +kernel, List.mem_of_getElem? (i := 140) (by decide +kernel), fun h => absurd h (by decide +kernel), fun _ => ⟨List.mem_of_getElem? (i := 943) (by decide +kernel), fun _ => List.mem_of_getElem? (i := 944) (by decide +kernel)⟩⟩
theorem mI104_code : mIC mI104 := List.mem_of_getElem? (i := 945) (by decide +kernel)
theorem mI105_ok : mIO mI105 := ⟨rfl, by decide +kernel, by decide +kernel, List.mem_of_getElem? (i := 140) (by decide +kernel), fun h => absurd h (by decide +kernel), fun _ => ⟨List.mem_of_getElem? (i := 948) (by decide +kernel), fun _ => List.mem_of_getElem? (i := 949) (by decide +kernel)⟩⟩
theorem mI105_code : mIC mI105 := List.mem_of_getElem? (i := 950) (by decide +kernel)
theorem mI106_ok : mIO mI106 := ⟨rfl, by decide +kernel, by decide +kernel, List.mem_of_getElem? (i := 141) (by decide +kernel), fun h => absurd h (by decide +kernel), fun _ => ⟨List.mem_of_getElem? (i := 953) (by decide +kernel), fun _ => List.mem_of_getElem? (i := 52) (by decide +kernel)⟩⟩
theorem mI106_code : mIC mI106 := List.mem_of_getElem? (i := 954) (by decide +kernel)
theorem mI107_ok : mIO mI107 := ⟨rfl, by decide +kernel, by decide +kernel, List.mem_of_getElem? (i := 140) (by decide +kernel), fun h => absurd h (by decide +kernel), fun _ => ⟨List.mem_of_getElem? (i := 957) (by decide +kernel), fun _ => List.mem_of_getElem? (i := 958) (by decide +kernel)⟩⟩
theorem mI107_code : mIC mI107 := List.mem_of_getElem? (i := 959) (by decide +kernel)
theorem mI108_ok : mIO mI108 := ⟨rfl, by decide +kernel, by decide +kernel, List.mem_of_getElem? (i := 140) (by decide +kernel), fun h => absurd h (by decide +kernel), fun _ => ⟨List.mem_of_getElem? (i := 961) (by decide +kernel), fun _ => List.mem_of_getElem? (i := 962) (by decide +kernel)⟩⟩
theorem mI108_code : mIC mI108 := List.mem_of_getElem? (i := 963) (by decide +kernel)
theorem mI109_ok : mIO mI109 := ⟨rfl, by decide +kernel, by decide +kernel, List.mem_of_getElem? (i := 140) (by decide +kernel), fun h => absurd h (by decide +kernel), fun _ => ⟨List.mem_of_getElem? (i := 966) (by decide +kernel), fun _ => List.mem_of_getElem? (i := 53) (by decide +kernel)⟩⟩
theorem mI109_code : mIC mI109 := List.mem_of_getElem? (i := 967) (by decide +kernel)
theorem mI110_ok : mIO mI110 := ⟨rfl, by decide +kernel, by decide +kernel, List.mem_of_getElem? (i := 140) (by decide +kernel), fun h => absurd h (by decide +kernel), fun _ => ⟨List.mem_of_getElem? (i := 970) (by decide +kernel), fun _ => List.mem_of_getElem? (i := 54) (by decide +kernel)⟩⟩
theorem mI110_code : mIC mI110 := List.mem_of_getElem? (i := 971) (by decide +kernel)
theorem mI111_ok : mIO mI111 := ⟨rfl, by decide +kernel, by decide +kernel, List.mem_of_getElem? (i := 140) (by decide +kernel), fun h => absurd h (by decide +kernel), fun _ => ⟨List.mem_of_getElem? (i := 975) (by decide +kernel), fun _ => List.mem_of_getElem? (i := 55) (by decide +kernel)⟩⟩
theorem mI111_code : mIC mI111 := List.mem_of_getElem? (i := 976) (by decide +kernel)
theorem mI112_ok : mIO mI112 := ⟨rfl, by decide +kernel, by decide +kernel, List.mem_of_getElem? (i := 140) (by decide +kernel), fun h => absurd h (by decide +kernel), fun _ => ⟨List.mem_of_getElem? (i := 981) (by decide +kernel), fun _ => List.mem_of_getElem? (i := 56) (by decide +kernel)⟩⟩
theorem mI112_code : mIC mI112 := List.mem_of_getElem? (i := 982) (by decide +kernel)
theorem mI113_ok : mIO mI113 := ⟨rfl, by decide +kernel, by decide +kernel, List.mem_of_getElem? (i := 140) (by decide +kernel), fun h => absurd h (by decide +kernel), fun _ => ⟨List.mem_of_getElem? (i := 985) (by decide +kernel), fun _ => List.mem_of_getElem? (i := 57) (by decide +kernel)⟩⟩
theorem mI113_code : mIC mI113 := List.mem_of_getElem? (i := 986) (by decide +kernel)
theorem mI114_ok : mIO mI114 := ⟨rfl, by decide +kernel, by decide +kernel, List.mem_of_getElem? (i := 141) (by decide +kernel), fun h => absurd h (by decide +kernel), fun _ => ⟨List.mem_of_getElem? (i := 989) (by decide +kernel), fun _ => List.mem_of_getElem? (i := 58) (by decide +kernel)⟩⟩
theorem mI114_code : mIC mI114 := List.mem_of_getElem? (i := 990) (by decide +kernel)
theorem mI115_ok : mIO mI115 := ⟨rfl, by decide +kernel, by decide +kernel, List.mem_of_getElem? (i := 141) (by decide +kernel), fun h => absurd h (by decide +kernel), fun _ => ⟨List.mem_of_getElem? (i := 994) (by decide +kernel), fun _ => List.mem_of_getElem? (i := 59) (by decide +kernel)⟩⟩
theorem mI115_code : mIC mI115 := List.mem_of_getElem? (i := 995) (by decide +kernel)
theorem mI116_ok : mIO mI116 := ⟨rfl, by decide +kernel, by decide +kernel, List.mem_of_getElem? (i := 141) (by decide +kernel), fun h => absurd h (by decide +kernel), fun _ => ⟨List.mem_of_getElem? (i := 998) (by decide +kernel), fun _ => List.mem_of_getElem? (i := 60) (by decide +kernel)⟩⟩
theorem mI116_code : mIC mI116 := List.mem_of_getElem? (i := 999) (by decide +kernel)
theorem mI117_ok : mIO mI117 := ⟨rfl, by decide +kernel, by decide +kernel, List.mem_of_getElem? (i := 140) (by decide +kernel), fun h => absurd h (by decide +kernel), fun _ => ⟨List.mem_of_getElem? (i := 1001) (by decide +kernel), fun _ => List.mem_of_getElem? (i := 1002) (by decide +kernel)⟩⟩
theorem mI117_code : mIC mI117 := List.mem_of_getElem? (i := 1003) (by decide +kernel)
theorem mI118_ok : mIO mI118 := ⟨rfl, by decide +kernel, by decide +kernel, List.mem_of_getElem? (i := 140) (by decide +kernel), fun h => absurd h (by decide +kernel), fun _ => ⟨List.mem_of_getElem? (i := 1006) (by decide +kernel), fun _ => List.mem_of_getElem? (i := 61) (by decide +kernel)⟩⟩
theorem mI118_code : mIC mI118 := List.mem_of_getElem? (i := 1007) (by decide +kernel)
theorem mI119_ok : mIO mI119 := ⟨rfl, by decide +kernel, by decide +kernel, List.mem_of_getElem? (i := 140) (by decide +kernel), fun h => absurd h (by decide +kernel), fun _ => ⟨List.mem_of_getElem? (i := 1010) (by decide +kernel), fun _ => List.mem_of_getElem? (i := 62) (by decide +kernel)⟩⟩
theorem mI119_code : mIC mI119 := List.mem_of_getElem? (i := 1011) (by decide +kernel)
theorem mI120_ok : mIO mI120 := ⟨rfl, by decide +kernel, by decide +kernel, List.mem_of_getElem? (i := 141) (by decide +kernel), fun _ => List.mem_of_getElem? (i := 1017) (by decide +kernel), fun h => absurd h (by decide +kernel)⟩
theorem mI120_code : mIC mI120 := List.mem_of_getElem? (i := 1018) (by decide +kernel)
theorem mI121_ok : mIO mI121 := ⟨rfl, by decide +kernel, by decide +kernel, List.mem_of_getElem? (i := 141) (by decide +kernel), fun _ => List.mem_of_getElem? (i := 1021) (by decide +kernel), fun h => absurd h (by decide +kernel)⟩
theorem mI121_code : mIC mI121 := List.mem_of_getElem? (i := 1022) (by decide +kernel)
theorem mI122_ok : mIO mI122 := ⟨rfl, by decide +kernel, by decide +kernel, List.mem_of_getElem? (i := 141) (by decide +kernel), fun h => absurd h (by decide +kernel), fun _ => ⟨List.mem_of_getElem? (i := 1025) (by decide +kernel), fun _ => List.mem_of_getElem? (i := 63) (by decide +kernel)⟩⟩
theorem mI122_code : mIC mI122 := List.mem_of_getElem? (i := 1026) (by decide +kernel)
theorem mI123_ok : mIO mI123 := ⟨rfl, by decide +kernel, by decide +kernel, List.mem_of_getElem? (i := 141) (by decide +kernel), fun h => absurd h (by decide +kernel), fun _ => ⟨List.mem_of_getElem? (i := 1029) (by decide +kernel), fun _ => List.mem_of_getElem? (i := 64) (by decide +kernel)⟩⟩
theorem mI123_code : mIC mI123 := List.mem_of_getElem? (i := 1030) (by decide +kernel)
theorem mI124_ok : mIO mI124 := ⟨rfl, by decide +kernel, by decide +kernel, List.mem_of_getElem? (i := 140) (by decide +kernel), fun h => absurd h (by decide +kernel), fun _ => ⟨List.mem_of_getElem? (i := 1033) (by decide +kernel), fun _ => List.mem_of_getElem? (i := 1034) (by decide +kernel)⟩⟩
theorem mI124_code : mIC mI124 := List.mem_of_getElem? (i := 1035) (by decide +kernel)
theorem mI125_ok : mIO mI125 := ⟨rfl, by decide +kernel, by decide +kernel, List.mem_of_getElem? (i := 141) (by decide +kernel), fun h => absurd h (by decide +kernel), fun _ => ⟨List.mem_of_getElem? (i := 1039) (by decide +kernel), fun _ => List.mem_of_getElem? (i := 65) (by decide +kernel)⟩⟩
theorem mI125_code : mIC mI125 := List.mem_of_getElem? (i := 1040) (by decide +kernel)
theorem mI126_ok : mIO mI126 := ⟨rfl, by decide +kernel, by decide +kernel, List.mem_of_getElem? (i := 141) (by decide +kernel), fun h => absurd h (by decide +kernel), fun _ => ⟨List.mem_of_getElem? (i := 1043) (by decide +kernel), fun _ => List.mem_of_getElem? (i := 66) (by decide +kernel)⟩⟩
theorem mI126_code : mIC mI126 := List.mem_of_getElem? (i := 1044) (by decide +kernel)
theorem mI127_ok : mIO mI127 := ⟨rfl, by decide +kernel, by decide +kernel, List.mem_of_getElem? (i := 141) (by decide +kernel), fun h => absurd h (by decide +kernel), fun _ => ⟨List.mem_of_getElem? (i := 1048) (by decide +kernel), fun _ => List.mem_of_getElem? (i := 67) (by decide +kernel)⟩⟩
theorem mI127_code : mIC mI127 := List.mem_of_getElem? (i := 1049) (by decide +kernel)
theorem mI128_ok : mIO mI128 := ⟨rfl, by decide +kernel, by decide +kernel, List.mem_of_getElem? (i := 138) (by decide +kernel), fun h => absurd h (by decide +kernel), fun _ => ⟨List.mem_of_getElem? (i := 1051) (by decide +kernel), fun _ => List.mem_of_getElem? (i := 1052) (by decide +kernel)⟩⟩
theorem mI128_code : mIC mI128 := List.mem_of_getElem? (i := 1053) (by decide +kernel)
theorem mI129_ok : mIO mI129 := ⟨rfl, by decide +kernel, by decide +kernel, List.mem_of_getElem? (i := 138) (by decide +kernel), fun h => absurd h (by decide +kernel), fun _ => ⟨List.mem_of_getElem? (i := 1055) (by decide +kernel), fun _ => List.mem_of_getElem? (i := 1056) (by decide +kernel)⟩⟩
theorem mI129_code : mIC mI129 := List.mem_of_getElem? (i := 1057) (by decide +kernel)
theorem mI130_ok : mIO mI130 := ⟨rfl, by decide +kernel, by decide +kernel, List.mem_of_getElem? (i := 138) (by decide +kernel), fun h => absurd h (by decide +kernel), fun _ => ⟨List.mem_of_getElem? (i := 1059) (by decide +kernel), fun _ => List.mem_of_getElem? (i := 1060) (by decide +kernel)⟩⟩
theorem mI130_code : mIC mI130 := List.mem_of_getElem? (i := 1061) (by decide +kernel)
theorem mI131_ok : mIO mI131 := ⟨rfl, by decide +kernel, by decide +kernel, List.mem_of_getElem? (i := 140) (by decide +kernel), fun h => absurd h (by decide +kernel), fun _ => ⟨List.mem_of_getElem? (i := 1081) (by decide +kernel), fun _ => List.mem_of_getElem? (i := 1082) (by decide +kernel)⟩⟩
theorem mI131_code : mIC mI131 := List.mem_of_getElem? (i := 1083) (by decide +kernel)
theorem mI132_ok : mIO mI132 := ⟨rfl, by decide +kernel, by decide +kernel, List.mem_of_getElem? (i := 140) (by decide +kernel), fun h => absurd h (by decide +kernel), fun _ => ⟨List.mem_of_getElem? (i := 1086) (by decide +kernel), fun _ => List.mem_of_getElem? (i := 68) (by decide +kernel)⟩⟩
theorem mI132_code : mIC mI132 := List.mem_of_getElem? (i := 1087) (by decide +kernel)
theorem mI133_ok : mIO mI133 := ⟨rfl, by decide +kernel, by decide +kernel, List.mem_of_getElem? (i := 140) (by decide +kernel), fun h => absurd h (by decide +kernel), fun _ => ⟨List.mem_of_getElem? (i := 1090) (by decide +kernel), fun _ => List.mem_of_getElem? (i := 69) (by decide +kernel)⟩⟩
theorem mI133_code : mIC mI133 := List.mem_of_getElem? (i := 1091) (by decide +kernel)
theorem mI134_ok : mIO mI134 := ⟨rfl, by decide +kernel, by decide +kernel, List.mem_of_getElem? (i := 138) (by decide +kernel), fun h => absurd h (by decide +kernel), fun _ => ⟨List.mem_of_getElem? (i := 1093) (by decide +kernel), fun _ => List.mem_of_getElem? (i := 1094) (by decide +kernel)⟩⟩
theorem mI134_code : mIC mI134 := List.mem_of_getElem? (i := 1095) (by decide +kernel)
theorem mI135_ok : mIO mI135 := ⟨rfl, by decide +kernel, by decide +kernel, List.mem_of_getElem? (i := 137) (by decide +kernel), fun h => absurd h (by decide +kernel), fun _ => ⟨List.mem_of_getElem? (i := 1097) (by decide +kernel), fun _ => List.mem_of_getElem? (i := 1098) (by decide +kernel)⟩⟩
theorem mI135_code : mIC mI135 := List.mem_of_getElem? (i := 1099) (by decide +kernel)
theorem mI136_ok : mIO mI136 := ⟨rfl, by decide +kernel, by decide +kernel, List.mem_of_getElem? (i := 142) (by decide +kernel), fun h => absurd h (by decide +kernel), fun _ => ⟨List.mem_of_getElem? (i := 1102) (by decide +kernel), fun _ => List.mem_of_getElem? (i := 1103) (by decide +kernel)⟩⟩
theorem mI136_code : mIC mI136 := List.mem_of_getElem? (i := 1104) (by decide +kernel)
theorem mI137_ok : mIO mI137 := ⟨rfl, by decide +kernel, by decide +kernel, List.mem_of_getElem? (i := 135) (by decide +kernel), fun h => absurd h (by decide +kernel), fun _ => ⟨List.mem_of_getElem? (i := 1112) (by decide +kernel), fun _ => List.mem_of_getElem? (i := 1113) (by decide +kernel)⟩⟩
theorem mI137_code : mIC mI137 := List.mem_of_getElem? (i := 1114) (by decide +kernel)
theorem mI138_ok : mIO mI138 := ⟨rfl, by decide +kernel, by decide +kernel, List.mem_of_getElem? (i := 135) (by decide +kernel), fun h => absurd h (by decide +kernel), fun _ => ⟨List.mem_of_getElem? (i := 1151) (by decide +kernel), fun _ => List.mem_of_getElem? (i := 1152) (by decide +kernel)⟩⟩
theorem mI138_code : mIC mI138 := List.mem_of_getElem? (i := 1153) (by decide +kernel)
theorem mI139_ok : mIO mI139 := ⟨rfl, by decide +kernel, by decide +kernel, List.mem_of_getElem? (i := 135) (by decide +kernel), fun h => absurd h (by decide +kernel), fun _ => ⟨List.mem_of_getElem? (i := 1158) (by decide +kernel), fun _ => List.mem_of_getElem? (i := 1159) (by decide +kernel)⟩⟩
theorem mI139_code : mIC mI139 := List.mem_of_getElem? (i := 1160) (by decide +kernel)
theorem mI140_ok : mIO mI140 := ⟨rfl, by decide +kernel, by decide +kernel, List.mem_of_getElem? (i := 152) (by decide +kernel), fun h => absurd h (by decide +kernel), fun _ => ⟨List.mem_of_getElem? (i := 1162) (by decide +kernel), fun _ => List.mem_of_getElem? (i := 1163) (by decide +kernel)⟩⟩
theorem mI140_code : mIC mI140 := List.mem_of_getElem? (i := 1164) (by decide +kernel)
theorem mI141_ok : mIO mI141 := ⟨rfl, by decide +kernel, by decide +kernel, List.mem_of_getElem? (i := 135) (by decide +kernel), fun h => absurd h (by decide +kernel), fun _ => ⟨List.mem_of_getElem? (i := 1170) (by decide +kernel), fun _ => List.mem_of_getElem? (i := 1171) (by decide +kernel)⟩⟩
theorem mI141_code : mIC mI141 := List.mem_of_getElem? (i := 1172) (by decide +kernel)
theorem mI142_ok : mIO mI142 := ⟨rfl, by decide +kernel, by decide +kernel, List.mem_of_getElem? (i := 143) (by decide +kernel), fun h => absurd h (by decide +kernel), fun _ => ⟨List.mem_of_getElem? (i := 1176) (by decide +kernel), fun h => absurd rfl h⟩⟩
theorem mI142_code : mIC mI142 := List.mem_of_getElem? (i := 1177) (by decide +kernel)
theorem mI143_ok : mIO mI143 := ⟨rfl, by decide +kernel, by decide +kernel, List.mem_of_getElem? (i := 143) (by decide +kernel), fun h => absurd h (by decide +kernel), fun _ => ⟨List.mem_of_getElem? (i := 1401) (by decide +kernel), fun _ => List.mem_of_getElem? (i := 1402) (by decide +kernel)⟩⟩
theorem mI143_code : mIC mI143 := List.mem_of_getElem? (i := 1403) (by decide +kernel)
theorem mI144_ok : mIO mI144 := ⟨rfl, by decide +kernel, by decide +kernel, List.mem_of_getElem? (i := 143) (by decide +kernel), fun h => absurd h (by decide +kernel), fun _ => ⟨List.mem_of_getElem? (i := 1405) (by decide +kernel), fun _ => List.mem_of_getElem? (i := 1406) (by decide +kernel)⟩⟩
theorem mI144_code : mIC mI144 := List.mem_of_getElem? (i := 1407) (by decide +kernel)
theorem mI145_ok : mIO mI145 := ⟨rfl, by decide +kernel, by decide +kernel, List.mem_of_getElem? (i := 143) (by decide +kernel), fun h => absurd h (by decide +kernel), fun _ => ⟨List.mem_of_getElem? (i := 1409) (by decide +kernel), fun _ => List.mem_of_getElem? (i := 1410) (by decide +kernel)⟩⟩
theorem mI145_code : mIC mI145 := List.mem_of_getElem? (i := 1411) (by decide +kernel)
theorem mI146_ok : mIO mI146 := ⟨rfl, by decide +kernel, by decide +kernel, List.mem_of_getElem? (i := 143) (by decide +kernel), fun h => absurd h (by decide +kernel), fun _ => ⟨List.mem_of_getElem? (i := 1413) (by decide +kernel), fun _ => List.mem_of_getElem? (i := 1414) (by decide +kernel)⟩⟩
theorem mI146_code : mIC mI146 := List.mem_of_getElem? (i := 1415) (by decide +kernel)
theorem mI147_ok : mIO mI147 := ⟨rfl, by decide +kernel, by decide +kernel, List.mem_of_getElem? (i := 143) (by decide +kernel), fun h => absurd h (by decide +kernel), fun _ => ⟨List.mem_of_getElem? (i := 1418) (by decide +kernel), fun _ => List.mem_of_getElem? (i := 70) (by decide +kernel)⟩⟩
theorem mI147_code : mIC mI147 := List.mem_of_getElem? (i := 1419) (by decide +kernel)
theorem mI148_ok : mIO mI148 := ⟨rfl, by decide +kernel, by decide +kernel, List.mem_of_getElem? (i := 143) (by decide +kernel), fun h => absurd h (by decide +kernel), fun _ => ⟨List.mem_of_getElem? (i := 1422) (by decide +kernel), fun _ => List.mem_of_getElem? (i := 71) (by decide +kernel)⟩⟩
theorem mI148_code : mIC mI148 := List.mem_of_getElem? (i := 1423) (by decide +kernel)
theorem mI149_ok : mIO mI149 := ⟨rfl, by decide +kernel, by decide +kernel, List.mem_of_getElem? (i := 143) (by decide +kernel), fun h => absurd h (by decide +kernel), fun _ => ⟨List.mem_of_getElem? (i := 1426) (by decide +kernel), fun _ => List.mem_of_getElem? (i := 72) (by decide +kernel)⟩⟩
theorem mI149_code : mIC mI149 := List.mem_of_getElem? (i := 1427) (by decide +kernel)
theorem mI150_ok : mIO mI150 := ⟨rfl, by decide +kernel, by decide +kernel, List.mem_of_getElem? (i := 143) (by decide +kernel), fun h => absurd h (by decide +kernel), fun _ => ⟨List.mem_of_getElem? (i := 1430) (by decide +kernel), fun _ => List.mem_of_getElem? (i := 73) (by decide +kernel)⟩⟩
theorem mI150_code : mIC mI150 := List.mem_of_getElem? (i := 1431) (by decide +kernel)
theorem mI151_ok : mIO mI151 := ⟨rfl, by decide +kernel, by decide +kernel, List.mem_of_getElem? (i := 143) (by decide +kernel), fun h => absurd h (by decide +kernel), fun _ => ⟨List.mem_of_getElem? (i := 1434) (by decide +kernel), fun _ => List.mem_of_getElem? (i := 74) (by decide +kernel)⟩⟩
theorem mI151_code : mIC mI151 := List.mem_of_getElem? (i := 1435) (by decide +kernel)
theorem mI152_ok : mIO mI152 := ⟨rfl, by decide +kernel, by decide +kernel, List.mem_of_getElem? (i := 143) (by decide +kernel), fun h => absurd h (by decide +kernel), fun _ => ⟨List.mem_of_getElem? (i := 1438) (by decide +kernel), fun _ => List.mem_of_getElem? (i := 75) (by decide +kernel)⟩⟩
theorem mI152_code : mIC mI152 := List.mem_of_getElem? (i := 1439) (by decide +kernel)
theorem mI153_ok : mIO mI153 := ⟨rfl, by decide +kernel, by decide +kernel, List.mem_of_getElem? (i := 143) (by decide +kernel), fun h => absurd h (by decide +kernel), fun _ => ⟨List.mem_of_getElem? (i := 1442) (by decide +kernel), fun _ => List.mem_of_getElem? (i := 76) (by decide +kernel)⟩⟩
theorem mI153_code : mIC mI153 := List.mem_of_getElem? (i := 1443) (by decide +kernel)
theorem mI154_ok : mIO mI154 := ⟨rfl, by decide +kernel, by decide +kernel, List.mem_of_getElem? (i := 143) (by decide +kernel), fun h => absurd h (by decide +kernel), fun _ => ⟨List.mem_of_getElem? (i := 1446) (by decide +kernel), fun _ => List.mem_of_getElem? (i := 77) (by decide +kernel)⟩⟩
theorem mI154_code : mIC mI154 := List.mem_of_getElem? (i := 1447) (by decide +kernel)
theorem mI155_ok : mIO mI155 := ⟨rfl, by decide +kernel, by decide +kernel, List.mem_of_getElem? (i := 143) (by decide +kernel), fun _ => List.mem_of_getElem? (i := 1449) (by decide +kernel), fun h => absurd h (by decide +kernel)⟩
theorem mI155_code : mIC mI155 := List.mem_of_getElem? (i := 1450) (by decide +kernel)
theorem mI156_ok : mIO mI156 := ⟨rfl, by decide +kernel, by decide +kernel, List.mem_of_getElem? (i := 143) (by decide +kernel), fun h => absurd h (by decide +kernel), fun _ => ⟨List.mem_of_getElem? (i := 1453) (by decide +kernel), fun _ => List.mem_of_getElem? (i := 78) (by decide +kernel)⟩⟩
theorem mI156_code : mIC mI156 := List.mem_of_getElem? (i := 1454) (by decide +kernel)
theorem mI157_ok : mIO mI157 := ⟨rfl, by decide +kernel, by decide +kernel, List.mem_of_getElem? (i := 143) (by decide +kernel), fun h => absurd h (by decide +kernel), fun _ => ⟨List.mem_of_getElem? (i := 1457) (by decide +kernel), fun _ => List.mem_of_getElem? (i := 79) (by decide +kernel)⟩⟩
theorem mI157_code : mIC mI157 := List.mem_of_getElem? (i := 1458) (by decide +kernel)
theorem mI158_ok : mIO mI158 := ⟨rfl, by decide +kernel, by decide +kernel, List.mem_of_getElem? (i := 143) (by decide +kernel), fun h => absurd h (by decide +kernel), fun _ => ⟨List.mem_of_getElem? (i := 1461) (by decide +kernel), fun _ => List.mem_of_getElem? (i := 80) (by decide +kernel)⟩⟩
theorem mI158_code : mIC mI158 := List.mem_of_getElem? (i := 1462) (by decide +kernel)
theorem mI159_ok : mIO mI159 := ⟨rfl, by decide +kernel, by decide +kernel, List.mem_of_getElem? (i := 143) (by decide +kernel), fun h => absurd h (by decide +kernel), fun _ => ⟨List.mem_of_getElem? (i := 1465) (by decide +kernel), fun _ => List.mem_of_getElem? (i := 81) (by decide +kernel)⟩⟩
theorem mI159_code : mIC mI159 := List.mem_of_getElem? (i := 1466) (by decide +kernel)
theorem mI160_ok : mIO mI160 := ⟨rfl, by decide +kernel, by decide +kernel, List.mem_of_getElem? (i := 143) (by decide +kernel), fun h => absurd h (by decide +kernel), fun _ => ⟨List.mem_of_getElem? (i := 1469) (by decide +kernel), fun _ => List.mem_of_getElem? (i := 82) (by decide +kernel)⟩⟩
theorem mI160_code : mIC mI160 := List.mem_of_getElem? (i := 1470) (by decide +kernel)
theorem mI161_ok : mIO mI161 := ⟨rfl, by decide +kernel, by decide +kernel, List.mem_of_getElem? (i := 143) (by decide +kernel), fun h => absurd h (by decide +kernel), fun _ => ⟨List.mem_of_getElem? (i := 1474) (by decide +kernel), fun _ => List.mem_of_getElem? (i := 83) (by decide +kernel)⟩⟩
theorem mI161_code : mIC mI161 := List.mem_of_getElem? (i := 1475) (by decide +kernel)
theorem mI162_ok : mIO mI162 := ⟨rfl, by decide +kernel, by decide +kernel, List.mem_of_getElem? (i := 143) (by decide +kernel), fun h => absurd h (by decide +kernel), fun _ => ⟨List.mem_of_getElem? (i := 1478) (by decide +kernel), fun _ => List.mem_of_getElem? (i := 84) (by decide +kernel)⟩⟩
theorem mI162_code : mIC mI162 := List.mem_of_getElem? (i := 1479) (by decide +kernel)
theorem mI163_ok : mIO mI163 := ⟨rfl, by decide +kernel, by decide +kernel, List.mem_of_getElem? (i := 143) (by decide +kernel), fun h => absurd h (by decide +kernel), fun _ => ⟨List.mem_of_getElem? (i := 1482) (by decide +kernel), fun _ => List.mem_of_getElem? (i := 85) (by decide +kernel)⟩⟩
theorem mI163_code : mIC mI163 := List.mem_of_getElem? (i := 1483) (by decide +kernel)
theorem mI164_ok : mIO mI164 := ⟨rfl, by decide +kernel, by decide +kernel, List.mem_of_getElem? (i := 143) (by decide +kernel), fun _ => List.mem_of_getElem? (i := 1485) (by decide +kernel), fun h => absurd h (by decide +kernel)⟩
theorem mI164_code : mIC mI164 := List.mem_of_getElem? (i := 1486) (by decide +kernel)
theorem mI165_ok : mIO mI165 := ⟨rfl, by decide +kernel, by decide +kernel, List.mem_of_getElem? (i := 143) (by decide +kernel), fun _ => List.mem_of_getElem? (i := 1488) (by decide +kernel), fun h => absurd h (by decide +kernel)⟩
theorem mI165_code : mIC mI165 := List.mem_of_getElem? (i := 1489) (by decide +kernel)
theorem mI166_ok : mIO mI166 := ⟨rfl, by decide +kernel, by decide +kernel, List.mem_of_getElem? (i := 143) (by decide +kernel), fun h => absurd h (by decide +kernel), fun _ => ⟨List.mem_of_getElem? (i := 1492) (by decide +kernel), fun _ => List.mem_of_getElem? (i := 86) (by decide +kernel)⟩⟩
theorem mI166_code : mIC mI166 := List.mem_of_getElem? (i := 1493) (by decide +kernel)
theorem mI167_ok : mIO mI167 := ⟨rfl, by decide +kernel, by decide +kernel, List.mem_of_getElem? (i := 143) (by decide +kernel), fun h => absurd h (by decide +kernel), fun _ => ⟨List.mem_of_getElem? (i := 1496) (by decide +kernel), fun _ => List.mem_of_getElem? (i := 87) (by decide +kernel)⟩⟩
theorem mI167_code : mIC mI167 := List.mem_of_getElem? (i := 1497) (by decide +kernel)
theorem mI168_ok : mIO mI168 := ⟨rfl, by decide +kernel, by decide +kernel, List.mem_of_getElem? (i := 143) (by decide +kernel), fun h => absurd h (by decide +kernel), fun _ => ⟨List.mem_of_getElem? (i := 1500) (by decide +kernel), fun _ => List.mem_of_getElem? (i := 88) (by decide +kernel)⟩⟩
theorem mI168_code : mIC mI168 := List.mem_of_getElem? (i := 1501) (by decide +kernel)
theorem mI169_ok : mIO mI169 := ⟨rfl, by decide +kernel, by decide +kernel, List.mem_of_getElem? (i := 143) (by decide +kernel), fun h => absurd h (by decide +kernel), fun _ => ⟨List.mem_of_getElem? (i := 1504) (by decide +kernel), fun _ => List.mem_of_getElem? (i := 89) (by decide +kernel)⟩⟩
theorem mI169_code : mIC mI169 := List.mem_of_getElem? (i := 1505) (by decide +kernel)
theorem mI170_ok : mIO mI170 := ⟨rfl, by decide +kernel, by decide +kernel, List.mem_of_getElem? (i := 143) (by decide +kernel), fun h => absurd h (by decide +kernel), fun _ => ⟨List.mem_of_getElem? (i := 1508) (by decide +kernel), fun _ => List.mem_of_getElem? (i := 90) (by decide +kernel)⟩⟩
theorem mI170_code : mIC mI170 := List.mem_of_getElem? (i := 1509) (by decide +kernel)
theorem mI171_ok : mIO mI171 := ⟨rfl, by decide +kernel, by decide +kernel, List.mem_of_getElem? (i := 143) (by decide +kernel), fun h => absurd h (by decide +kernel), fun _ => ⟨List.mem_of_getElem? (i := 1512) (by decide +kernel), fun _ => List.mem_of_getElem? (i := 91) (by decide +kernel)⟩⟩
theorem mI171_code : mIC mI171 := List.mem_of_getElem? (i := 1513) (by decide +kernel)
theorem mI172_ok : mIO mI172 := ⟨rfl, by decide +kernel, by decide +kernel, List.mem_of_getElem? (i := 143) (by decide +kernel), fun h => absurd h (by decide +kernel), fun _ => ⟨List.mem_of_getElem? (i := 1516) (by decide +kernel), fun _ => List.mem_of_getElem? (i := 92) (by decide +kernel)⟩⟩
theorem mI172_code : mIC mI172 := List.mem_of_getElem? (i := 1517) (by decide +kernel)
theorem mI173_ok : mIO mI173 := ⟨rfl, by decide +kernel, by decide +kernel, List.mem_of_getElem? (i := 143) (by decide +kernel), fun h => absurd h (by decide +kernel), fun _ => ⟨List.mem_of_getElem? (i := 1520) (by decide +kernel), fun _ => List.mem_of_getElem? (i := 93) (by decide +kernel)⟩⟩
theorem mI173_code : mIC mI173 := List.mem_of_getElem? (i := 1521) (by decide +kernel)
theorem mI174_ok : mIO mI174 := ⟨rfl, by decide +kernel, by decide +kernel, List.mem_of_getElem? (i := 143) (by decide +kernel), fun h => absurd h (by decide +kernel), fun _ => ⟨List.mem_of_getElem? (i := 1524) (by decide +kernel), fun _ => List.mem_of_getElem? (i := 94) (by decide +kernel)⟩⟩
theorem mI174_code : mIC mI174 := List.mem_of_getElem? (i := 1525) (by decide +kernel)
theorem mI175_ok : mIO mI175 := ⟨rfl, by decide +kernel, by decide +kernel, List.mem_of_getElem? (i := 143) (by decide +kernel), fun h => absurd h (by decide +kernel), fun _ => ⟨List.mem_of_getElem? (i := 1528) (by decide +kernel), fun _ => List.mem_of_getElem? (i := 95) (by decide +kernel)⟩⟩
theorem mI175_code : mIC mI175 := List.mem_of_getElem? (i := 1529) (by decide +kernel)
theorem mI176_ok : mIO mI176 := ⟨rfl, by decide +kernel, by decide +kernel, List.mem_of_getElem? (i := 143) (by decide +kernel), fun h => absurd h (by decide +kernel), fun _ => ⟨List.mem_of_getElem? (i := 1532) (by decide +kernel), fun _ => List.mem_of_getElem? (i := 96) (by decide +kernel)⟩⟩
theorem mI176_code : mIC mI176 := List.mem_of_getElem? (i := 1533) (by decide +kernel)
theorem mI177_ok : mIO mI177 := ⟨rfl, by decide +kernel, by decide +kernel, List.mem_of_getElem? (i := 143) (by decide +kernel), fun h => absurd h (by decide +kernel), fun _ => ⟨List.mem_of_getElem? (i := 1536) (by decide +kernel), fun _ => List.mem_of_getElem? (i := 97) (by decide +kernel)⟩⟩
theorem mI177_code : mIC mI177 := List.mem_of_getElem? (i := 1537) (by decide +kernel)
theorem mI178_ok : mIO mI178 := ⟨rfl, by decide +kernel, by decide +kernel, List.mem_of_getElem? (i := 143) (by decide +kernel), fun h => absurd h (by decide +kernel), fun _ => ⟨List.mem_of_getElem? (i := 1540) (by decide +kernel), fun _ => List.mem_of_getElem? (i := 98) (by decide +kernel)⟩⟩
theorem mI178_code : mIC mI178 := List.mem_of_getElem? (i := 1541) (by decide +kernel)
theorem mI179_ok : mIO mI179 := ⟨rfl, by decide +kernel, by decide +kernel, List.mem_of_getElem? (i := 143) (by decide +kernel), fun h => absurd h (by decide +kernel), fun _ => ⟨List.mem_of_getElem? (i := 1544) (by decide +kernel), fun _ => List.mem_of_getElem? (i := 99) (by decide +kernel)⟩⟩
theorem mI179_code : mIC mI179 := List.mem_of_getElem? (i := 1545) (by decide +kernel)
theorem mI180_ok : mIO mI180 := ⟨rfl, by decide +kernel, by decide +kernel, List.mem_of_getElem? (i := 143) (by decide +kernel), fun h => absurd h (by decide +kernel), fun _ => ⟨List.mem_of_getElem? (i := 1548) (by decide +kernel), fun _ => List.mem_of_getElem? (i := 100) (by decide +kernel)⟩⟩
theorem mI180_code : mIC mI180 := List.mem_of_getElem? (i := 1549) (by decide +kernel)
theorem mI181_ok : mIO mI181 := ⟨rfl, by decide +kernel, by decide +kernel, List.mem_of_getElem? (i := 143) (by decide +kernel), fun h => absurd h (by decide +kernel), fun _ => ⟨List.mem_of_getElem? (i := 1552) (by decide +kernel), fun _ => List.mem_of_getElem? (i := 101) (by decide +kernel)⟩⟩
theorem mI181_code : mIC mI181 := List.mem_of_getElem? (i := 1553) (by decide +kernel)
theorem mI182_ok : mIO mI182 := ⟨rfl, by decide +kernel, by decide +kernel, List.mem_of_getElem? (i := 143) (by decide +kernel), fun h => absurd h (by decide +kernel), fun _ => ⟨List.mem_of_getElem? (i := 1556) (by decide +kernel), fun _ => List.mem_of_getElem? (i := 102) (by decide +kernel)⟩⟩
theorem mI182_code : mIC mI182 := List.mem_of_getElem? (i := 1557) (by decide +kernel)
theorem mI183_ok : mIO mI183 := ⟨rfl, by decide +kernel, by decide +kernel, List.mem_of_getElem? (i := 143) (by decide +kernel), fun h => absurd h (by decide +kernel), fun _ => ⟨List.mem_of_getElem? (i := 1560) (by decide +kernel), fun _ => List.mem_of_getElem? (i := 103) (by decide +kernel)⟩⟩
theorem mI183_code : mIC mI183 := List.mem_of_getElem? (i := 1561) (by decide +kernel)
theorem mI184_ok : mIO mI184 := ⟨rfl, by decide +kernel, by decide +kernel, List.mem_of_getElem? (i := 143) (by decide +kernel), fun h => absurd h (by decide +kernel), fun _ => ⟨List.mem_of_getElem? (i := 1564) (by decide +kernel), fun _ => List.mem_of_getElem? (i := 104) (by decide +kernel)⟩⟩
theorem mI184_code : mIC mI184 := List.mem_of_getElem? (i := 1565) (by decide +kernel)
theorem mI185_ok : mIO mI185 := ⟨rfl, by decide +kernel, by decide +kernel, List.mem_of_getElem? (i := 143) (by decide +kernel), fun h => absurd h (by decide +kernel), fun _ => ⟨List.mem_of_getElem? (i := 1568) (by decide +kernel), fun _ => List.mem_of_getElem? (i := 105) (by decide +kernel)⟩⟩
theorem mI185_code : mIC mI185 := List.mem_of_getElem? (i := 1569) (by decide +kernel)
theorem mI186_ok : mIO mI186 := ⟨rfl, by decide +kernel, by decide +kernel, List.mem_of_getElem? (i := 143) (by decide +kernel), fun h => absurd h (by decide +kernel), fun _ => ⟨List.mem_of_getElem? (i := 1572) (by decide +kernel), fun _ => List.mem_of_getElem? (i := 106) (by decide +kernel)⟩⟩
theorem mI186_code : mIC mI186 := List.mem_of_getElem? (i := 1573) (by decide +kernel)
theorem mI187_ok : mIO mI187 := ⟨rfl, by decide +kernel, by decide +kernel, List.mem_of_getElem? (i := 143) (by decide +kernel), fun h => absurd h (by decide +kernel), fun _ => ⟨List.mem_of_getElem? (i := 1576) (by decide +kernel), fun _ => List.mem_of_getElem? (i := 107) (by decide +kernel)⟩⟩
theorem mI187_code : mIC mI187 := List.mem_of_getElem? (i := 1577) (by decide +kernel)
theorem mI188_ok : mIO mI188 := ⟨rfl, by decide +kernel, by decide +kernel, List.mem_of_getElem? (i := 143) (by decide +kernel), fun h => absurd h (by decide +kernel), fun _ => ⟨List.mem_of_getElem? (i := 1580) (by decide +kernel), fun _ => List.mem_of_getElem? (i := 108) (by decide +kernel)⟩⟩
theorem mI188_code : mIC mI188 := List.mem_of_getElem? (i := 1581) (by decide +kernel)
theorem mI189_ok : mIO mI189 := ⟨rfl, by decide +kernel, by decide +kernel, List.mem_of_getElem? (i := 143) (by decide +kernel), fun h => absurd h (by decide +kernel), fun _ => ⟨List.mem_of_getElem? (i := 1584) (by decide +kernel), fun _ => List.mem_of_getElem? (i := 109) (by decide +kernel)⟩⟩
theorem mI189_code : mIC mI189 := List.mem_of_getElem? (i := 1585) (by decide +kernel)
theorem mI190_ok : mIO mI190 := ⟨rfl, by decide +kernel, by decide +kernel, List.mem_of_getElem? (i := 143) (by decide +kernel), fun h => absurd h (by decide +kernel), fun _ => ⟨List.mem_of_getElem? (i := 1588) (by decide +kernel), fun _ => List.mem_of_getElem? (i := 110) (by decide +kernel)⟩⟩
theorem mI190_code : mIC mI190 := List.mem_of_getElem? (i := 1589) (by decide +kernel)
theorem mI191_ok : mIO mI191 := ⟨rfl, by decide +kernel, by decide +kernel, List.mem_of_getElem? (i := 143) (by decide +kernel), fun h => absurd h (by decide +kernel), fun _ => ⟨List.mem_of_getElem? (i := 1592) (by decide +kernel), fun _ => List.mem_of_getElem? (i := 111) (by decide +kernel)⟩⟩
theorem mI191_code : mIC mI191 := List.mem_of_getElem? (i := 1593) (by decide +kernel)
theorem mI192_ok : mIO mI192 := ⟨rfl, by decide +kernel, by decide +kernel, List.mem_of_getElem? (i := 143) (by decide +kernel), fun h => absurd h (by decide +kernel), fun _ => ⟨List.mem_of_getElem? (i := 1596) (by decide +kernel), fun _ => List.mem_of_getElem? (i := 112) (by decide +kernel)⟩⟩
theorem mI192_code : mIC mI192 := List.mem_of_getElem? (i := 1597) (by decide +kernel)
theorem mI193_ok : mIO mI193 := ⟨rfl, by decide +kernel, by decide +kernel, List.mem_of_getElem? (i := 143) (by decide +kernel), fun h => absurd h (by decide +kernel), fun _ => ⟨List.mem_of_getElem? (i := 1600) (by decide +kernel), fun _ => List.mem_of_getElem? (i := 113) (by decide +kernel)⟩⟩
theorem mI193_code : mIC mI193 := List.mem_of_getElem? (i := 1601) (by decide +kernel)
theorem mI194_ok : mIO mI194 := ⟨rfl, by decide +kernel, by decide +kernel, List.mem_of_getElem? (i := 143) (by decide +kernel), fun h => absurd h (by decide +kernel), fun _ => ⟨List.mem_of_getElem? (i := 1604) (by decide +kernel), fun _ => List.mem_of_getElem? (i := 114) (by decide +kernel)⟩⟩
theorem mI194_code : mIC mI194 := List.mem_of_getElem? (i := 1605) (by decide +kernel)
theorem mI195_ok : mIO mI195 := ⟨rfl, by decide +kernel, by decide +kernel, List.mem_of_getElem? (i := 143) (by decide +kernel), fun h => absurd h (by decide +kernel), fun _ => ⟨List.mem_of_getElem? (i := 1608) (by decide +kernel), fun _ => List.mem_of_getElem? (i := 115) (by decide +kernel)⟩⟩
theorem mI195_code : mIC mI195 := List.mem_of_getElem? (i := 1609) (by decide +kernel)
theorem mI196_ok : mIO mI196 := ⟨rfl, by decide +kernel, by decide +kernel, List.mem_of_getElem? (i := 143) (by decide +kernel), fun h => absurd h (by decide +kernel), fun _ => ⟨List.mem_of_getElem? (i := 1612) (by decide +kernel), fun _ => List.mem_of_getElem? (i := 116) (by decide +kernel)⟩⟩
theorem mI196_code : mIC mI196 := List.mem_of_getElem? (i := 1613) (by decide +kernel)
theorem mI197_ok : mIO mI197 := ⟨rfl, by decide +kernel, by decide +kernel, List.mem_of_getElem? (i := 143) (by decide +kernel), fun h => absurd h (by decide +kernel), fun _ => ⟨List.mem_of_getElem? (i := 1615) (by decide +kernel), fun _ => List.mem_of_getElem? (i := 1616) (by decide +kernel)⟩⟩
theorem mI197_code : mIC mI197 := List.mem_of_getElem? (i := 1617) (by decide +kernel)
theorem mI198_ok : mIO mI198 := ⟨rfl, by decide +kernel, by decide +kernel, List.mem_of_getElem? (i := 143) (by decide +kernel), fun h => absurd h (by decide +kernel), fun _ => ⟨List.mem_of_getElem? (i := 1619) (by decide +kernel), fun _ => List.mem_of_getElem? (i := 1620) (by decide +kernel)⟩⟩
theorem mI198_code : mIC mI198 := List.mem_of_getElem? (i := 1621) (by decide +kernel)
theorem mI199_ok : mIO mI199 := ⟨rfl, by decide +kernel, by decide +kernel, List.mem_of_getElem? (i := 143) (by decide +kernel), fun h => absurd h (by decide +kernel), fun _ => ⟨List.mem_of_getElem? (i := 1624) (by decide +kernel), fun _ => List.mem_of_getElem? (i := 117) (by decide +kernel)⟩⟩
theorem mI199_code : mIC mI199 := List.mem_of_getElem? (i := 1625) (by decide +kernel)
theorem mI200_ok : mIO mI200 := ⟨rfl, by decide +kernel, by decide +kernel, List.mem_of_getElem? (i := 143) (by decide +kernel), fun _ => List.mem_of_getElem? (i := 1627) (by decide +kernel), fun h => absurd h (by decide +kernel)⟩
theorem mI200_code : mIC mI200 := List.mem_of_getElem? (i := 1628) (by decide +kernel)
theorem mI201_ok : mIO mI201 := ⟨rfl, by decide +kernel, by decide +kernel, List.mem_of_getElem? (i := 143) (by decide +kernel), fun h => absurd h (by decide +kernel), fun _ => ⟨List.mem_of_getElem? (i := 1631) (by decide +kernel), fun _ => List.mem_of_getElem? (i := 118) (by decide +kernel)⟩⟩
theorem mI201_code : mIC mI201 := List.mem_of_getElem? (i := 1632) (by decide +kernel)
theorem mI202_ok : mIO mI202 := ⟨rfl, by decide +kernel, by decide +kernel, List.mem_of_getElem? (i := 143) (by decide +kernel), fun h => absurd h (by decide +kernel), fun _ => ⟨List.mem_of_getElem? (i := 1635) (by decide +kernel), fun _ => List.mem_of_getElem? (i := 119) (by decide +kernel)⟩⟩
theorem mI202_code : mIC mI202 := List.mem_of_getElem? (i := 1636) (by decide +kernel)
theorem mI203_ok : mIO mI203 := ⟨rfl, by decide +kernel, by decide +kernel, List.mem_of_getElem? (i := 143) (by decide +kernel), fun h => absurd h (by decide +kernel), fun _ => ⟨List.mem_of_getElem? (i := 1639) (by decide +kernel), fun _ => List.mem_of_getElem? (i := 120) (by decide +kernel)⟩⟩
theorem mI203_code : mIC mI203 := List.mem_of_getElem? (i := 1640) (by decide +kernel)
theorem mI204_ok : mIO mI204 := ⟨rfl, by decide +kernel, by decide +kernel, List.mem_of_getElem? (i := 143) (by decide +kernel), fun h => absurd h (by decide +kernel), fun _ => ⟨List.mem_of_getElem? (i := 1644) (by decide +kernel), fun _ => List.mem_of_getElem? (i := 121) (by decide +kernel)⟩⟩
theorem mI204_code : mIC mI204 := List.mem_of_getElem? (i := 1645) (by decide +kernel)
theorem mI205_ok : mIO mI205 := ⟨rfl, by decide +kernel, by decide +kernel, List.mem_of_getElem? (i := 143) (by decide +kernel), fun h => absurd h (by decide +kernel), fun _ => ⟨List.mem_of_getElem? (i := 1648) (by decide +kernel), fun _ => List.mem_of_getElem? (i := 122) (by decide +kernel)⟩⟩
theorem mI205_code : mIC mI205 := List.mem_of_getElem? (i := 1649) (by decide +kernel)
theorem mI206_ok : mIO mI206 := ⟨rfl, by decide +kernel, by decide +kernel, List.mem_of_getElem? (i := 143) (by decide +kernel), fun h => absurd h (by decide +kernel), fun _ => ⟨List.mem_of_getElem? (i := 1653) (by decide +kernel), fun _ => List.mem_of_getElem? (i := 123) (by decide +kernel)⟩⟩
theorem mI206_code : mIC mI206 := List.mem_of_getElem? (i := 1654) (by decide +kernel)
theorem mI207_ok : mIO mI207 := ⟨rfl, by decide +kernel, by decide +kernel, List.mem_of_getElem? (i := 143) (by decide +kernel), fun _ => List.mem_of_getElem? (i := 1656) (by decide +kernel), fun h => absurd h (by decide +kernel)⟩
theorem mI207_code : mIC mI207 := List.mem_of_getElem? (i := 1657) (by decide +kernel)
theorem mI208_ok : mIO mI208 := ⟨rfl, by decide +kernel, by decide +kernel, List.mem_of_getElem? (i := 143) (by decide +kernel), fun _ => List.mem_of_getElem? (i := 1659) (by decide +kernel), fun h => absurd h (by decide +kernel)⟩
theorem mI208_code : mIC mI208 := List.mem_of_getElem? (i := 1660) (by decide +kernel)
theorem mI209_ok : mIO mI209 := ⟨rfl, by decide +kernel, by decide +kernel, List.mem_of_getElem? (i := 143) (by decide +kernel), fun h => absurd h (by decide +kernel), fun _ => ⟨List.mem_of_getElem? (i := 1663) (by decide +kernel), fun _ => List.mem_of_getElem? (i := 124) (by decide +kernel)⟩⟩
theorem mI209_code : mIC mI209 := List.mem_of_getElem? (i := 1664) (by decide +kernel)
theorem mI210_ok : mIO mI210 := ⟨rfl, by decide +kernel, by decide +kernel, List.mem_of_getElem? (i := 143) (by decide +kernel), fun h => absurd h (by decide +kernel), fun _ => ⟨List.mem_of_getElem? (i := 1667) (by decide +kernel), fun _ => List.mem_of_getElem? (i := 125) (by decide +kernel)⟩⟩
theorem mI210_code : mIC mI210 := List.mem_of_getElem? (i := 1668) (by decide +kernel)
theorem mI211_ok : mIO mI211 := ⟨rfl, by decide +kernel, by decide +kernel, List.mem_of_getElem? (i := 143) (by decide +kernel), fun h => absurd h (by decide +kernel), fun _ => ⟨List.mem_of_getElem? (i := 1672) (by decide +kernel), fun _ => List.mem_of_getElem? (i := 126) (by decide +kernel)⟩⟩
theorem mI211_code : mIC mI211 := List.mem_of_getElem? (i := 1673) (by decide +kernel)
theorem mI212_ok : mIO mI212 := ⟨rfl, by decide +kernel, by decide +kernel, List.mem_of_getElem? (i := 143) (by decide +kernel), fun h => absurd h (by decide +kernel), fun _ => ⟨List.mem_of_getElem? (i := 1676) (by decide +kernel), fun _ => List.mem_of_getElem? (i := 127) (by decide +kernel)⟩⟩
theorem mI212_code : mIC mI212 := List.mem_of_getElem? (i := 1677) (by decide +kernel)
theorem mI213_ok : mIO mI213 := ⟨rfl, by decide +kernel, by decide +kernel, List.mem_of_getElem? (i := 143) (by decide +kernel), fun h => absurd h (by decide +kernel), fun _ => ⟨List.mem_of_getElem? (i := 1680) (by decide +kernel), fun _ => List.mem_of_getElem? (i := 128) (by decide +kernel)⟩⟩
theorem mI213_code : mIC mI213 := List.mem_of_getElem? (i := 1681) (by decide +kernel)
theorem mI214_ok : mIO mI214 := ⟨rfl, by decide +kernel, by decide +kernel, List.mem_of_getElem? (i := 143) (by decide +kernel), fun h => absurd h (by decide +kernel), fun _ => ⟨List.mem_of_getElem? (i := 1686) (by decide +kernel), fun _ => List.mem_of_getElem? (i := 129) (by decide +kernel)⟩⟩
theorem mI214_code : mIC mI214 := List.mem_of_getElem? (i := 1687) (by decide +kernel)
theorem mI215_ok : mIO mI215 := ⟨rfl, by decide +kernel, by decide +kernel, List.mem_of_getElem? (i := 143) (by decide +kernel), fun h => absurd h (by decide +kernel), fun _ => ⟨List.mem_of_getElem? (i := 1690) (by decide +kernel), fun _ => List.mem_of_getElem? (i := 130) (by decide +kernel)⟩⟩
theorem mI215_code : mIC mI215 := List.mem_of_getElem? (i := 1691) (by decide +kernel)
theorem mI216_ok : mIO mI216 := ⟨rfl, by decide +kernel, by decide +kernel, List.mem_of_getElem? (i := 143) (by decide +kernel), fun h => absurd h (by decide +kernel), fun _ => ⟨List.mem_of_getElem? (i := 1695) (by decide +kernel), fun _ => List.mem_of_getElem? (i := 131) (by decide +kernel)⟩⟩
theorem mI216_code : mIC mI216 := List.mem_of_getElem? (i := 1696) (by decide +kernel)
theorem mI217_ok : mIO mI217 := ⟨rfl, by decide +kernel, by decide +kernel, List.mem_of_getElem? (i := 143) (by decide +kernel), fun h => absurd h (by decide +kernel), fun _ => ⟨List.mem_of_getElem? (i := 1699) (by decide +kernel), fun _ => List.mem_of_getElem? (i := 132) (by decide +kernel)⟩⟩
theorem mI217_code : mIC mI217 := List.mem_of_getElem? (i := 1700) (by decide +kernel)
theorem mI218_ok : mIO mI218 := ⟨rfl, by decide +kernel, by decide +kernel, List.mem_of_getElem? (i := 143) (by decide +kernel), fun h => absurd h (by decide +kernel), fun _ => ⟨List.mem_of_getElem? (i := 1702) (by decide +kernel), fun _ => List.mem_of_getElem? (i := 1703) (by decide +kernel)⟩⟩
theorem mI218_code : mIC mI218 := List.mem_of_getElem? (i := 1704) (by decide +kernel)
theorem mI219_ok : mIO mI219 := ⟨rfl, by decide +kernel, by decide +kernel, List.mem_of_getElem? (i := 143) (by decide +kernel), fun h => absurd h (by decide +kernel), fun _ => ⟨List.mem_of_getElem? (i := 1706) (by decide +kernel), fun _ => List.mem_of_getElem? (i := 1707) (by decide +kernel)⟩⟩
theorem mI219_code : mIC mI219 := List.mem_of_getElem? (i := 1708) (by decide +kernel)
theorem mI220_ok : mIO mI220 := ⟨rfl, by decide +kernel, by decide +kernel, List.mem_of_getElem? (i := 143) (by decide +kernel), fun h => absurd h (by decide +kernel), fun _ => ⟨List.mem_of_getElem? (i := 1711) (by decide +kernel), fun _ => List.mem_of_getElem? (i := 133) (by decide +kernel)⟩⟩
theorem mI220_code : mIC mI220 := List.mem_of_getElem? (i := 1712) (by decide +kernel)
theorem mI221_ok : mIO mI221 := ⟨rfl, by decide +kernel, by decide +kernel, List.mem_of_getElem? (i := 143) (by decide +kernel), fun h => absurd h (by decide +kernel), fun _ => ⟨List.mem_of_getElem? (i := 1714) (by decide +kernel), fun _ => List.mem_of_getElem? (i := 1715) (by decide +kernel)⟩⟩
theorem mI221_code : mIC mI221 := List.mem_of_getElem? (i := 1716) (by decide +kernel)
theorem mI222_ok : mIO mI222 := ⟨rfl, by decide +kernel, by decide +kernel, List.mem_of_getElem? (i := 143) (by decide +kernel), fun h => absurd h (by decide +kernel), fun _ => ⟨List.mem_of_getElem? (i := 1718) (by decide +kernel), fun _ => List.mem_of_getElem? (i := 1719) (by decide +kernel)⟩⟩
theorem mI222_code : mIC mI222 := List.mem_of_getElem? (i := 1720) (by decide +kernel)
theorem mI223_ok : mIO mI223 := ⟨rfl, by decide +kernel, by decide +kernel, List.mem_of_getElem? (i := 143) (by decide +kernel), fun h => absurd h (by decide +kernel), fun _ => ⟨List.mem_of_getElem? (i := 1722) (by decide +kernel), fun _ => List.mem_of_getElem? (i := 1723) (by decide +kernel)⟩⟩
theorem mI223_code : mIC mI223 := List.mem_of_getElem? (i := 1724) (by decide +kernel)
theorem mI224_ok : mIO mI224 := ⟨rfl, by decide +kernel, by decide +kernel, List.mem_of_getElem? (i := 134) (by decide +kernel), fun _ => List.mem_of_getElem? (i := 643) (by decide +kernel), fun h => absurd h (by decide +kernel)⟩
theorem mI225_ok : mIO mI225 := ⟨rfl, by decide +kernel, by decide +kernel, List.mem_of_getElem? (i := 134) (by decide +kernel), fun _ => List.mem_of_getElem? (i := 1107) (by decide +kernel), fun h => absurd h (by decide +kernel)⟩
theorem mI226_ok : mIO mI226 := ⟨rfl, by decide +kernel, by decide +kernel, List.mem_of_getElem? (i := 134) (by decide +kernel), fun _ => List.mem_of_getElem? (i := 1148) (by decide +kernel), fun h => absurd h (by decide +kernel)⟩
theorem mI227_ok : mIO mI227 := ⟨rfl, by decide +kernel, by decide +kernel, List.mem_of_getElem? (i := 134) (by decide +kernel), fun _ => List.mem_of_getElem? (i := 1155) (by decide +kernel), fun h => absurd h (by decide +kernel)⟩
theorem mI228_ok : mIO mI228 := ⟨rfl, by decide +kernel, by decide +kernel, List.mem_of_getElem? (i := 134) (by decide +kernel), fun _ => List.mem_of_getElem? (i := 1167) (by decide +kernel), fun h => absurd h (by decide +kernel)⟩
