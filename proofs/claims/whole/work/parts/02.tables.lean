/-! the mini machine: cells by place numbers, not addresses. An array is (type number, length, contents); an object is (class number, fields); a reference is a place number -/
abbrev mm_E : Type := (Nat × vp_A) ⊕ (Nat × List Value)
abbrev mm_W : Type := List (Nat × mm_E)
abbrev mm_L : Type := List (Nat × Value)
/-- how a method ends: it returns, or throws the exception of that number -/
abbrev mm_O : Type := Option Value ⊕ Nat
/-- a row of a method's table: pc, instruction, next pc, three numbers (target; class and field; callee and arguments; a mark), an int and a long -/
abbrev mm_I : Type := Nat × Instr × Nat × Nat × Nat × Nat × Int32 × Int64
abbrev mm_B : Type := List (Int32 × Nat)
/-! the program as tables: written by a program out of the listing of the bytecode -/
def TC0 : u_T := fun k => match k with
  | 0 => ("MovingHeap", "shapes", "LMovingHeap$Shapes;", true)
  | 1 => ("MovingHeap", "heap", "LMovingHeap$Heap;", true)
  | 2 => ("MovingHeap", "every", "I", false)
  | 3 => ("MovingHeap", "untilDue", "I", false)
  | _ => ("MovingHeap", "madeCells", "I", false)
def tC0 : Nat → FieldType := fun k => match k with
  | 0 => .object "MovingHeap$Shapes"
  | 1 => .object "MovingHeap$Heap"
  | 2 => .int
  | 3 => .int
  | _ => .int
theorem nC0 : ∀ a, a < 5 → ∀ b, b < 5 → a ≠ b → (TC0 a).2.1 ≠ (TC0 b).2.1 := by decide +kernel
theorem tC0_ok : ∀ k, k < 5 → parseFieldDescriptor (TC0 k).2.2.1 = some (tC0 k) := by decide +kernel
def TC1 : u_T := fun k => match k with
  | 0 => ("MovingHeap$Heap", "shapes", "LMovingHeap$Shapes;", true)
  | 1 => ("MovingHeap$Heap", "roots", "[I", true)
  | 2 => ("MovingHeap$Heap", "here", "[J", false)
  | 3 => ("MovingHeap$Heap", "there", "[J", false)
  | 4 => ("MovingHeap$Heap", "top", "I", false)
  | 5 => ("MovingHeap$Heap", "cells", "I", false)
  | 6 => ("MovingHeap$Heap", "places", "I", false)
  | _ => ("MovingHeap$Heap", "waiting", "I", false)
def tC1 : Nat → FieldType := fun k => match k with
  | 0 => .object "MovingHeap$Shapes"
  | 1 => .array .int
  | 2 => .array .long
  | 3 => .array .long
  | 4 => .int
  | 5 => .int
  | 6 => .int
  | _ => .int
theorem nC1 : ∀ a, a < 8 → ∀ b, b < 8 → a ≠ b → (TC1 a).2.1 ≠ (TC1 b).2.1 := by decide +kernel
theorem tC1_ok : ∀ k, k < 8 → parseFieldDescriptor (TC1 k).2.2.1 = some (tC1 k) := by decide +kernel
def TC2 : u_T := fun k => match k with
  | 0 => ("MovingHeap$Shapes", "size", "I", false)
  | 1 => ("MovingHeap$Shapes", "fields", "[I", true)
  | 2 => ("MovingHeap$Shapes", "prices", "[I", true)
  | _ => ("MovingHeap$Shapes", "references", "[J", true)
def tC2 : Nat → FieldType := fun k => match k with
  | 0 => .int
  | 1 => .array .int
  | 2 => .array .int
  | _ => .array .long
theorem nC2 : ∀ a, a < 4 → ∀ b, b < 4 → a ≠ b → (TC2 a).2.1 ≠ (TC2 b).2.1 := by decide +kernel
theorem tC2_ok : ∀ k, k < 4 → parseFieldDescriptor (TC2 k).2.2.1 = some (tC2 k) := by decide +kernel
def TC3 : u_T := fun k => match k with
  | 0 => ("MovingHeapModel", "fields", "[I", true)
  | 1 => ("MovingHeapModel", "refs", "[J", true)
  | 2 => ("MovingHeapModel", "price", "[I", true)
  | 3 => ("MovingHeapModel", "classes", "I", false)
  | 4 => ("MovingHeapModel", "kind", "[B", true)
  | 5 => ("MovingHeapModel", "which", "[I", true)
  | 6 => ("MovingHeapModel", "cells", "[I", true)
  | 7 => ("MovingHeapModel", "places", "[I", true)
  | 8 => ("MovingHeapModel", "held", "[I", true)
  | 9 => ("MovingHeapModel", "first", "[I", true)
  | 10 => ("MovingHeapModel", "marked", "[Z", true)
  | 11 => ("MovingHeapModel", "todo", "[I", true)
  | 12 => ("MovingHeapModel", "things", "I", false)
  | 13 => ("MovingHeapModel", "freeThing", "I", false)
  | 14 => ("MovingHeapModel", "numbers", "[J", true)
  | 15 => ("MovingHeapModel", "next", "[I", true)
  | 16 => ("MovingHeapModel", "blocks", "I", false)
  | 17 => ("MovingHeapModel", "freeBlock", "I", false)
  | 18 => ("MovingHeapModel", "roots", "[I", true)
  | 19 => ("MovingHeapModel", "used", "I", false)
  | 20 => ("MovingHeapModel", "taken", "I", false)
  | 21 => ("MovingHeapModel", "made", "I", false)
  | 22 => ("MovingHeapModel", "nth", "I", false)
  | 23 => ("MovingHeapModel", "thrown", "I", false)
  | _ => ("MovingHeapModel", "marks", "I", false)
def tC3 : Nat → FieldType := fun k => match k with
  | 0 => .array .int
  | 1 => .array .long
  | 2 => .array .int
  | 3 => .int
  | 4 => .array .byte
  | 5 => .array .int
  | 6 => .array .int
  | 7 => .array .int
  | 8 => .array .int
  | 9 => .array .int
  | 10 => .array .boolean
  | 11 => .array .int
  | 12 => .int
  | 13 => .int
  | 14 => .array .long
  | 15 => .array .int
  | 16 => .int
  | 17 => .int
  | 18 => .array .int
  | 19 => .int
  | 20 => .int
  | 21 => .int
  | 22 => .int
  | 23 => .int
  | _ => .int
theorem nC3 : ∀ a, a < 25 → ∀ b, b < 25 → a ≠ b → (TC3 a).2.1 ≠ (TC3 b).2.1 := by decide +kernel
theorem tC3_ok : ∀ k, k < 25 → parseFieldDescriptor (TC3 k).2.2.1 = some (tC3 k) := by decide +kernel
def vwCl : List vw_C := [("MovingHeap", TC0, 5), ("MovingHeap$Heap", TC1, 8), ("MovingHeap$Shapes", TC2, 4), ("MovingHeapModel", TC3, 25)]
/-- the words that every method's contract asks for -/
def pg_ws : List Jvm.Cond := lw_tbl.filter goodWord
theorem pg_in {w : Jvm.Cond} (h : (decide (w ∈ lw_tbl) && goodWord w) = true) : w ∈ pg_ws := by
  rw [Bool.and_eq_true] at h
  exact List.mem_filter.mpr ⟨of_decide_eq_true h.1, h.2⟩
set_option maxRecDepth 100000 in
theorem pg_cw0 : (u_ws "MovingHeap" TC0 5).all (fun w => decide (w ∈ lw_tbl) && goodWord w) = true := by decide +kernel
set_option maxRecDepth 100000 in
theorem pg_cw1 : (u_ws "MovingHeap$Heap" TC1 8).all (fun w => decide (w ∈ lw_tbl) && goodWord w) = true := by decide +kernel
set_option maxRecDepth 100000 in
theorem pg_cw2 : (u_ws "MovingHeap$Shapes" TC2 4).all (fun w => decide (w ∈ lw_tbl) && goodWord w) = true := by decide +kernel
set_option maxRecDepth 100000 in
theorem pg_cw3 : (u_ws "MovingHeapModel" TC3 25).all (fun w => decide (w ∈ lw_tbl) && goodWord w) = true := by decide +kernel
theorem pg_cw (a : Nat) (Cn : String) (T : u_T) (N : Nat) (h : vwCl[a]? = some (Cn, T, N)) : ∀ w ∈ u_ws Cn T N, w ∈ pg_ws := by
  match a, h with
  | 0, h => cases h; exact fun w hw => pg_in (List.all_eq_true.mp pg_cw0 w hw)
  | 1, h => cases h; exact fun w hw => pg_in (List.all_eq_true.mp pg_cw1 w hw)
  | 2, h => cases h; exact fun w hw => pg_in (List.all_eq_true.mp pg_cw2 w hw)
  | 3, h => cases h; exact fun w hw => pg_in (List.all_eq_true.mp pg_cw3 w hw)
  | n + 4, h => simp [vwCl] at h
theorem pg_ct (a : Nat) (Cn : String) (T : u_T) (N : Nat) (h : vwCl[a]? = some (Cn, T, N)) : ∃ ty0 : Nat → FieldType, (∀ k, k < N → parseFieldDescriptor (T k).2.2.1 = some (ty0 k)) ∧ ∀ a, a < N → ∀ b, b < N → a ≠ b → (T a).2.1 ≠ (T b).2.1 := by
  match a, h with
  | 0, h => cases h; exact ⟨tC0, tC0_ok, nC0⟩
  | 1, h => cases h; exact ⟨tC1, tC1_ok, nC1⟩
  | 2, h => cases h; exact ⟨tC2, tC2_ok, nC2⟩
  | 3, h => cases h; exact ⟨tC3, tC3_ok, nC3⟩
  | n + 4, h => simp [vwCl] at h
/-- MovingHeap$Head.of(IZII)J -/
def tb_0 : List (List mm_I) := [
  [(0, .iload_n 0, 1, 0, 0, 0, 0, 0), (1, .iload_n 1, 2, 0, 0, 0, 0, 0), (2, .ifCond .eq 8, 5, 10, 0, 0, 0, 0), (5, .bipush 8, 7, 0, 0, 0, 8, 0), (7, .goto 4, 10, 11, 0, 0, 0, 0), (10, .iconst 0, 11, 0, 0, 0, 0, 0), (11, .ior, 12, 0, 0, 0, 0, 0), (12, .iload_n 2, 13, 0, 0, 0, 0, 0), (13, .iconst 4, 14, 0, 0, 0, 4, 0), (14, .ishl, 15, 0, 0, 0, 0, 0), (15, .ior, 16, 0, 0, 0, 0, 0)],
  [(16, .i2l, 17, 0, 0, 0, 0, 0), (17, .iload_n 3, 18, 0, 0, 0, 0, 0), (18, .i2l, 19, 0, 0, 0, 0, 0), (19, .bipush 12, 21, 0, 0, 0, 12, 0), (21, .lshl, 22, 0, 0, 0, 0, 0), (22, .lor, 23, 0, 0, 0, 0, 0), (23, .lreturn, 24, 0, 0, 0, 0, 0)]]
/-- MovingHeap$Head.kind(J)I -/
def tb_1 : List (List mm_I) := [
  [(0, .lload_n 0, 1, 0, 0, 0, 0, 0), (1, .l2i, 2, 0, 0, 0, 0, 0), (2, .bipush 7, 4, 0, 0, 0, 7, 0), (4, .iand, 5, 0, 0, 0, 0, 0), (5, .ireturn, 6, 0, 0, 0, 0, 0)]]
/-- MovingHeap$Head.isFree(J)Z -/
def tb_2 : List (List mm_I) := [
  [(0, .lload_n 0, 1, 0, 0, 0, 0, 0), (1, .ldc2_w 11, 4, 0, 0, 0, 0, 8), (4, .land, 5, 0, 0, 0, 0, 0), (5, .lconst 0, 6, 0, 0, 0, 0, 0), (6, .lcmp, 7, 0, 0, 0, 0, 0), (7, .ifCond .eq 7, 10, 14, 0, 0, 0, 0), (10, .iconst 1, 11, 0, 0, 0, 1, 0), (11, .goto 4, 14, 15, 0, 0, 0, 0), (14, .iconst 0, 15, 0, 0, 0, 0, 0), (15, .ireturn, 16, 1, 0, 0, 0, 0)]]
/-- MovingHeap$Head.detail(J)I -/
def tb_3 : List (List mm_I) := [
  [(0, .lload_n 0, 1, 0, 0, 0, 0, 0), (1, .iconst 4, 2, 0, 0, 0, 4, 0), (2, .lshr, 3, 0, 0, 0, 0, 0), (3, .l2i, 4, 0, 0, 0, 0, 0), (4, .sipush 255, 7, 0, 0, 0, 255, 0), (7, .iand, 8, 0, 0, 0, 0, 0), (8, .ireturn, 9, 0, 0, 0, 0, 0)]]
/-- MovingHeap$Head.count(J)I -/
def tb_4 : List (List mm_I) := [
  [(0, .lload_n 0, 1, 0, 0, 0, 0, 0), (1, .bipush 12, 3, 0, 0, 0, 12, 0), (3, .lshr, 4, 0, 0, 0, 0, 0), (4, .l2i, 5, 0, 0, 0, 0, 0), (5, .ireturn, 6, 0, 0, 0, 0, 0)]]
/-- MovingHeap$Head.words(J)I -/
def tb_5 : List (List mm_I) := [
  [(0, .lload_n 0, 1, 0, 0, 0, 0, 0), (1, .invokestatic 13, 4, 4, 1, 0, 0, 0), (4, .istore_n 2, 5, 0, 0, 0, 0, 0), (5, .iconst 1, 6, 0, 0, 0, 1, 0), (6, .lload_n 0, 7, 0, 0, 0, 0, 0), (7, .invokestatic 17, 10, 1, 1, 0, 0, 0), (10, .iconst 4, 11, 0, 0, 0, 4, 0), (11, .if_icmp .ne 11, 14, 22, 0, 0, 0, 0), (14, .iload_n 2, 15, 0, 0, 0, 0, 0), (15, .iconst 3, 16, 0, 0, 0, 3, 0)],
  [(16, .iadd, 17, 0, 0, 0, 0, 0), (17, .iconst 4, 18, 0, 0, 0, 4, 0), (18, .idiv, 19, 0, 0, 0, 0, 0), (19, .goto 4, 22, 23, 0, 0, 0, 0), (22, .iload_n 2, 23, 0, 0, 0, 0, 0), (23, .iadd, 24, 0, 0, 0, 0, 0), (24, .ireturn, 25, 0, 0, 0, 0, 0)]]
/-- MovingHeap$Head.places(J)I -/
def tb_6 : List (List mm_I) := [
  [(0, .lload_n 0, 1, 0, 0, 0, 0, 0), (1, .invokestatic 17, 4, 1, 1, 0, 0, 0), (4, .iconst 1, 5, 0, 0, 0, 1, 0), (5, .if_icmp .ne 10, 8, 15, 0, 0, 0, 0), (8, .lload_n 0, 9, 0, 0, 0, 0, 0), (9, .invokestatic 20, 12, 5, 1, 0, 0, 0), (12, .goto 9, 15, 21, 0, 0, 0, 0), (15, .lload_n 0, 16, 0, 0, 0, 0, 0)],
  [(16, .invokestatic 20, 19, 5, 1, 0, 0, 0), (19, .iconst 1, 20, 0, 0, 0, 1, 0), (20, .iadd, 21, 0, 0, 0, 0, 0), (21, .ireturn, 22, 0, 0, 0, 0, 0)]]
/-- MovingHeap$Head.mayRefer(J)Z -/
def tb_7 : List (List mm_I) := [
  [(0, .lload_n 0, 1, 0, 0, 0, 0, 0), (1, .invokestatic 17, 4, 1, 1, 0, 0, 0), (4, .istore_n 2, 5, 0, 0, 0, 0, 0), (5, .iload_n 2, 6, 0, 0, 0, 0, 0), (6, .iconst 1, 7, 0, 0, 0, 1, 0), (7, .if_icmp .eq 13, 10, 20, 0, 0, 0, 0), (10, .iload_n 2, 11, 0, 0, 0, 0, 0), (11, .iconst 3, 12, 0, 0, 0, 3, 0), (12, .if_icmp .eq 8, 15, 20, 0, 0, 0, 0), (15, .iload_n 2, 16, 0, 0, 0, 0, 0)],
  [(16, .iconst 5, 17, 0, 0, 0, 5, 0), (17, .if_icmp .ne 7, 20, 24, 0, 0, 0, 0), (20, .iconst 1, 21, 0, 0, 0, 1, 0), (21, .goto 4, 24, 25, 0, 0, 0, 0), (24, .iconst 0, 25, 0, 0, 0, 0, 0), (25, .ireturn, 26, 1, 0, 0, 0, 0)]]
/-- MovingHeap$Shapes.<init>()V -/
def tb_8 : List (List mm_I) := [
  [(0, .aload_n 0, 1, 0, 0, 0, 0, 0), (1, .invokespecial 3, 4, 0, 1, 1, 0, 0), (4, .aload_n 0, 5, 0, 0, 0, 0, 0), (5, .bipush 100, 7, 0, 0, 0, 100, 0), (7, .newarray .int, 9, 0, 100, 0, 100, 0), (9, .putfield 9, 12, 2, 1, 1, 0, 0), (12, .aload_n 0, 13, 0, 0, 0, 0, 0), (13, .bipush 100, 15, 0, 0, 0, 100, 0), (15, .newarray .int, 17, 0, 100, 0, 100, 0)],
  [(17, .putfield 15, 20, 2, 2, 1, 0, 0), (20, .aload_n 0, 21, 0, 0, 0, 0, 0), (21, .bipush 100, 23, 0, 0, 0, 100, 0), (23, .newarray .long, 25, 1, 100, 0, 100, 0), (25, .putfield 18, 28, 2, 3, 1, 0, 0), (28, .return_, 29, 0, 0, 0, 0, 0)]]
/-- MovingHeap$Shapes.has(I)Z -/
def tb_9 : List (List mm_I) := [
  [(0, .iload_n 1, 1, 0, 0, 0, 0, 0), (1, .ifCond .lt 15, 4, 16, 0, 0, 0, 0), (4, .iload_n 1, 5, 0, 0, 0, 0, 0), (5, .aload_n 0, 6, 0, 0, 0, 0, 0), (6, .getfield 22, 9, 2, 0, 0, 0, 0), (9, .if_icmp .ge 7, 12, 16, 0, 0, 0, 0), (12, .iconst 1, 13, 0, 0, 0, 1, 0), (13, .goto 4, 16, 17, 0, 0, 0, 0)],
  [(16, .iconst 0, 17, 0, 0, 0, 0, 0), (17, .ireturn, 18, 1, 0, 0, 0, 0)]]
/-- MovingHeap$Shapes.hasRoom(II)Z -/
def tb_10 : List (List mm_I) := [
  [(0, .aload_n 0, 1, 0, 0, 0, 0, 0), (1, .getfield 22, 4, 2, 0, 0, 0, 0), (4, .bipush 100, 6, 0, 0, 0, 100, 0), (6, .if_icmp .ge 19, 9, 25, 0, 0, 0, 0), (9, .aload_n 0, 10, 0, 0, 0, 0, 0), (10, .iload_n 1, 11, 0, 0, 0, 0, 0), (11, .invokevirtual 26, 14, 12, 2, 0, 0, 0), (14, .iload_n 2, 15, 0, 0, 0, 0, 0), (15, .iadd, 16, 0, 0, 0, 0, 0)],
  [(16, .bipush 64, 18, 0, 0, 0, 64, 0), (18, .if_icmp .gt 7, 21, 25, 0, 0, 0, 0), (21, .iconst 1, 22, 0, 0, 0, 1, 0), (22, .goto 4, 25, 26, 0, 0, 0, 0), (25, .iconst 0, 26, 0, 0, 0, 0, 0), (26, .ireturn, 27, 1, 0, 0, 0, 0)]]
/-- MovingHeap$Shapes.add(IIII)I -/
def tb_11 : List (List mm_I) := [
  [(0, .aload_n 0, 1, 0, 0, 0, 0, 0), (1, .iload_n 1, 2, 0, 0, 0, 0, 0), (2, .invokevirtual 26, 5, 12, 2, 0, 0, 0), (5, .istore 5, 7, 0, 0, 0, 0, 0), (7, .aload_n 0, 8, 0, 0, 0, 0, 0), (8, .iload_n 1, 9, 0, 0, 0, 0, 0), (9, .invokevirtual 30, 12, 9, 2, 0, 0, 0), (12, .ifCond .eq 12, 15, 24, 0, 0, 0, 0), (15, .aload_n 0, 16, 0, 0, 0, 0, 0)],
  [(16, .getfield 18, 19, 2, 3, 0, 0, 0), (19, .iload_n 1, 20, 0, 0, 0, 0, 0), (20, .laload, 21, 0, 0, 0, 0, 0), (21, .goto 4, 24, 25, 0, 0, 0, 0), (24, .lconst 0, 25, 0, 0, 0, 0, 0), (25, .lstore 6, 27, 0, 0, 0, 0, 0), (27, .iload_n 3, 28, 0, 0, 0, 0, 0), (28, .iconst 1, 29, 0, 0, 0, 1, 0), (29, .iload_n 2, 30, 0, 0, 0, 0, 0), (30, .ishl, 31, 0, 0, 0, 0, 0), (31, .iconst 1, 32, 0, 0, 0, 1, 0)],
  [(32, .isub, 33, 0, 0, 0, 0, 0), (33, .iand, 34, 0, 0, 0, 0, 0), (34, .i2l, 35, 0, 0, 0, 0, 0), (35, .lstore 8, 37, 0, 0, 0, 0, 0), (37, .aload_n 0, 38, 0, 0, 0, 0, 0), (38, .getfield 9, 41, 2, 1, 0, 0, 0), (41, .aload_n 0, 42, 0, 0, 0, 0, 0), (42, .getfield 22, 45, 2, 0, 0, 0, 0), (45, .iload 5, 47, 0, 0, 0, 0, 0), (47, .iload_n 2, 48, 0, 0, 0, 0, 0)],
  [(48, .iadd, 49, 0, 0, 0, 0, 0), (49, .iastore, 50, 0, 0, 0, 0, 0), (50, .aload_n 0, 51, 0, 0, 0, 0, 0), (51, .getfield 15, 54, 2, 2, 0, 0, 0), (54, .aload_n 0, 55, 0, 0, 0, 0, 0), (55, .getfield 22, 58, 2, 0, 0, 0, 0), (58, .iload 4, 60, 0, 0, 0, 0, 0), (60, .iastore, 61, 0, 0, 0, 0, 0), (61, .aload_n 0, 62, 0, 0, 0, 0, 0), (62, .getfield 18, 65, 2, 3, 0, 0, 0)],
  [(65, .aload_n 0, 66, 0, 0, 0, 0, 0), (66, .getfield 22, 69, 2, 0, 0, 0, 0), (69, .lload 6, 71, 0, 0, 0, 0, 0), (71, .lload 8, 73, 0, 0, 0, 0, 0), (73, .iload 5, 75, 0, 0, 0, 0, 0), (75, .lshl, 76, 0, 0, 0, 0, 0), (76, .lor, 77, 0, 0, 0, 0, 0), (77, .lastore, 78, 0, 0, 0, 0, 0), (78, .aload_n 0, 79, 0, 0, 0, 0, 0), (79, .dup, 80, 0, 0, 0, 0, 0)],
  [(80, .getfield 22, 83, 2, 0, 0, 0, 0), (83, .iconst 1, 84, 0, 0, 0, 1, 0), (84, .iadd, 85, 0, 0, 0, 0, 0), (85, .putfield 22, 88, 2, 0, 0, 0, 0), (88, .aload_n 0, 89, 0, 0, 0, 0, 0), (89, .getfield 22, 92, 2, 0, 0, 0, 0), (92, .iconst 1, 93, 0, 0, 0, 1, 0), (93, .isub, 94, 0, 0, 0, 0, 0), (94, .ireturn, 95, 0, 0, 0, 0, 0)]]
/-- MovingHeap$Shapes.fieldsAbove(I)I -/
def tb_12 : List (List mm_I) := [
  [(0, .aload_n 0, 1, 0, 0, 0, 0, 0), (1, .iload_n 1, 2, 0, 0, 0, 0, 0), (2, .invokevirtual 30, 5, 9, 2, 0, 0, 0), (5, .ifCond .eq 12, 8, 17, 0, 0, 0, 0), (8, .aload_n 0, 9, 0, 0, 0, 0, 0), (9, .getfield 9, 12, 2, 1, 0, 0, 0), (12, .iload_n 1, 13, 0, 0, 0, 0, 0), (13, .iaload, 14, 0, 0, 0, 0, 0), (14, .goto 4, 17, 18, 0, 0, 0, 0)],
  [(17, .iconst 0, 18, 0, 0, 0, 0, 0), (18, .ireturn, 19, 0, 0, 0, 0, 0)]]
/-- MovingHeap$Heap.<init>()V -/
def tb_13 : List (List mm_I) := [
  [(0, .aload_n 0, 1, 0, 0, 0, 0, 0), (1, .invokespecial 3, 4, 0, 1, 1, 0, 0), (4, .aload_n 0, 5, 0, 0, 0, 0, 0), (5, .new 9, 8, 2, 4, 0, 0, 0), (8, .dup, 9, 0, 0, 0, 0, 0), (9, .invokespecial 11, 12, 8, 1, 0, 0, 0), (12, .putfield 12, 15, 1, 0, 1, 0, 0), (15, .aload_n 0, 16, 0, 0, 0, 0, 0)],
  [(16, .bipush 64, 18, 0, 0, 0, 64, 0), (18, .newarray .int, 20, 0, 64, 0, 64, 0), (20, .putfield 18, 23, 1, 1, 1, 0, 0), (23, .aload_n 0, 24, 0, 0, 0, 0, 0), (24, .ldc 22, 26, 0, 0, 0, 180001, 0), (26, .newarray .long, 28, 1, 180001, 0, 180001, 0), (28, .putfield 23, 31, 1, 2, 1, 0, 0), (31, .aload_n 0, 32, 0, 0, 0, 0, 0)],
  [(32, .ldc 22, 34, 0, 0, 0, 180001, 0), (34, .newarray .long, 36, 1, 180001, 0, 180001, 0), (36, .putfield 27, 39, 1, 3, 1, 0, 0), (39, .aload_n 0, 40, 0, 0, 0, 0, 0), (40, .iconst 1, 41, 0, 0, 0, 1, 0), (41, .putfield 30, 44, 1, 4, 0, 0, 0), (44, .return_, 45, 0, 0, 0, 0, 0)]]
/-- MovingHeap$Heap.head(I)J -/
def tb_14 : List (List mm_I) := [
  [(0, .aload_n 0, 1, 0, 0, 0, 0, 0), (1, .getfield 23, 4, 1, 2, 0, 0, 0), (4, .iload_n 1, 5, 0, 0, 0, 0, 0), (5, .laload, 6, 0, 0, 0, 0, 0), (6, .lreturn, 7, 0, 0, 0, 0, 0)]]
/-- MovingHeap$Heap.cellsOf(J)I -/
def tb_15 : List (List mm_I) := [
  [(0, .lload_n 1, 1, 0, 0, 0, 0, 0), (1, .invokestatic 34, 4, 2, 1, 0, 0, 0), (4, .ifCond .eq 5, 7, 9, 0, 0, 0, 0), (7, .iconst 0, 8, 0, 0, 0, 0, 0), (8, .ireturn, 9, 0, 0, 0, 0, 0), (9, .lload_n 1, 10, 0, 0, 0, 0, 0), (10, .invokestatic 40, 13, 1, 1, 0, 0, 0), (13, .tableswitch 58 1 5 #[35, 48, 48, 48, 55], 48, 71, 0, 0, 0, 0)],
  [],
  [],
  [(48, .aload_n 0, 49, 0, 0, 0, 0, 0), (49, .getfield 12, 52, 1, 0, 0, 0, 0), (52, .getfield 44, 55, 2, 2, 0, 0, 0), (55, .lload_n 1, 56, 0, 0, 0, 0, 0), (56, .invokestatic 47, 59, 3, 1, 0, 0, 0), (59, .iaload, 60, 0, 0, 0, 0, 0), (60, .ireturn, 61, 0, 0, 0, 0, 0), (61, .iconst 2, 62, 0, 0, 0, 2, 0), (62, .lload_n 1, 63, 0, 0, 0, 0, 0), (63, .invokestatic 50, 66, 4, 1, 0, 0, 0)],
  [(66, .iadd, 67, 0, 0, 0, 0, 0), (67, .ireturn, 68, 0, 0, 0, 0, 0), (68, .bipush 10, 70, 0, 0, 0, 10, 0), (70, .ireturn, 71, 0, 0, 0, 0, 0), (71, .iconst 0, 72, 0, 0, 0, 0, 0), (72, .ireturn, 73, 0, 0, 0, 0, 0)]]
/-- MovingHeap$Heap.isReference(JI)Z -/
def tb_16 : List (List mm_I) := [
  [(0, .lload_n 1, 1, 0, 0, 0, 0, 0), (1, .invokestatic 40, 4, 1, 1, 0, 0, 0), (4, .tableswitch 83 1 5 #[36, 83, 63, 83, 65], 40, 87, 0, 0, 0, 0)],
  [],
  [(40, .aload_n 0, 41, 0, 0, 0, 0, 0), (41, .getfield 12, 44, 1, 0, 0, 0, 0), (44, .getfield 53, 47, 2, 3, 0, 0, 0), (47, .lload_n 1, 48, 0, 0, 0, 0, 0)],
  [(48, .invokestatic 47, 51, 3, 1, 0, 0, 0), (51, .laload, 52, 0, 0, 0, 0, 0), (52, .iload_n 3, 53, 0, 0, 0, 0, 0), (53, .lushr, 54, 0, 0, 0, 0, 0), (54, .lconst 1, 55, 0, 0, 0, 0, 1), (55, .land, 56, 0, 0, 0, 0, 0), (56, .lconst 1, 57, 0, 0, 0, 0, 1), (57, .lcmp, 58, 0, 0, 0, 0, 0), (58, .ifCond .ne 7, 61, 65, 0, 0, 0, 0), (61, .iconst 1, 62, 0, 0, 0, 1, 0), (62, .goto 4, 65, 66, 0, 0, 0, 0)],
  [(65, .iconst 0, 66, 0, 0, 0, 0, 0), (66, .ireturn, 67, 1, 0, 0, 0, 0), (67, .iconst 1, 68, 0, 0, 0, 1, 0), (68, .ireturn, 69, 1, 0, 0, 0, 0), (69, .lload_n 1, 70, 0, 0, 0, 0, 0), (70, .invokestatic 47, 73, 3, 1, 0, 0, 0), (73, .iload_n 3, 74, 0, 0, 0, 0, 0), (74, .iushr, 75, 0, 0, 0, 0, 0), (75, .iconst 1, 76, 0, 0, 0, 1, 0), (76, .iand, 77, 0, 0, 0, 0, 0), (77, .iconst 1, 78, 0, 0, 0, 1, 0), (78, .if_icmp .ne 7, 81, 85, 0, 0, 0, 0)],
  [(81, .iconst 1, 82, 0, 0, 0, 1, 0), (82, .goto 4, 85, 86, 0, 0, 0, 0), (85, .iconst 0, 86, 0, 0, 0, 0, 0), (86, .ireturn, 87, 1, 0, 0, 0, 0), (87, .iconst 0, 88, 0, 0, 0, 0, 0), (88, .ireturn, 89, 1, 0, 0, 0, 0)]]
/-- MovingHeap$Heap.number(II)J -/
def tb_17 : List (List mm_I) := [
  [(0, .aload_n 0, 1, 0, 0, 0, 0, 0), (1, .getfield 23, 4, 1, 2, 0, 0, 0), (4, .iload_n 1, 5, 0, 0, 0, 0, 0), (5, .laload, 6, 0, 0, 0, 0, 0), (6, .invokestatic 40, 9, 1, 1, 0, 0, 0), (9, .iconst 4, 10, 0, 0, 0, 4, 0), (10, .if_icmp .ne 23, 13, 33, 0, 0, 0, 0), (13, .aload_n 0, 14, 0, 0, 0, 0, 0), (14, .getfield 23, 17, 1, 2, 0, 0, 0)],
  [(17, .iload_n 1, 18, 0, 0, 0, 0, 0), (18, .iload_n 2, 19, 0, 0, 0, 0, 0), (19, .invokestatic 56, 22, 28, 2, 0, 0, 0), (22, .laload, 23, 0, 0, 0, 0, 0), (23, .iload_n 2, 24, 0, 0, 0, 0, 0), (24, .invokestatic 60, 27, 29, 1, 0, 0, 0), (27, .lushr, 28, 0, 0, 0, 0, 0), (28, .ldc2_w 64, 31, 0, 0, 0, 0, 65535), (31, .land, 32, 0, 0, 0, 0, 0)],
  [(32, .lreturn, 33, 0, 0, 0, 0, 0), (33, .aload_n 0, 34, 0, 0, 0, 0, 0), (34, .getfield 23, 37, 1, 2, 0, 0, 0), (37, .iload_n 1, 38, 0, 0, 0, 0, 0), (38, .iconst 1, 39, 0, 0, 0, 1, 0), (39, .iadd, 40, 0, 0, 0, 0, 0), (40, .iload_n 2, 41, 0, 0, 0, 0, 0), (41, .iadd, 42, 0, 0, 0, 0, 0), (42, .laload, 43, 0, 0, 0, 0, 0), (43, .lreturn, 44, 0, 0, 0, 0, 0)]]
/-- MovingHeap$Heap.setNumber(IIJ)V -/
def tb_18 : List (List mm_I) := [
  [(0, .aload_n 0, 1, 0, 0, 0, 0, 0), (1, .getfield 23, 4, 1, 2, 0, 0, 0), (4, .iload_n 1, 5, 0, 0, 0, 0, 0), (5, .laload, 6, 0, 0, 0, 0, 0), (6, .invokestatic 40, 9, 1, 1, 0, 0, 0), (9, .iconst 4, 10, 0, 0, 0, 4, 0), (10, .if_icmp .ne 53, 13, 63, 0, 0, 0, 0), (13, .iload_n 1, 14, 0, 0, 0, 0, 0), (14, .iload_n 2, 15, 0, 0, 0, 0, 0), (15, .invokestatic 56, 18, 28, 2, 0, 0, 0)],
  [(18, .istore 5, 20, 0, 0, 0, 0, 0), (20, .iload_n 2, 21, 0, 0, 0, 0, 0), (21, .invokestatic 60, 24, 29, 1, 0, 0, 0), (24, .istore 6, 26, 0, 0, 0, 0, 0), (26, .aload_n 0, 27, 0, 0, 0, 0, 0), (27, .getfield 23, 30, 1, 2, 0, 0, 0), (30, .iload 5, 32, 0, 0, 0, 0, 0)],
  [(32, .aload_n 0, 33, 0, 0, 0, 0, 0), (33, .getfield 23, 36, 1, 2, 0, 0, 0), (36, .iload 5, 38, 0, 0, 0, 0, 0), (38, .laload, 39, 0, 0, 0, 0, 0), (39, .ldc2_w 64, 42, 0, 0, 0, 0, 65535), (42, .iload 6, 44, 0, 0, 0, 0, 0), (44, .lshl, 45, 0, 0, 0, 0, 0), (45, .ldc2_w 66, 48, 0, 0, 0, 0, (-1))],
  [(48, .lxor, 49, 0, 0, 0, 0, 0), (49, .land, 50, 0, 0, 0, 0, 0), (50, .lload_n 3, 51, 0, 0, 0, 0, 0), (51, .ldc2_w 64, 54, 0, 0, 0, 0, 65535), (54, .land, 55, 0, 0, 0, 0, 0), (55, .iload 6, 57, 0, 0, 0, 0, 0), (57, .lshl, 58, 0, 0, 0, 0, 0), (58, .lor, 59, 0, 0, 0, 0, 0), (59, .lastore, 60, 0, 0, 0, 0, 0), (60, .goto 14, 63, 74, 0, 0, 0, 0), (63, .aload_n 0, 64, 0, 0, 0, 0, 0)],
  [(64, .getfield 23, 67, 1, 2, 0, 0, 0), (67, .iload_n 1, 68, 0, 0, 0, 0, 0), (68, .iconst 1, 69, 0, 0, 0, 1, 0), (69, .iadd, 70, 0, 0, 0, 0, 0), (70, .iload_n 2, 71, 0, 0, 0, 0, 0), (71, .iadd, 72, 0, 0, 0, 0, 0), (72, .lload_n 3, 73, 0, 0, 0, 0, 0), (73, .lastore, 74, 0, 0, 0, 0, 0), (74, .return_, 75, 0, 0, 0, 0, 0)]]
/-- MovingHeap$Heap.reference(II)I -/
def tb_19 : List (List mm_I) := [
  [(0, .aload_n 0, 1, 0, 0, 0, 0, 0), (1, .getfield 23, 4, 1, 2, 0, 0, 0), (4, .iload_n 1, 5, 0, 0, 0, 0, 0), (5, .iconst 1, 6, 0, 0, 0, 1, 0), (6, .iadd, 7, 0, 0, 0, 0, 0), (7, .iload_n 2, 8, 0, 0, 0, 0, 0), (8, .iadd, 9, 0, 0, 0, 0, 0), (9, .laload, 10, 0, 0, 0, 0, 0), (10, .l2i, 11, 0, 0, 0, 0, 0), (11, .ireturn, 12, 0, 0, 0, 0, 0)]]
/-- MovingHeap$Heap.setReference(III)V -/
def tb_20 : List (List mm_I) := [
  [(0, .aload_n 0, 1, 0, 0, 0, 0, 0), (1, .getfield 23, 4, 1, 2, 0, 0, 0), (4, .iload_n 1, 5, 0, 0, 0, 0, 0), (5, .iconst 1, 6, 0, 0, 0, 1, 0), (6, .iadd, 7, 0, 0, 0, 0, 0), (7, .iload_n 2, 8, 0, 0, 0, 0, 0), (8, .iadd, 9, 0, 0, 0, 0, 0), (9, .iload_n 3, 10, 0, 0, 0, 0, 0), (10, .i2l, 11, 0, 0, 0, 0, 0), (11, .lastore, 12, 0, 0, 0, 0, 0), (12, .return_, 13, 0, 0, 0, 0, 0)]]
/-- MovingHeap$Heap.capture(II)V -/
def tb_21 : List (List mm_I) := [
  [(0, .aload_n 0, 1, 0, 0, 0, 0, 0), (1, .getfield 23, 4, 1, 2, 0, 0, 0), (4, .iload_n 1, 5, 0, 0, 0, 0, 0), (5, .laload, 6, 0, 0, 0, 0, 0), (6, .lstore_n 3, 7, 0, 0, 0, 0, 0), (7, .iconst 0, 8, 0, 0, 0, 0, 0), (8, .istore 5, 10, 0, 0, 0, 0, 0), (10, .iload 5, 12, 0, 0, 0, 0, 0), (12, .lload_n 3, 13, 0, 0, 0, 0, 0), (13, .invokestatic 50, 16, 4, 1, 0, 0, 0)],
  [(16, .if_icmp .ge 35, 19, 51, 0, 0, 0, 0), (19, .aload_n 0, 20, 0, 0, 0, 0, 0), (20, .lload_n 3, 21, 0, 0, 0, 0, 0), (21, .iload 5, 23, 0, 0, 0, 0, 0), (23, .invokevirtual 68, 26, 16, 3, 0, 0, 0), (26, .ifCond .eq 19, 29, 45, 0, 0, 0, 0), (29, .aload_n 0, 30, 0, 0, 0, 0, 0), (30, .iload_n 1, 31, 0, 0, 0, 0, 0), (31, .iload 5, 33, 0, 0, 0, 0, 0)],
  [(33, .aload_n 0, 34, 0, 0, 0, 0, 0), (34, .getfield 18, 37, 1, 1, 0, 0, 0), (37, .iload_n 2, 38, 0, 0, 0, 0, 0), (38, .iload 5, 40, 0, 0, 0, 0, 0), (40, .iadd, 41, 0, 0, 0, 0, 0), (41, .iaload, 42, 0, 0, 0, 0, 0), (42, .invokevirtual 72, 45, 20, 4, 0, 0, 0), (45, .iinc 5 1, 48, 0, 0, 0, 1, 0)],
  [(48, .goto (-38), 51, 10, 0, 0, 0, 0), (51, .return_, 52, 0, 0, 0, 0, 0)]]
/-- MovingHeap$Heap.holdNew(II)I -/
def tb_22 : List (List mm_I) := [
  [(0, .aload_n 0, 1, 0, 0, 0, 0, 0), (1, .getfield 18, 4, 1, 1, 0, 0, 0), (4, .iload_n 1, 5, 0, 0, 0, 0, 0), (5, .iload_n 2, 6, 0, 0, 0, 0, 0), (6, .iastore, 7, 0, 0, 0, 0, 0), (7, .aload_n 0, 8, 0, 0, 0, 0, 0), (8, .aload_n 0, 9, 0, 0, 0, 0, 0), (9, .getfield 23, 12, 1, 2, 0, 0, 0), (12, .iload_n 2, 13, 0, 0, 0, 0, 0), (13, .laload, 14, 0, 0, 0, 0, 0), (14, .invokevirtual 76, 17, 15, 2, 0, 0, 0)],
  [(17, .ireturn, 18, 0, 0, 0, 0, 0)]]
/-- MovingHeap$Heap.leastRootLike(I)I -/
def tb_23 : List (List mm_I) := [
  [(0, .iconst 0, 1, 0, 0, 0, 0, 0), (1, .istore_n 2, 2, 0, 0, 0, 0, 0), (2, .iload_n 2, 3, 0, 0, 0, 0, 0), (3, .iload_n 1, 4, 0, 0, 0, 0, 0), (4, .if_icmp .ge 26, 7, 30, 0, 0, 0, 0), (7, .aload_n 0, 8, 0, 0, 0, 0, 0), (8, .getfield 18, 11, 1, 1, 0, 0, 0), (11, .iload_n 2, 12, 0, 0, 0, 0, 0), (12, .iaload, 13, 0, 0, 0, 0, 0), (13, .aload_n 0, 14, 0, 0, 0, 0, 0), (14, .getfield 18, 17, 1, 1, 0, 0, 0)],
  [(17, .iload_n 1, 18, 0, 0, 0, 0, 0), (18, .iaload, 19, 0, 0, 0, 0, 0), (19, .if_icmp .ne 5, 22, 24, 0, 0, 0, 0), (22, .iload_n 2, 23, 0, 0, 0, 0, 0), (23, .ireturn, 24, 0, 0, 0, 0, 0), (24, .iinc 2 1, 27, 0, 0, 0, 1, 0), (27, .goto (-25), 30, 2, 0, 0, 0, 0), (30, .iload_n 1, 31, 0, 0, 0, 0, 0), (31, .ireturn, 32, 0, 0, 0, 0, 0)]]
/-- MovingHeap$Heap.hasRoom(J)Z -/
def tb_24 : List (List mm_I) := [
  [(0, .aload_n 0, 1, 0, 0, 0, 0, 0), (1, .getfield 79, 4, 1, 5, 0, 0, 0), (4, .aload_n 0, 5, 0, 0, 0, 0, 0), (5, .lload_n 1, 6, 0, 0, 0, 0, 0), (6, .invokevirtual 76, 9, 15, 2, 0, 0, 0), (9, .iadd, 10, 0, 0, 0, 0, 0), (10, .ldc 82, 12, 0, 0, 0, 100000, 0), (12, .if_icmp .gt 21, 15, 33, 0, 0, 0, 0), (15, .aload_n 0, 16, 0, 0, 0, 0, 0)],
  [(16, .getfield 83, 19, 1, 6, 0, 0, 0), (19, .lload_n 1, 20, 0, 0, 0, 0, 0), (20, .invokestatic 86, 23, 6, 1, 0, 0, 0), (23, .iadd, 24, 0, 0, 0, 0, 0), (24, .ldc 88, 26, 0, 0, 0, 180000, 0), (26, .if_icmp .gt 7, 29, 33, 0, 0, 0, 0), (29, .iconst 1, 30, 0, 0, 0, 1, 0), (30, .goto 4, 33, 34, 0, 0, 0, 0)],
  [(33, .iconst 0, 34, 0, 0, 0, 0, 0), (34, .ireturn, 35, 1, 0, 0, 0, 0)]]
/-- MovingHeap$Heap.add(J)I -/
def tb_25 : List (List mm_I) := [
  [(0, .aload_n 0, 1, 0, 0, 0, 0, 0), (1, .getfield 30, 4, 1, 4, 0, 0, 0), (4, .istore_n 3, 5, 0, 0, 0, 0, 0), (5, .aload_n 0, 6, 0, 0, 0, 0, 0), (6, .dup, 7, 0, 0, 0, 0, 0), (7, .getfield 30, 10, 1, 4, 0, 0, 0), (10, .lload_n 1, 11, 0, 0, 0, 0, 0), (11, .invokestatic 89, 14, 5, 1, 0, 0, 0), (14, .iadd, 15, 0, 0, 0, 0, 0), (15, .putfield 30, 18, 1, 4, 0, 0, 0)],
  [(18, .aload_n 0, 19, 0, 0, 0, 0, 0), (19, .lload_n 1, 20, 0, 0, 0, 0, 0), (20, .invokevirtual 92, 23, 30, 2, 0, 0, 0), (23, .aload_n 0, 24, 0, 0, 0, 0, 0), (24, .getfield 23, 27, 1, 2, 0, 0, 0), (27, .iload_n 3, 28, 0, 0, 0, 0, 0), (28, .aload_n 0, 29, 0, 0, 0, 0, 0), (29, .getfield 30, 32, 1, 4, 0, 0, 0)],
  [(32, .lconst 0, 33, 0, 0, 0, 0, 0), (33, .invokestatic 96, 36, 102, 4, 0, 0, 0), (36, .aload_n 0, 37, 0, 0, 0, 0, 0), (37, .getfield 23, 40, 1, 2, 0, 0, 0), (40, .iload_n 3, 41, 0, 0, 0, 0, 0), (41, .lload_n 1, 42, 0, 0, 0, 0, 0), (42, .lastore, 43, 0, 0, 0, 0, 0), (43, .iload_n 3, 44, 0, 0, 0, 0, 0), (44, .ireturn, 45, 0, 0, 0, 0, 0)]]
/-- MovingHeap$Heap.moveReached()V -/
def tb_26 : List (List mm_I) := [
  [(0, .aload_n 0, 1, 0, 0, 0, 0, 0), (1, .getfield 23, 4, 1, 2, 0, 0, 0), (4, .astore_n 1, 5, 0, 0, 0, 0, 0), (5, .aload_n 0, 6, 0, 0, 0, 0, 0), (6, .aload_n 0, 7, 0, 0, 0, 0, 0), (7, .getfield 27, 10, 1, 3, 0, 0, 0), (10, .putfield 23, 13, 1, 2, 1, 0, 0), (13, .aload_n 0, 14, 0, 0, 0, 0, 0), (14, .aload_n 1, 15, 0, 0, 0, 0, 0), (15, .putfield 27, 18, 1, 3, 1, 0, 0)],
  [(18, .aload_n 0, 19, 0, 0, 0, 0, 0), (19, .iconst 1, 20, 0, 0, 0, 1, 0), (20, .putfield 30, 23, 1, 4, 0, 0, 0), (23, .aload_n 0, 24, 0, 0, 0, 0, 0), (24, .iconst 0, 25, 0, 0, 0, 0, 0), (25, .putfield 79, 28, 1, 5, 0, 0, 0), (28, .aload_n 0, 29, 0, 0, 0, 0, 0), (29, .iconst 0, 30, 0, 0, 0, 0, 0), (30, .putfield 83, 33, 1, 6, 0, 0, 0)],
  [(33, .iconst 0, 34, 0, 0, 0, 0, 0), (34, .istore_n 2, 35, 0, 0, 0, 0, 0), (35, .iload_n 2, 36, 0, 0, 0, 0, 0), (36, .bipush 64, 38, 0, 0, 0, 64, 0), (38, .if_icmp .ge 25, 41, 63, 0, 0, 0, 0), (41, .aload_n 0, 42, 0, 0, 0, 0, 0), (42, .getfield 18, 45, 1, 1, 0, 0, 0), (45, .iload_n 2, 46, 0, 0, 0, 0, 0), (46, .aload_n 0, 47, 0, 0, 0, 0, 0), (47, .aload_n 0, 48, 0, 0, 0, 0, 0)],
  [(48, .getfield 18, 51, 1, 1, 0, 0, 0), (51, .iload_n 2, 52, 0, 0, 0, 0, 0), (52, .iaload, 53, 0, 0, 0, 0, 0), (53, .invokevirtual 102, 56, 31, 2, 0, 0, 0), (56, .iastore, 57, 0, 0, 0, 0, 0), (57, .iinc 2 1, 60, 0, 0, 0, 1, 0), (60, .goto (-25), 63, 35, 0, 0, 0, 0), (63, .iconst 1, 64, 0, 0, 0, 1, 0)],
  [(64, .istore_n 2, 65, 0, 0, 0, 0, 0), (65, .iconst 0, 66, 0, 0, 0, 0, 0), (66, .istore_n 3, 67, 0, 0, 0, 0, 0), (67, .iload_n 3, 68, 0, 0, 0, 0, 0), (68, .ldc 88, 70, 0, 0, 0, 180000, 0), (70, .if_icmp .ge 44, 73, 114, 0, 0, 0, 0), (73, .iload_n 2, 74, 0, 0, 0, 0, 0), (74, .aload_n 0, 75, 0, 0, 0, 0, 0), (75, .getfield 30, 78, 1, 4, 0, 0, 0), (78, .if_icmp .ge 36, 81, 114, 0, 0, 0, 0)],
  [(81, .aload_n 0, 82, 0, 0, 0, 0, 0), (82, .iload_n 2, 83, 0, 0, 0, 0, 0), (83, .invokevirtual 105, 86, 32, 2, 0, 0, 0), (86, .aload_n 0, 87, 0, 0, 0, 0, 0), (87, .aload_n 0, 88, 0, 0, 0, 0, 0), (88, .getfield 23, 91, 1, 2, 0, 0, 0), (91, .iload_n 2, 92, 0, 0, 0, 0, 0), (92, .laload, 93, 0, 0, 0, 0, 0), (93, .invokevirtual 92, 96, 30, 2, 0, 0, 0)],
  [(96, .iload_n 2, 97, 0, 0, 0, 0, 0), (97, .aload_n 0, 98, 0, 0, 0, 0, 0), (98, .getfield 23, 101, 1, 2, 0, 0, 0), (101, .iload_n 2, 102, 0, 0, 0, 0, 0), (102, .laload, 103, 0, 0, 0, 0, 0), (103, .invokestatic 89, 106, 5, 1, 0, 0, 0), (106, .iadd, 107, 0, 0, 0, 0, 0), (107, .istore_n 2, 108, 0, 0, 0, 0, 0), (108, .iinc 3 1, 111, 0, 0, 0, 1, 0), (111, .goto (-44), 114, 67, 0, 0, 0, 0)],
  [(114, .return_, 115, 0, 0, 0, 0, 0)]]
/-- MovingHeap$Heap.countLost()I -/
def tb_27 : List (List mm_I) := [
  [(0, .aload_n 0, 1, 0, 0, 0, 0, 0), (1, .invokevirtual 109, 4, 33, 1, 0, 0, 0), (4, .aload_n 0, 5, 0, 0, 0, 0, 0), (5, .iconst 0, 6, 0, 0, 0, 0, 0), (6, .putfield 112, 9, 1, 7, 0, 0, 0), (9, .iconst 0, 10, 0, 0, 0, 0, 0), (10, .istore_n 1, 11, 0, 0, 0, 0, 0), (11, .iconst 0, 12, 0, 0, 0, 0, 0), (12, .istore_n 2, 13, 0, 0, 0, 0, 0), (13, .iload_n 2, 14, 0, 0, 0, 0, 0), (14, .bipush 64, 16, 0, 0, 0, 64, 0)],
  [(16, .if_icmp .ge 22, 19, 38, 0, 0, 0, 0), (19, .iload_n 1, 20, 0, 0, 0, 0, 0), (20, .aload_n 0, 21, 0, 0, 0, 0, 0), (21, .aload_n 0, 22, 0, 0, 0, 0, 0), (22, .getfield 18, 25, 1, 1, 0, 0, 0), (25, .iload_n 2, 26, 0, 0, 0, 0, 0), (26, .iaload, 27, 0, 0, 0, 0, 0), (27, .invokevirtual 115, 30, 34, 2, 0, 0, 0), (30, .iadd, 31, 0, 0, 0, 0, 0), (31, .istore_n 1, 32, 0, 0, 0, 0, 0)],
  [(32, .iinc 2 1, 35, 0, 0, 0, 1, 0), (35, .goto (-22), 38, 13, 0, 0, 0, 0), (38, .iconst 0, 39, 0, 0, 0, 0, 0), (39, .istore_n 2, 40, 0, 0, 0, 0, 0), (40, .iload_n 2, 41, 0, 0, 0, 0, 0), (41, .ldc 88, 43, 0, 0, 0, 180000, 0), (43, .if_icmp .ge 42, 46, 85, 0, 0, 0, 0), (46, .aload_n 0, 47, 0, 0, 0, 0, 0), (47, .getfield 112, 50, 1, 7, 0, 0, 0)],
  [(50, .ifCond .eq 35, 53, 85, 0, 0, 0, 0), (53, .aload_n 0, 54, 0, 0, 0, 0, 0), (54, .getfield 112, 57, 1, 7, 0, 0, 0), (57, .istore_n 3, 58, 0, 0, 0, 0, 0), (58, .aload_n 0, 59, 0, 0, 0, 0, 0), (59, .aload_n 0, 60, 0, 0, 0, 0, 0), (60, .getfield 27, 63, 1, 3, 0, 0, 0), (63, .iload_n 3, 64, 0, 0, 0, 0, 0)],
  [(64, .laload, 65, 0, 0, 0, 0, 0), (65, .iconst 2, 66, 0, 0, 0, 2, 0), (66, .lshr, 67, 0, 0, 0, 0, 0), (67, .l2i, 68, 0, 0, 0, 0, 0), (68, .putfield 112, 71, 1, 7, 0, 0, 0), (71, .iload_n 1, 72, 0, 0, 0, 0, 0), (72, .aload_n 0, 73, 0, 0, 0, 0, 0), (73, .iload_n 3, 74, 0, 0, 0, 0, 0), (74, .invokevirtual 118, 77, 35, 2, 0, 0, 0), (77, .iadd, 78, 0, 0, 0, 0, 0), (78, .istore_n 1, 79, 0, 0, 0, 0, 0), (79, .iinc 2 1, 82, 0, 0, 0, 1, 0)],
  [(82, .goto (-42), 85, 40, 0, 0, 0, 0), (85, .iload_n 1, 86, 0, 0, 0, 0, 0), (86, .ireturn, 87, 0, 0, 0, 0, 0)]]
/-- MovingHeap$Heap.wordOfCharacter(II)I -/
def tb_28 : List (List mm_I) := [
  [(0, .iload_n 0, 1, 0, 0, 0, 0, 0), (1, .iconst 1, 2, 0, 0, 0, 1, 0), (2, .iadd, 3, 0, 0, 0, 0, 0), (3, .iload_n 1, 4, 0, 0, 0, 0, 0), (4, .iconst 4, 5, 0, 0, 0, 4, 0), (5, .idiv, 6, 0, 0, 0, 0, 0), (6, .iadd, 7, 0, 0, 0, 0, 0), (7, .ireturn, 8, 0, 0, 0, 0, 0)]]
/-- MovingHeap$Heap.shiftOfCharacter(I)I -/
def tb_29 : List (List mm_I) := [
  [(0, .iload_n 0, 1, 0, 0, 0, 0, 0), (1, .iconst 4, 2, 0, 0, 0, 4, 0), (2, .irem, 3, 0, 0, 0, 0, 0), (3, .bipush 16, 5, 0, 0, 0, 16, 0), (5, .imul, 6, 0, 0, 0, 0, 0), (6, .ireturn, 7, 0, 0, 0, 0, 0)]]
/-- MovingHeap$Heap.addToTotals(J)V -/
def tb_30 : List (List mm_I) := [
  [(0, .aload_n 0, 1, 0, 0, 0, 0, 0), (1, .dup, 2, 0, 0, 0, 0, 0), (2, .getfield 79, 5, 1, 5, 0, 0, 0), (5, .aload_n 0, 6, 0, 0, 0, 0, 0), (6, .lload_n 1, 7, 0, 0, 0, 0, 0), (7, .invokevirtual 76, 10, 15, 2, 0, 0, 0), (10, .iadd, 11, 0, 0, 0, 0, 0), (11, .putfield 79, 14, 1, 5, 0, 0, 0), (14, .aload_n 0, 15, 0, 0, 0, 0, 0), (15, .dup, 16, 0, 0, 0, 0, 0)],
  [(16, .getfield 83, 19, 1, 6, 0, 0, 0), (19, .lload_n 1, 20, 0, 0, 0, 0, 0), (20, .invokestatic 86, 23, 6, 1, 0, 0, 0), (23, .iadd, 24, 0, 0, 0, 0, 0), (24, .putfield 83, 27, 1, 6, 0, 0, 0), (27, .return_, 28, 0, 0, 0, 0, 0)]]
/-- MovingHeap$Heap.moved(I)I -/
def tb_31 : List (List mm_I) := [
  [(0, .iload_n 1, 1, 0, 0, 0, 0, 0), (1, .ifCond .ne 5, 4, 6, 0, 0, 0, 0), (4, .iconst 0, 5, 0, 0, 0, 0, 0), (5, .ireturn, 6, 0, 0, 0, 0, 0), (6, .aload_n 0, 7, 0, 0, 0, 0, 0), (7, .getfield 27, 10, 1, 3, 0, 0, 0), (10, .iload_n 1, 11, 0, 0, 0, 0, 0), (11, .laload, 12, 0, 0, 0, 0, 0), (12, .lstore_n 2, 13, 0, 0, 0, 0, 0), (13, .lload_n 2, 14, 0, 0, 0, 0, 0), (14, .lconst 0, 15, 0, 0, 0, 0, 0), (15, .lcmp, 16, 0, 0, 0, 0, 0)],
  [(16, .ifCond .ge 7, 19, 23, 0, 0, 0, 0), (19, .lload_n 2, 20, 0, 0, 0, 0, 0), (20, .lneg, 21, 0, 0, 0, 0, 0), (21, .l2i, 22, 0, 0, 0, 0, 0), (22, .ireturn, 23, 0, 0, 0, 0, 0), (23, .lload_n 2, 24, 0, 0, 0, 0, 0), (24, .invokestatic 89, 27, 5, 1, 0, 0, 0), (27, .istore 4, 29, 0, 0, 0, 0, 0), (29, .aload_n 0, 30, 0, 0, 0, 0, 0), (30, .getfield 30, 33, 1, 4, 0, 0, 0)],
  [(33, .istore 5, 35, 0, 0, 0, 0, 0), (35, .aload_n 0, 36, 0, 0, 0, 0, 0), (36, .getfield 27, 39, 1, 3, 0, 0, 0), (39, .iload_n 1, 40, 0, 0, 0, 0, 0), (40, .aload_n 0, 41, 0, 0, 0, 0, 0), (41, .getfield 23, 44, 1, 2, 0, 0, 0), (44, .iload 5, 46, 0, 0, 0, 0, 0), (46, .iload 4, 48, 0, 0, 0, 0, 0)],
  [(48, .invokestatic 121, 51, 0, 5, 1, 0, 0), (51, .aload_n 0, 52, 0, 0, 0, 0, 0), (52, .getfield 27, 55, 1, 3, 0, 0, 0), (55, .iload_n 1, 56, 0, 0, 0, 0, 0), (56, .iload 5, 58, 0, 0, 0, 0, 0), (58, .ineg, 59, 0, 0, 0, 0, 0), (59, .i2l, 60, 0, 0, 0, 0, 0), (60, .lastore, 61, 0, 0, 0, 0, 0), (61, .aload_n 0, 62, 0, 0, 0, 0, 0), (62, .dup, 63, 0, 0, 0, 0, 0), (63, .getfield 30, 66, 1, 4, 0, 0, 0)],
  [(66, .iload 4, 68, 0, 0, 0, 0, 0), (68, .iadd, 69, 0, 0, 0, 0, 0), (69, .putfield 30, 72, 1, 4, 0, 0, 0), (72, .iload 5, 74, 0, 0, 0, 0, 0), (74, .ireturn, 75, 0, 0, 0, 0, 0)]]
/-- MovingHeap$Heap.moveReferred(I)V -/
def tb_32 : List (List mm_I) := [
  [(0, .aload_n 0, 1, 0, 0, 0, 0, 0), (1, .getfield 23, 4, 1, 2, 0, 0, 0), (4, .iload_n 1, 5, 0, 0, 0, 0, 0), (5, .laload, 6, 0, 0, 0, 0, 0), (6, .lstore_n 2, 7, 0, 0, 0, 0, 0), (7, .lload_n 2, 8, 0, 0, 0, 0, 0), (8, .invokestatic 127, 11, 7, 1, 0, 0, 0), (11, .ifCond .eq 10, 14, 21, 0, 0, 0, 0), (14, .lload_n 2, 15, 0, 0, 0, 0, 0), (15, .invokestatic 50, 18, 4, 1, 0, 0, 0)],
  [(18, .goto 4, 21, 22, 0, 0, 0, 0), (21, .iconst 0, 22, 0, 0, 0, 0, 0), (22, .istore 4, 24, 0, 0, 0, 0, 0), (24, .iconst 0, 25, 0, 0, 0, 0, 0), (25, .istore 5, 27, 0, 0, 0, 0, 0), (27, .iload 5, 29, 0, 0, 0, 0, 0), (29, .iload 4, 31, 0, 0, 0, 0, 0), (31, .if_icmp .ge 53, 34, 84, 0, 0, 0, 0)],
  [(34, .aload_n 0, 35, 0, 0, 0, 0, 0), (35, .getfield 23, 38, 1, 2, 0, 0, 0), (38, .iload_n 1, 39, 0, 0, 0, 0, 0), (39, .iconst 1, 40, 0, 0, 0, 1, 0), (40, .iadd, 41, 0, 0, 0, 0, 0), (41, .iload 5, 43, 0, 0, 0, 0, 0), (43, .iadd, 44, 0, 0, 0, 0, 0), (44, .laload, 45, 0, 0, 0, 0, 0), (45, .lconst 0, 46, 0, 0, 0, 0, 0), (46, .lcmp, 47, 0, 0, 0, 0, 0), (47, .ifCond .eq 31, 50, 78, 0, 0, 0, 0)],
  [(50, .aload_n 0, 51, 0, 0, 0, 0, 0), (51, .lload_n 2, 52, 0, 0, 0, 0, 0), (52, .iload 5, 54, 0, 0, 0, 0, 0), (54, .invokevirtual 68, 57, 16, 3, 0, 0, 0), (57, .ifCond .eq 21, 60, 78, 0, 0, 0, 0), (60, .aload_n 0, 61, 0, 0, 0, 0, 0), (61, .iload_n 1, 62, 0, 0, 0, 0, 0), (62, .iload 5, 64, 0, 0, 0, 0, 0)],
  [(64, .aload_n 0, 65, 0, 0, 0, 0, 0), (65, .aload_n 0, 66, 0, 0, 0, 0, 0), (66, .iload_n 1, 67, 0, 0, 0, 0, 0), (67, .iload 5, 69, 0, 0, 0, 0, 0), (69, .invokevirtual 130, 72, 19, 3, 0, 0, 0), (72, .invokevirtual 102, 75, 31, 2, 0, 0, 0), (75, .invokevirtual 72, 78, 20, 4, 0, 0, 0), (78, .iinc 5 1, 81, 0, 0, 0, 1, 0)],
  [(81, .goto (-54), 84, 27, 0, 0, 0, 0), (84, .return_, 85, 0, 0, 0, 0, 0)]]
/-- MovingHeap$Heap.markHeads()V -/
def tb_33 : List (List mm_I) := [
  [(0, .aload_n 0, 1, 0, 0, 0, 0, 0), (1, .getfield 27, 4, 1, 3, 0, 0, 0), (4, .iconst 1, 5, 0, 0, 0, 1, 0), (5, .aload_n 0, 6, 0, 0, 0, 0, 0), (6, .getfield 30, 9, 1, 4, 0, 0, 0), (9, .lconst 0, 10, 0, 0, 0, 0, 0), (10, .invokestatic 96, 13, 102, 4, 0, 0, 0), (13, .iconst 1, 14, 0, 0, 0, 1, 0), (14, .istore_n 1, 15, 0, 0, 0, 0, 0), (15, .iconst 0, 16, 0, 0, 0, 0, 0)],
  [(16, .istore_n 2, 17, 0, 0, 0, 0, 0), (17, .iload_n 2, 18, 0, 0, 0, 0, 0), (18, .ldc 88, 20, 0, 0, 0, 180000, 0), (20, .if_icmp .ge 36, 23, 56, 0, 0, 0, 0), (23, .iload_n 1, 24, 0, 0, 0, 0, 0), (24, .aload_n 0, 25, 0, 0, 0, 0, 0), (25, .getfield 30, 28, 1, 4, 0, 0, 0), (28, .if_icmp .ge 28, 31, 56, 0, 0, 0, 0), (31, .aload_n 0, 32, 0, 0, 0, 0, 0)],
  [(32, .getfield 27, 35, 1, 3, 0, 0, 0), (35, .iload_n 1, 36, 0, 0, 0, 0, 0), (36, .lconst 1, 37, 0, 0, 0, 0, 1), (37, .lastore, 38, 0, 0, 0, 0, 0), (38, .iload_n 1, 39, 0, 0, 0, 0, 0), (39, .aload_n 0, 40, 0, 0, 0, 0, 0), (40, .getfield 23, 43, 1, 2, 0, 0, 0), (43, .iload_n 1, 44, 0, 0, 0, 0, 0), (44, .laload, 45, 0, 0, 0, 0, 0), (45, .invokestatic 89, 48, 5, 1, 0, 0, 0)],
  [(48, .iadd, 49, 0, 0, 0, 0, 0), (49, .istore_n 1, 50, 0, 0, 0, 0, 0), (50, .iinc 2 1, 53, 0, 0, 0, 1, 0), (53, .goto (-36), 56, 17, 0, 0, 0, 0), (56, .return_, 57, 0, 0, 0, 0, 0)]]
/-- MovingHeap$Heap.lookAt(I)I -/
def tb_34 : List (List mm_I) := [
  [(0, .iload_n 1, 1, 0, 0, 0, 0, 0), (1, .ifCond .ne 5, 4, 6, 0, 0, 0, 0), (4, .iconst 0, 5, 0, 0, 0, 0, 0), (5, .ireturn, 6, 0, 0, 0, 0, 0), (6, .iload_n 1, 7, 0, 0, 0, 0, 0), (7, .iconst 1, 8, 0, 0, 0, 1, 0), (8, .if_icmp .lt 22, 11, 30, 0, 0, 0, 0), (11, .iload_n 1, 12, 0, 0, 0, 0, 0), (12, .aload_n 0, 13, 0, 0, 0, 0, 0), (13, .getfield 30, 16, 1, 4, 0, 0, 0)],
  [(16, .if_icmp .ge 14, 19, 30, 0, 0, 0, 0), (19, .aload_n 0, 20, 0, 0, 0, 0, 0), (20, .getfield 27, 23, 1, 3, 0, 0, 0), (23, .iload_n 1, 24, 0, 0, 0, 0, 0), (24, .laload, 25, 0, 0, 0, 0, 0), (25, .lconst 0, 26, 0, 0, 0, 0, 0), (26, .lcmp, 27, 0, 0, 0, 0, 0), (27, .ifCond .ne 5, 30, 32, 0, 0, 0, 0), (30, .iconst 1, 31, 0, 0, 0, 1, 0), (31, .ireturn, 32, 0, 0, 0, 0, 0)],
  [(32, .aload_n 0, 33, 0, 0, 0, 0, 0), (33, .getfield 27, 36, 1, 3, 0, 0, 0), (36, .iload_n 1, 37, 0, 0, 0, 0, 0), (37, .laload, 38, 0, 0, 0, 0, 0), (38, .lconst 1, 39, 0, 0, 0, 0, 1), (39, .lcmp, 40, 0, 0, 0, 0, 0), (40, .ifCond .ne 25, 43, 65, 0, 0, 0, 0), (43, .aload_n 0, 44, 0, 0, 0, 0, 0), (44, .getfield 27, 47, 1, 3, 0, 0, 0), (47, .iload_n 1, 48, 0, 0, 0, 0, 0)],
  [(48, .ldc2_w 133, 51, 0, 0, 0, 0, 2), (51, .aload_n 0, 52, 0, 0, 0, 0, 0), (52, .getfield 112, 55, 1, 7, 0, 0, 0), (55, .i2l, 56, 0, 0, 0, 0, 0), (56, .iconst 2, 57, 0, 0, 0, 2, 0), (57, .lshl, 58, 0, 0, 0, 0, 0), (58, .lor, 59, 0, 0, 0, 0, 0), (59, .lastore, 60, 0, 0, 0, 0, 0), (60, .aload_n 0, 61, 0, 0, 0, 0, 0), (61, .iload_n 1, 62, 0, 0, 0, 0, 0), (62, .putfield 112, 65, 1, 7, 0, 0, 0)],
  [(65, .iconst 0, 66, 0, 0, 0, 0, 0), (66, .ireturn, 67, 0, 0, 0, 0, 0)]]
/-- MovingHeap$Heap.lookBehind(I)I -/
def tb_35 : List (List mm_I) := [
  [(0, .aload_n 0, 1, 0, 0, 0, 0, 0), (1, .getfield 23, 4, 1, 2, 0, 0, 0), (4, .iload_n 1, 5, 0, 0, 0, 0, 0), (5, .laload, 6, 0, 0, 0, 0, 0), (6, .lstore_n 2, 7, 0, 0, 0, 0, 0), (7, .lload_n 2, 8, 0, 0, 0, 0, 0), (8, .invokestatic 127, 11, 7, 1, 0, 0, 0), (11, .ifCond .eq 10, 14, 21, 0, 0, 0, 0), (14, .lload_n 2, 15, 0, 0, 0, 0, 0), (15, .invokestatic 50, 18, 4, 1, 0, 0, 0)],
  [(18, .goto 4, 21, 22, 0, 0, 0, 0), (21, .iconst 0, 22, 0, 0, 0, 0, 0), (22, .istore 4, 24, 0, 0, 0, 0, 0), (24, .iconst 0, 25, 0, 0, 0, 0, 0), (25, .istore 5, 27, 0, 0, 0, 0, 0), (27, .iconst 0, 28, 0, 0, 0, 0, 0), (28, .istore 6, 30, 0, 0, 0, 0, 0), (30, .iload 6, 32, 0, 0, 0, 0, 0)],
  [(32, .iload 4, 34, 0, 0, 0, 0, 0), (34, .if_icmp .ge 51, 37, 85, 0, 0, 0, 0), (37, .aload_n 0, 38, 0, 0, 0, 0, 0), (38, .getfield 23, 41, 1, 2, 0, 0, 0), (41, .iload_n 1, 42, 0, 0, 0, 0, 0), (42, .iconst 1, 43, 0, 0, 0, 1, 0), (43, .iadd, 44, 0, 0, 0, 0, 0), (44, .iload 6, 46, 0, 0, 0, 0, 0), (46, .iadd, 47, 0, 0, 0, 0, 0), (47, .laload, 48, 0, 0, 0, 0, 0)],
  [(48, .lconst 0, 49, 0, 0, 0, 0, 0), (49, .lcmp, 50, 0, 0, 0, 0, 0), (50, .ifCond .eq 29, 53, 79, 0, 0, 0, 0), (53, .aload_n 0, 54, 0, 0, 0, 0, 0), (54, .lload_n 2, 55, 0, 0, 0, 0, 0), (55, .iload 6, 57, 0, 0, 0, 0, 0), (57, .invokevirtual 68, 60, 16, 3, 0, 0, 0), (60, .ifCond .eq 19, 63, 79, 0, 0, 0, 0), (63, .iload 5, 65, 0, 0, 0, 0, 0)],
  [(65, .aload_n 0, 66, 0, 0, 0, 0, 0), (66, .aload_n 0, 67, 0, 0, 0, 0, 0), (67, .iload_n 1, 68, 0, 0, 0, 0, 0), (68, .iload 6, 70, 0, 0, 0, 0, 0), (70, .invokevirtual 130, 73, 19, 3, 0, 0, 0), (73, .invokevirtual 115, 76, 34, 2, 0, 0, 0), (76, .iadd, 77, 0, 0, 0, 0, 0), (77, .istore 5, 79, 0, 0, 0, 0, 0), (79, .iinc 6 1, 82, 0, 0, 0, 1, 0)],
  [(82, .goto (-52), 85, 30, 0, 0, 0, 0), (85, .iload 5, 87, 0, 0, 0, 0, 0), (87, .ireturn, 88, 0, 0, 0, 0, 0)]]
/-- MovingHeap.<init>()V -/
def tb_36 : List (List mm_I) := [
  [(0, .aload_n 0, 1, 0, 0, 0, 0, 0), (1, .invokespecial 1, 4, 0, 1, 1, 0, 0), (4, .aload_n 0, 5, 0, 0, 0, 0, 0), (5, .new 7, 8, 1, 8, 0, 0, 0), (8, .dup, 9, 0, 0, 0, 0, 0), (9, .invokespecial 9, 12, 13, 1, 0, 0, 0), (12, .putfield 10, 15, 0, 1, 1, 0, 0), (15, .aload_n 0, 16, 0, 0, 0, 0, 0)],
  [(16, .aload_n 0, 17, 0, 0, 0, 0, 0), (17, .getfield 10, 20, 0, 1, 0, 0, 0), (20, .getfield 16, 23, 1, 0, 0, 0, 0), (23, .putfield 20, 26, 0, 0, 1, 0, 0), (26, .return_, 27, 0, 0, 0, 0, 0)]]
/-- MovingHeap.shape(IIII)I -/
def tb_37 : List (List mm_I) := [
  [(0, .iload_n 1, 1, 0, 0, 0, 0, 0), (1, .iconst (-1), 2, 0, 0, 0, (-1), 0), (2, .if_icmp .eq 24, 5, 26, 0, 0, 0, 0), (5, .aload_n 0, 6, 0, 0, 0, 0, 0), (6, .getfield 20, 9, 0, 0, 0, 0, 0), (9, .iload_n 1, 10, 0, 0, 0, 0, 0), (10, .invokevirtual 21, 13, 9, 2, 0, 0, 0), (13, .ifCond .ne 13, 16, 26, 0, 0, 0, 0)],
  [(16, .new 27, 19, 0, 0, 1, 0, 0), (26, .iload_n 2, 27, 0, 0, 0, 0, 0), (27, .ifCond .lt 9, 30, 36, 0, 0, 0, 0), (30, .iload_n 2, 31, 0, 0, 0, 0, 0), (31, .bipush 16, 33, 0, 0, 0, 16, 0)],
  [(33, .if_icmp .le 13, 36, 46, 0, 0, 0, 0), (36, .new 27, 39, 0, 0, 1, 0, 0), (46, .iload 4, 48, 0, 0, 0, 0, 0)],
  [(48, .ifCond .lt 11, 51, 59, 0, 0, 0, 0), (51, .iload 4, 53, 0, 0, 0, 0, 0), (53, .sipush 1000, 56, 0, 0, 0, 1000, 0), (56, .if_icmp .le 13, 59, 69, 0, 0, 0, 0), (59, .new 27, 62, 0, 0, 1, 0, 0)],
  [(69, .aload_n 0, 70, 0, 0, 0, 0, 0), (70, .getfield 20, 73, 0, 0, 0, 0, 0), (73, .iload_n 1, 74, 0, 0, 0, 0, 0), (74, .iload_n 2, 75, 0, 0, 0, 0, 0), (75, .invokevirtual 38, 78, 10, 3, 0, 0, 0), (78, .ifCond .ne 13, 81, 91, 0, 0, 0, 0)],
  [(81, .new 42, 84, 1, 0, 1, 0, 0), (91, .aload_n 0, 92, 0, 0, 0, 0, 0), (92, .getfield 20, 95, 0, 0, 0, 0, 0), (95, .iload_n 1, 96, 0, 0, 0, 0, 0)],
  [(96, .iload_n 2, 97, 0, 0, 0, 0, 0), (97, .iload_n 3, 98, 0, 0, 0, 0, 0), (98, .iload 4, 100, 0, 0, 0, 0, 0), (100, .invokevirtual 47, 103, 11, 5, 0, 0, 0), (103, .ireturn, 104, 0, 0, 0, 0, 0)]]
/-- MovingHeap.object(IIZ)I -/
def tb_38 : List (List mm_I) := [
  [(0, .iload_n 1, 1, 0, 0, 0, 0, 0), (1, .invokestatic 51, 4, 52, 1, 0, 0, 0), (4, .aload_n 0, 5, 0, 0, 0, 0, 0), (5, .getfield 20, 8, 0, 0, 0, 0, 0), (8, .iload_n 2, 9, 0, 0, 0, 0, 0), (9, .invokevirtual 21, 12, 9, 2, 0, 0, 0), (12, .ifCond .ne 13, 15, 25, 0, 0, 0, 0), (15, .new 27, 18, 0, 0, 1, 0, 0)],
  [(25, .aload_n 0, 26, 0, 0, 0, 0, 0), (26, .getfield 10, 29, 0, 1, 0, 0, 0), (29, .iload_n 1, 30, 0, 0, 0, 0, 0), (30, .aload_n 0, 31, 0, 0, 0, 0, 0), (31, .iconst 1, 32, 0, 0, 0, 1, 0)],
  [(32, .iload_n 3, 33, 0, 0, 0, 0, 0), (33, .iload_n 2, 34, 0, 0, 0, 0, 0), (34, .aload_n 0, 35, 0, 0, 0, 0, 0), (35, .getfield 20, 38, 0, 0, 0, 0, 0), (38, .getfield 57, 41, 2, 1, 0, 0, 0), (41, .iload_n 2, 42, 0, 0, 0, 0, 0), (42, .iaload, 43, 0, 0, 0, 0, 0), (43, .invokestatic 61, 46, 0, 4, 0, 0, 0), (46, .invokevirtual 67, 49, 57, 2, 0, 0, 0)],
  [(49, .invokevirtual 71, 52, 22, 3, 0, 0, 0), (52, .ireturn, 53, 0, 0, 0, 0, 0)]]
/-- MovingHeap.array(IIZ)I -/
def tb_39 : List (List mm_I) := [
  [(0, .iload_n 1, 1, 0, 0, 0, 0, 0), (1, .invokestatic 51, 4, 52, 1, 0, 0, 0), (4, .iload_n 2, 5, 0, 0, 0, 0, 0), (5, .invokestatic 75, 8, 53, 1, 0, 0, 0), (8, .aload_n 0, 9, 0, 0, 0, 0, 0), (9, .getfield 10, 12, 0, 1, 0, 0, 0), (12, .iload_n 1, 13, 0, 0, 0, 0, 0), (13, .aload_n 0, 14, 0, 0, 0, 0, 0), (14, .iload_n 3, 15, 0, 0, 0, 0, 0), (15, .ifCond .eq 7, 18, 22, 0, 0, 0, 0)],
  [(18, .iconst 3, 19, 0, 0, 0, 3, 0), (19, .goto 4, 22, 23, 0, 0, 0, 0), (22, .iconst 2, 23, 0, 0, 0, 2, 0), (23, .iconst 0, 24, 0, 0, 0, 0, 0), (24, .iconst 0, 25, 0, 0, 0, 0, 0), (25, .iload_n 2, 26, 0, 0, 0, 0, 0), (26, .invokestatic 61, 29, 0, 4, 0, 0, 0), (29, .invokevirtual 67, 32, 57, 2, 0, 0, 0)],
  [(32, .invokevirtual 71, 35, 22, 3, 0, 0, 0), (35, .ireturn, 36, 0, 0, 0, 0, 0)]]
/-- MovingHeap.text(IIZ)I -/
def tb_40 : List (List mm_I) := [
  [(0, .iload_n 1, 1, 0, 0, 0, 0, 0), (1, .invokestatic 51, 4, 52, 1, 0, 0, 0), (4, .iload_n 2, 5, 0, 0, 0, 0, 0), (5, .invokestatic 75, 8, 53, 1, 0, 0, 0), (8, .aload_n 0, 9, 0, 0, 0, 0, 0), (9, .getfield 10, 12, 0, 1, 0, 0, 0), (12, .iload_n 1, 13, 0, 0, 0, 0, 0), (13, .aload_n 0, 14, 0, 0, 0, 0, 0), (14, .iconst 4, 15, 0, 0, 0, 4, 0), (15, .iload_n 3, 16, 0, 0, 0, 0, 0)],
  [(16, .iconst 0, 17, 0, 0, 0, 0, 0), (17, .iload_n 2, 18, 0, 0, 0, 0, 0), (18, .invokestatic 61, 21, 0, 4, 0, 0, 0), (21, .invokevirtual 67, 24, 57, 2, 0, 0, 0), (24, .invokevirtual 71, 27, 22, 3, 0, 0, 0), (27, .ireturn, 28, 0, 0, 0, 0, 0)]]
/-- MovingHeap.closure(IIII)I -/
def tb_41 : List (List mm_I) := [
  [(0, .iload_n 1, 1, 0, 0, 0, 0, 0), (1, .invokestatic 51, 4, 52, 1, 0, 0, 0), (4, .iload_n 2, 5, 0, 0, 0, 0, 0), (5, .ifCond .lt 9, 8, 14, 0, 0, 0, 0), (8, .iload_n 2, 9, 0, 0, 0, 0, 0), (9, .bipush 8, 11, 0, 0, 0, 8, 0), (11, .if_icmp .le 13, 14, 24, 0, 0, 0, 0), (14, .new 27, 17, 0, 0, 1, 0, 0)],
  [(24, .iload_n 2, 25, 0, 0, 0, 0, 0), (25, .ifCond .le 27, 28, 52, 0, 0, 0, 0), (28, .iload 4, 30, 0, 0, 0, 0, 0), (30, .ifCond .lt 12, 33, 42, 0, 0, 0, 0)],
  [(33, .iload 4, 35, 0, 0, 0, 0, 0), (35, .bipush 64, 37, 0, 0, 0, 64, 0), (37, .iload_n 2, 38, 0, 0, 0, 0, 0), (38, .isub, 39, 0, 0, 0, 0, 0), (39, .if_icmp .le 13, 42, 52, 0, 0, 0, 0), (42, .new 80, 45, 2, 0, 1, 0, 0)],
  [(52, .aload_n 0, 53, 0, 0, 0, 0, 0), (53, .iconst 5, 54, 0, 0, 0, 5, 0), (54, .iconst 0, 55, 0, 0, 0, 0, 0), (55, .iload_n 3, 56, 0, 0, 0, 0, 0), (56, .iconst 1, 57, 0, 0, 0, 1, 0), (57, .iload_n 2, 58, 0, 0, 0, 0, 0), (58, .ishl, 59, 0, 0, 0, 0, 0), (59, .iconst 1, 60, 0, 0, 0, 1, 0), (60, .isub, 61, 0, 0, 0, 0, 0), (61, .iand, 62, 0, 0, 0, 0, 0), (62, .iload_n 2, 63, 0, 0, 0, 0, 0), (63, .invokestatic 61, 66, 0, 4, 0, 0, 0)],
  [(66, .invokevirtual 67, 69, 57, 2, 0, 0, 0), (69, .istore 5, 71, 0, 0, 0, 0, 0), (71, .aload_n 0, 72, 0, 0, 0, 0, 0), (72, .getfield 10, 75, 0, 1, 0, 0, 0), (75, .iload 5, 77, 0, 0, 0, 0, 0), (77, .iload 4, 79, 0, 0, 0, 0, 0), (79, .invokevirtual 85, 82, 21, 3, 0, 0, 0)],
  [(82, .aload_n 0, 83, 0, 0, 0, 0, 0), (83, .getfield 10, 86, 0, 1, 0, 0, 0), (86, .iload_n 1, 87, 0, 0, 0, 0, 0), (87, .iload 5, 89, 0, 0, 0, 0, 0), (89, .invokevirtual 71, 92, 22, 3, 0, 0, 0), (92, .ireturn, 93, 0, 0, 0, 0, 0)]]
/-- MovingHeap.put(IIJ)J -/
def tb_42 : List (List mm_I) := [
  [(0, .aload_n 0, 1, 0, 0, 0, 0, 0), (1, .iload_n 1, 2, 0, 0, 0, 0, 0), (2, .iload_n 2, 3, 0, 0, 0, 0, 0), (3, .invokevirtual 89, 6, 55, 3, 0, 0, 0), (6, .istore 5, 8, 0, 0, 0, 0, 0), (8, .aload_n 0, 9, 0, 0, 0, 0, 0), (9, .getfield 10, 12, 0, 1, 0, 0, 0), (12, .iload 5, 14, 0, 0, 0, 0, 0), (14, .iload_n 2, 15, 0, 0, 0, 0, 0), (15, .invokevirtual 92, 18, 17, 3, 0, 0, 0)],
  [(18, .lstore 6, 20, 0, 0, 0, 0, 0), (20, .aload_n 0, 21, 0, 0, 0, 0, 0), (21, .getfield 10, 24, 0, 1, 0, 0, 0), (24, .iload 5, 26, 0, 0, 0, 0, 0), (26, .iload_n 2, 27, 0, 0, 0, 0, 0), (27, .lload_n 3, 28, 0, 0, 0, 0, 0), (28, .invokevirtual 96, 31, 18, 4, 0, 0, 0), (31, .lload 6, 33, 0, 0, 0, 0, 0)],
  [(33, .lreturn, 34, 0, 0, 0, 0, 0)]]
/-- MovingHeap.get(II)J -/
def tb_43 : List (List mm_I) := [
  [(0, .aload_n 0, 1, 0, 0, 0, 0, 0), (1, .getfield 10, 4, 0, 1, 0, 0, 0), (4, .aload_n 0, 5, 0, 0, 0, 0, 0), (5, .iload_n 1, 6, 0, 0, 0, 0, 0), (6, .iload_n 2, 7, 0, 0, 0, 0, 0), (7, .invokevirtual 89, 10, 55, 3, 0, 0, 0), (10, .iload_n 2, 11, 0, 0, 0, 0, 0), (11, .invokevirtual 92, 14, 17, 3, 0, 0, 0), (14, .lreturn, 15, 0, 0, 0, 0, 0)]]
/-- MovingHeap.link(III)V -/
def tb_44 : List (List mm_I) := [
  [(0, .aload_n 0, 1, 0, 0, 0, 0, 0), (1, .iload_n 1, 2, 0, 0, 0, 0, 0), (2, .iload_n 2, 3, 0, 0, 0, 0, 0), (3, .iload_n 3, 4, 0, 0, 0, 0, 0), (4, .invokevirtual 100, 7, 56, 4, 0, 0, 0), (7, .istore 4, 9, 0, 0, 0, 0, 0), (9, .aload_n 0, 10, 0, 0, 0, 0, 0), (10, .getfield 10, 13, 0, 1, 0, 0, 0), (13, .iload 4, 15, 0, 0, 0, 0, 0), (15, .iload_n 2, 16, 0, 0, 0, 0, 0)],
  [(16, .aload_n 0, 17, 0, 0, 0, 0, 0), (17, .getfield 10, 20, 0, 1, 0, 0, 0), (20, .getfield 104, 23, 1, 1, 0, 0, 0), (23, .iload_n 3, 24, 0, 0, 0, 0, 0), (24, .iaload, 25, 0, 0, 0, 0, 0), (25, .invokevirtual 107, 28, 20, 4, 0, 0, 0), (28, .return_, 29, 0, 0, 0, 0, 0)]]
/-- MovingHeap.follow(III)V -/
def tb_45 : List (List mm_I) := [
  [(0, .aload_n 0, 1, 0, 0, 0, 0, 0), (1, .iload_n 1, 2, 0, 0, 0, 0, 0), (2, .iload_n 2, 3, 0, 0, 0, 0, 0), (3, .iload_n 3, 4, 0, 0, 0, 0, 0), (4, .invokevirtual 100, 7, 56, 4, 0, 0, 0), (7, .istore 4, 9, 0, 0, 0, 0, 0), (9, .aload_n 0, 10, 0, 0, 0, 0, 0), (10, .getfield 10, 13, 0, 1, 0, 0, 0), (13, .getfield 104, 16, 1, 1, 0, 0, 0)],
  [(16, .iload_n 3, 17, 0, 0, 0, 0, 0), (17, .aload_n 0, 18, 0, 0, 0, 0, 0), (18, .getfield 10, 21, 0, 1, 0, 0, 0), (21, .iload 4, 23, 0, 0, 0, 0, 0), (23, .iload_n 2, 24, 0, 0, 0, 0, 0), (24, .invokevirtual 111, 27, 19, 3, 0, 0, 0), (27, .iastore, 28, 0, 0, 0, 0, 0), (28, .return_, 29, 0, 0, 0, 0, 0)]]
/-- MovingHeap.hold(II)V -/
def tb_46 : List (List mm_I) := [
  [(0, .iload_n 1, 1, 0, 0, 0, 0, 0), (1, .invokestatic 51, 4, 52, 1, 0, 0, 0), (4, .iload_n 2, 5, 0, 0, 0, 0, 0), (5, .iconst (-1), 6, 0, 0, 0, (-1), 0), (6, .if_icmp .ne 14, 9, 20, 0, 0, 0, 0), (9, .aload_n 0, 10, 0, 0, 0, 0, 0), (10, .getfield 10, 13, 0, 1, 0, 0, 0), (13, .getfield 104, 16, 1, 1, 0, 0, 0)],
  [(16, .iload_n 1, 17, 0, 0, 0, 0, 0), (17, .iconst 0, 18, 0, 0, 0, 0, 0), (18, .iastore, 19, 0, 0, 0, 0, 0), (19, .return_, 20, 0, 0, 0, 0, 0), (20, .iload_n 2, 21, 0, 0, 0, 0, 0), (21, .invokestatic 51, 24, 52, 1, 0, 0, 0), (24, .aload_n 0, 25, 0, 0, 0, 0, 0), (25, .getfield 10, 28, 0, 1, 0, 0, 0), (28, .getfield 104, 31, 1, 1, 0, 0, 0), (31, .iload_n 1, 32, 0, 0, 0, 0, 0)],
  [(32, .aload_n 0, 33, 0, 0, 0, 0, 0), (33, .getfield 10, 36, 0, 1, 0, 0, 0), (36, .getfield 104, 39, 1, 1, 0, 0, 0), (39, .iload_n 2, 40, 0, 0, 0, 0, 0), (40, .iaload, 41, 0, 0, 0, 0, 0), (41, .iastore, 42, 0, 0, 0, 0, 0), (42, .return_, 43, 0, 0, 0, 0, 0)]]
/-- MovingHeap.told(II)I -/
def tb_47 : List (List mm_I) := [
  [(0, .iload_n 1, 1, 0, 0, 0, 0, 0), (1, .invokestatic 51, 4, 52, 1, 0, 0, 0), (4, .aload_n 0, 5, 0, 0, 0, 0, 0), (5, .getfield 10, 8, 0, 1, 0, 0, 0), (8, .aload_n 0, 9, 0, 0, 0, 0, 0), (9, .getfield 10, 12, 0, 1, 0, 0, 0), (12, .getfield 104, 15, 1, 1, 0, 0, 0), (15, .iload_n 1, 16, 0, 0, 0, 0, 0)],
  [(16, .iaload, 17, 0, 0, 0, 0, 0), (17, .invokevirtual 114, 20, 14, 2, 0, 0, 0), (20, .lstore_n 3, 21, 0, 0, 0, 0, 0), (21, .iload_n 2, 22, 0, 0, 0, 0, 0), (22, .tableswitch 73 0 3 #[30, 35, 55, 64], 52, 95, 0, 0, 0, 0)],
  [],
  [(52, .lload_n 3, 53, 0, 0, 0, 0, 0), (53, .invokestatic 118, 56, 1, 1, 0, 0, 0), (56, .ireturn, 57, 0, 0, 0, 0, 0), (57, .lload_n 3, 58, 0, 0, 0, 0, 0), (58, .invokestatic 118, 61, 1, 1, 0, 0, 0), (61, .iconst 1, 62, 0, 0, 0, 1, 0), (62, .if_icmp .ne 10, 65, 72, 0, 0, 0, 0)],
  [(65, .lload_n 3, 66, 0, 0, 0, 0, 0), (66, .invokestatic 121, 69, 3, 1, 0, 0, 0), (69, .goto 7, 72, 76, 0, 0, 0, 0), (72, .lload_n 3, 73, 0, 0, 0, 0, 0), (73, .invokestatic 124, 76, 4, 1, 0, 0, 0), (76, .ireturn, 77, 0, 0, 0, 0, 0), (77, .aload_n 0, 78, 0, 0, 0, 0, 0), (78, .getfield 10, 81, 0, 1, 0, 0, 0)],
  [(81, .lload_n 3, 82, 0, 0, 0, 0, 0), (82, .invokevirtual 127, 85, 15, 2, 0, 0, 0), (85, .ireturn, 86, 0, 0, 0, 0, 0), (86, .aload_n 0, 87, 0, 0, 0, 0, 0), (87, .getfield 10, 90, 0, 1, 0, 0, 0), (90, .iload_n 1, 91, 0, 0, 0, 0, 0), (91, .invokevirtual 130, 94, 23, 2, 0, 0, 0), (94, .ireturn, 95, 0, 0, 0, 0, 0), (95, .new 27, 98, 0, 0, 1, 0, 0)]]
/-- MovingHeap.collect()I -/
def tb_48 : List (List mm_I) := [
  [(0, .aload_n 0, 1, 0, 0, 0, 0, 0), (1, .getfield 10, 4, 0, 1, 0, 0, 0), (4, .invokevirtual 136, 7, 26, 1, 0, 0, 0), (7, .aload_n 0, 8, 0, 0, 0, 0, 0), (8, .getfield 10, 11, 0, 1, 0, 0, 0), (11, .getfield 139, 14, 1, 5, 0, 0, 0), (14, .ireturn, 15, 0, 0, 0, 0, 0)]]
/-- MovingHeap.every(I)I -/
def tb_49 : List (List mm_I) := [
  [(0, .iload_n 1, 1, 0, 0, 0, 0, 0), (1, .ifCond .ge 13, 4, 14, 0, 0, 0, 0), (4, .new 27, 7, 0, 0, 1, 0, 0), (14, .aload_n 0, 15, 0, 0, 0, 0, 0), (15, .getfield 145, 18, 0, 2, 0, 0, 0)],
  [(18, .istore_n 2, 19, 0, 0, 0, 0, 0), (19, .aload_n 0, 20, 0, 0, 0, 0, 0), (20, .iload_n 1, 21, 0, 0, 0, 0, 0), (21, .putfield 145, 24, 0, 2, 0, 0, 0), (24, .aload_n 0, 25, 0, 0, 0, 0, 0), (25, .iload_n 1, 26, 0, 0, 0, 0, 0), (26, .putfield 148, 29, 0, 3, 0, 0, 0), (29, .iload_n 2, 30, 0, 0, 0, 0, 0), (30, .ireturn, 31, 0, 0, 0, 0, 0)]]
/-- MovingHeap.made()I -/
def tb_50 : List (List mm_I) := [
  [(0, .aload_n 0, 1, 0, 0, 0, 0, 0), (1, .getfield 151, 4, 0, 4, 0, 0, 0), (4, .ireturn, 5, 0, 0, 0, 0, 0)]]
/-- MovingHeap.audit()I -/
def tb_51 : List (List mm_I) := [
  [(0, .aload_n 0, 1, 0, 0, 0, 0, 0), (1, .getfield 10, 4, 0, 1, 0, 0, 0), (4, .invokevirtual 154, 7, 27, 1, 0, 0, 0), (7, .ireturn, 8, 0, 0, 0, 0, 0)]]
/-- MovingHeap.requireRoot(I)V -/
def tb_52 : List (List mm_I) := [
  [(0, .iload_n 0, 1, 0, 0, 0, 0, 0), (1, .ifCond .lt 9, 4, 10, 0, 0, 0, 0), (4, .iload_n 0, 5, 0, 0, 0, 0, 0), (5, .bipush 64, 7, 0, 0, 0, 64, 0), (7, .if_icmp .lt 13, 10, 20, 0, 0, 0, 0), (10, .new 80, 13, 2, 0, 1, 0, 0)],
  [(20, .return_, 21, 0, 0, 0, 0, 0)]]
/-- MovingHeap.requireLength(I)V -/
def tb_53 : List (List mm_I) := [
  [(0, .iload_n 0, 1, 0, 0, 0, 0, 0), (1, .ifCond .lt 9, 4, 10, 0, 0, 0, 0), (4, .iload_n 0, 5, 0, 0, 0, 0, 0), (5, .ldc 160, 7, 0, 0, 0, 100000, 0), (7, .if_icmp .le 13, 10, 20, 0, 0, 0, 0), (10, .new 27, 13, 0, 0, 1, 0, 0)],
  [(20, .return_, 21, 0, 0, 0, 0, 0)]]
/-- MovingHeap.thingWith(II)I -/
def tb_54 : List (List mm_I) := [
  [(0, .iload_n 1, 1, 0, 0, 0, 0, 0), (1, .invokestatic 51, 4, 52, 1, 0, 0, 0), (4, .aload_n 0, 5, 0, 0, 0, 0, 0), (5, .getfield 10, 8, 0, 1, 0, 0, 0), (8, .getfield 104, 11, 1, 1, 0, 0, 0), (11, .iload_n 1, 12, 0, 0, 0, 0, 0), (12, .iaload, 13, 0, 0, 0, 0, 0), (13, .istore_n 3, 14, 0, 0, 0, 0, 0), (14, .iload_n 2, 15, 0, 0, 0, 0, 0), (15, .ifCond .lt 18, 18, 33, 0, 0, 0, 0)],
  [(18, .iload_n 2, 19, 0, 0, 0, 0, 0), (19, .aload_n 0, 20, 0, 0, 0, 0, 0), (20, .getfield 10, 23, 0, 1, 0, 0, 0), (23, .iload_n 3, 24, 0, 0, 0, 0, 0), (24, .invokevirtual 114, 27, 14, 2, 0, 0, 0), (27, .invokestatic 124, 30, 4, 1, 0, 0, 0), (30, .if_icmp .lt 13, 33, 43, 0, 0, 0, 0)],
  [(33, .new 80, 36, 2, 0, 1, 0, 0), (43, .iload_n 3, 44, 0, 0, 0, 0, 0), (44, .ireturn, 45, 0, 0, 0, 0, 0)]]
/-- MovingHeap.thingWithNumber(II)I -/
def tb_55 : List (List mm_I) := [
  [(0, .aload_n 0, 1, 0, 0, 0, 0, 0), (1, .iload_n 1, 2, 0, 0, 0, 0, 0), (2, .iload_n 2, 3, 0, 0, 0, 0, 0), (3, .invokevirtual 165, 6, 54, 3, 0, 0, 0), (6, .istore_n 3, 7, 0, 0, 0, 0, 0), (7, .aload_n 0, 8, 0, 0, 0, 0, 0), (8, .getfield 10, 11, 0, 1, 0, 0, 0), (11, .aload_n 0, 12, 0, 0, 0, 0, 0), (12, .getfield 10, 15, 0, 1, 0, 0, 0), (15, .iload_n 3, 16, 0, 0, 0, 0, 0)],
  [(16, .invokevirtual 114, 19, 14, 2, 0, 0, 0), (19, .iload_n 2, 20, 0, 0, 0, 0, 0), (20, .invokevirtual 168, 23, 16, 3, 0, 0, 0), (23, .ifCond .eq 13, 26, 36, 0, 0, 0, 0), (26, .new 27, 29, 0, 0, 1, 0, 0)],
  [(36, .iload_n 3, 37, 0, 0, 0, 0, 0), (37, .ireturn, 38, 0, 0, 0, 0, 0)]]
/-- MovingHeap.thingWithReference(III)I -/
def tb_56 : List (List mm_I) := [
  [(0, .aload_n 0, 1, 0, 0, 0, 0, 0), (1, .iload_n 1, 2, 0, 0, 0, 0, 0), (2, .iload_n 2, 3, 0, 0, 0, 0, 0), (3, .invokevirtual 165, 6, 54, 3, 0, 0, 0), (6, .istore 4, 8, 0, 0, 0, 0, 0), (8, .iload_n 3, 9, 0, 0, 0, 0, 0), (9, .invokestatic 51, 12, 52, 1, 0, 0, 0), (12, .aload_n 0, 13, 0, 0, 0, 0, 0), (13, .getfield 10, 16, 0, 1, 0, 0, 0)],
  [(16, .aload_n 0, 17, 0, 0, 0, 0, 0), (17, .getfield 10, 20, 0, 1, 0, 0, 0), (20, .iload 4, 22, 0, 0, 0, 0, 0), (22, .invokevirtual 114, 25, 14, 2, 0, 0, 0), (25, .iload_n 2, 26, 0, 0, 0, 0, 0), (26, .invokevirtual 168, 29, 16, 3, 0, 0, 0), (29, .ifCond .ne 13, 32, 42, 0, 0, 0, 0)],
  [(32, .new 27, 35, 0, 0, 1, 0, 0), (42, .iload 4, 44, 0, 0, 0, 0, 0), (44, .ireturn, 45, 0, 0, 0, 0, 0)]]
/-- MovingHeap.make(J)I -/
def tb_57 : List (List mm_I) := [
  [(0, .aload_n 0, 1, 0, 0, 0, 0, 0), (1, .getfield 148, 4, 0, 3, 0, 0, 0), (4, .iconst 1, 5, 0, 0, 0, 1, 0), (5, .if_icmp .eq 14, 8, 19, 0, 0, 0, 0), (8, .aload_n 0, 9, 0, 0, 0, 0, 0), (9, .getfield 10, 12, 0, 1, 0, 0, 0), (12, .lload_n 1, 13, 0, 0, 0, 0, 0), (13, .invokevirtual 176, 16, 24, 2, 0, 0, 0)],
  [(16, .ifCond .ne 10, 19, 26, 0, 0, 0, 0), (19, .aload_n 0, 20, 0, 0, 0, 0, 0), (20, .getfield 10, 23, 0, 1, 0, 0, 0), (23, .invokevirtual 136, 26, 26, 1, 0, 0, 0), (26, .aload_n 0, 27, 0, 0, 0, 0, 0), (27, .getfield 10, 30, 0, 1, 0, 0, 0), (30, .lload_n 1, 31, 0, 0, 0, 0, 0), (31, .invokevirtual 176, 34, 24, 2, 0, 0, 0)],
  [(34, .ifCond .ne 13, 37, 47, 0, 0, 0, 0), (37, .new 42, 40, 1, 0, 1, 0, 0), (47, .aload_n 0, 48, 0, 0, 0, 0, 0)],
  [(48, .aload_n 0, 49, 0, 0, 0, 0, 0), (49, .getfield 148, 52, 0, 3, 0, 0, 0), (52, .iconst 1, 53, 0, 0, 0, 1, 0), (53, .if_icmp .le 12, 56, 65, 0, 0, 0, 0), (56, .aload_n 0, 57, 0, 0, 0, 0, 0), (57, .getfield 148, 60, 0, 3, 0, 0, 0), (60, .iconst 1, 61, 0, 0, 0, 1, 0), (61, .isub, 62, 0, 0, 0, 0, 0), (62, .goto 7, 65, 69, 0, 0, 0, 0)],
  [(65, .aload_n 0, 66, 0, 0, 0, 0, 0), (66, .getfield 145, 69, 0, 2, 0, 0, 0), (69, .putfield 148, 72, 0, 3, 0, 0, 0), (72, .aload_n 0, 73, 0, 0, 0, 0, 0), (73, .dup, 74, 0, 0, 0, 0, 0), (74, .getfield 151, 77, 0, 4, 0, 0, 0), (77, .aload_n 0, 78, 0, 0, 0, 0, 0), (78, .getfield 10, 81, 0, 1, 0, 0, 0)],
  [(81, .lload_n 1, 82, 0, 0, 0, 0, 0), (82, .invokevirtual 127, 85, 15, 2, 0, 0, 0), (85, .iadd, 86, 0, 0, 0, 0, 0), (86, .putfield 151, 89, 0, 4, 0, 0, 0), (89, .aload_n 0, 90, 0, 0, 0, 0, 0), (90, .getfield 10, 93, 0, 1, 0, 0, 0), (93, .lload_n 1, 94, 0, 0, 0, 0, 0), (94, .invokevirtual 181, 97, 25, 2, 0, 0, 0)],
  [(97, .ireturn, 98, 0, 0, 0, 0, 0)]]
/-- MovingHeapModel.<init>()V -/
def tb_58 : List (List mm_I) := [
  [(0, .aload_n 0, 1, 0, 0, 0, 0, 0), (1, .invokespecial 1, 4, 0, 1, 1, 0, 0), (4, .aload_n 0, 5, 0, 0, 0, 0, 0), (5, .bipush 100, 7, 0, 0, 0, 100, 0), (7, .newarray .int, 9, 0, 100, 0, 100, 0), (9, .putfield 7, 12, 3, 0, 1, 0, 0), (12, .aload_n 0, 13, 0, 0, 0, 0, 0), (13, .bipush 100, 15, 0, 0, 0, 100, 0), (15, .newarray .long, 17, 1, 100, 0, 100, 0)],
  [(17, .putfield 13, 20, 3, 1, 1, 0, 0), (20, .aload_n 0, 21, 0, 0, 0, 0, 0), (21, .bipush 100, 23, 0, 0, 0, 100, 0), (23, .newarray .int, 25, 0, 100, 0, 100, 0), (25, .putfield 17, 28, 3, 2, 1, 0, 0), (28, .aload_n 0, 29, 0, 0, 0, 0, 0), (29, .ldc 20, 31, 0, 0, 0, 180100, 0), (31, .newarray .byte, 33, 2, 180100, 0, 180100, 0)],
  [(33, .putfield 21, 36, 3, 4, 1, 0, 0), (36, .aload_n 0, 37, 0, 0, 0, 0, 0), (37, .ldc 20, 39, 0, 0, 0, 180100, 0), (39, .newarray .int, 41, 0, 180100, 0, 180100, 0), (41, .putfield 25, 44, 3, 5, 1, 0, 0), (44, .aload_n 0, 45, 0, 0, 0, 0, 0), (45, .ldc 20, 47, 0, 0, 0, 180100, 0), (47, .newarray .int, 49, 0, 180100, 0, 180100, 0)],
  [(49, .putfield 28, 52, 3, 6, 1, 0, 0), (52, .aload_n 0, 53, 0, 0, 0, 0, 0), (53, .ldc 20, 55, 0, 0, 0, 180100, 0), (55, .newarray .int, 57, 0, 180100, 0, 180100, 0), (57, .putfield 31, 60, 3, 7, 1, 0, 0), (60, .aload_n 0, 61, 0, 0, 0, 0, 0), (61, .ldc 20, 63, 0, 0, 0, 180100, 0), (63, .newarray .int, 65, 0, 180100, 0, 180100, 0)],
  [(65, .putfield 34, 68, 3, 8, 1, 0, 0), (68, .aload_n 0, 69, 0, 0, 0, 0, 0), (69, .ldc 20, 71, 0, 0, 0, 180100, 0), (71, .newarray .int, 73, 0, 180100, 0, 180100, 0), (73, .putfield 37, 76, 3, 9, 1, 0, 0), (76, .aload_n 0, 77, 0, 0, 0, 0, 0), (77, .ldc 20, 79, 0, 0, 0, 180100, 0), (79, .newarray .boolean, 81, 3, 180100, 0, 180100, 0)],
  [(81, .putfield 40, 84, 3, 10, 1, 0, 0), (84, .aload_n 0, 85, 0, 0, 0, 0, 0), (85, .ldc 20, 87, 0, 0, 0, 180100, 0), (87, .newarray .int, 89, 0, 180100, 0, 180100, 0), (89, .putfield 44, 92, 3, 11, 1, 0, 0), (92, .aload_n 0, 93, 0, 0, 0, 0, 0), (93, .iconst (-1), 94, 0, 0, 0, (-1), 0), (94, .putfield 47, 97, 3, 13, 0, 0, 0)],
  [(97, .aload_n 0, 98, 0, 0, 0, 0, 0), (98, .ldc 51, 100, 0, 0, 0, 760000, 0), (100, .newarray .long, 102, 1, 760000, 0, 760000, 0), (102, .putfield 52, 105, 3, 14, 1, 0, 0), (105, .aload_n 0, 106, 0, 0, 0, 0, 0), (106, .ldc 55, 108, 0, 0, 0, 190000, 0), (108, .newarray .int, 110, 0, 190000, 0, 190000, 0), (110, .putfield 56, 113, 3, 15, 1, 0, 0)],
  [(113, .aload_n 0, 114, 0, 0, 0, 0, 0), (114, .iconst (-1), 115, 0, 0, 0, (-1), 0), (115, .putfield 59, 118, 3, 17, 0, 0, 0), (118, .aload_n 0, 119, 0, 0, 0, 0, 0), (119, .bipush 64, 121, 0, 0, 0, 64, 0), (121, .newarray .int, 123, 0, 64, 0, 64, 0), (123, .putfield 62, 126, 3, 18, 1, 0, 0), (126, .iconst 0, 127, 0, 0, 0, 0, 0), (127, .istore_n 1, 128, 0, 0, 0, 0, 0)],
  [(128, .iload_n 1, 129, 0, 0, 0, 0, 0), (129, .bipush 64, 131, 0, 0, 0, 64, 0), (131, .if_icmp .ge 16, 134, 147, 0, 0, 0, 0), (134, .aload_n 0, 135, 0, 0, 0, 0, 0), (135, .getfield 62, 138, 3, 18, 0, 0, 0), (138, .iload_n 1, 139, 0, 0, 0, 0, 0), (139, .iconst (-1), 140, 0, 0, 0, (-1), 0), (140, .iastore, 141, 0, 0, 0, 0, 0), (141, .iinc 1 1, 144, 0, 0, 0, 1, 0)],
  [(144, .goto (-16), 147, 128, 0, 0, 0, 0), (147, .return_, 148, 0, 0, 0, 0, 0)]]
/-- MovingHeapModel.thrown()I -/
def tb_59 : List (List mm_I) := [
  [(0, .aload_n 0, 1, 0, 0, 0, 0, 0), (1, .getfield 65, 4, 3, 23, 0, 0, 0), (4, .ireturn, 5, 0, 0, 0, 0, 0)]]
/-- MovingHeapModel.fails(I)I -/
def tb_60 : List (List mm_I) := [
  [(0, .aload_n 0, 1, 0, 0, 0, 0, 0), (1, .iload_n 1, 2, 0, 0, 0, 0, 0), (2, .putfield 65, 5, 3, 23, 0, 0, 0), (5, .iconst 0, 6, 0, 0, 0, 0, 0), (6, .ireturn, 7, 0, 0, 0, 0, 0)]]
/-- MovingHeapModel.isRoot(I)Z -/
def tb_61 : List (List mm_I) := [
  [(0, .iload_n 0, 1, 0, 0, 0, 0, 0), (1, .ifCond .lt 13, 4, 14, 0, 0, 0, 0), (4, .iload_n 0, 5, 0, 0, 0, 0, 0), (5, .bipush 64, 7, 0, 0, 0, 64, 0), (7, .if_icmp .ge 7, 10, 14, 0, 0, 0, 0), (10, .iconst 1, 11, 0, 0, 0, 1, 0), (11, .goto 4, 14, 15, 0, 0, 0, 0), (14, .iconst 0, 15, 0, 0, 0, 0, 0), (15, .ireturn, 16, 1, 0, 0, 0, 0)]]
/-- MovingHeapModel.shape(IIII)I -/
def tb_62 : List (List mm_I) := [
  [(0, .iload_n 1, 1, 0, 0, 0, 0, 0), (1, .iconst (-1), 2, 0, 0, 0, (-1), 0), (2, .if_icmp .lt 34, 5, 36, 0, 0, 0, 0), (5, .iload_n 1, 6, 0, 0, 0, 0, 0), (6, .aload_n 0, 7, 0, 0, 0, 0, 0), (7, .getfield 68, 10, 3, 3, 0, 0, 0), (10, .if_icmp .ge 26, 13, 36, 0, 0, 0, 0), (13, .iload_n 2, 14, 0, 0, 0, 0, 0), (14, .ifCond .lt 22, 17, 36, 0, 0, 0, 0)],
  [(17, .iload_n 2, 18, 0, 0, 0, 0, 0), (18, .bipush 16, 20, 0, 0, 0, 16, 0), (20, .if_icmp .gt 16, 23, 36, 0, 0, 0, 0), (23, .iload 4, 25, 0, 0, 0, 0, 0), (25, .ifCond .lt 11, 28, 36, 0, 0, 0, 0), (28, .iload 4, 30, 0, 0, 0, 0, 0), (30, .sipush 1000, 33, 0, 0, 0, 1000, 0)],
  [(33, .if_icmp .le 9, 36, 42, 0, 0, 0, 0), (36, .aload_n 0, 37, 0, 0, 0, 0, 0), (37, .iconst 1, 38, 0, 0, 0, 1, 0), (38, .invokevirtual 71, 41, 60, 2, 0, 0, 0), (41, .ireturn, 42, 0, 0, 0, 0, 0), (42, .iload_n 1, 43, 0, 0, 0, 0, 0), (43, .ifCond .ge 7, 46, 50, 0, 0, 0, 0), (46, .iconst 0, 47, 0, 0, 0, 0, 0), (47, .goto 9, 50, 56, 0, 0, 0, 0)],
  [(50, .aload_n 0, 51, 0, 0, 0, 0, 0), (51, .getfield 7, 54, 3, 0, 0, 0, 0), (54, .iload_n 1, 55, 0, 0, 0, 0, 0), (55, .iaload, 56, 0, 0, 0, 0, 0), (56, .istore 5, 58, 0, 0, 0, 0, 0), (58, .aload_n 0, 59, 0, 0, 0, 0, 0), (59, .getfield 68, 62, 3, 3, 0, 0, 0), (62, .bipush 100, 64, 0, 0, 0, 100, 0)],
  [(64, .if_icmp .eq 12, 67, 76, 0, 0, 0, 0), (67, .iload 5, 69, 0, 0, 0, 0, 0), (69, .iload_n 2, 70, 0, 0, 0, 0, 0), (70, .iadd, 71, 0, 0, 0, 0, 0), (71, .bipush 64, 73, 0, 0, 0, 64, 0), (73, .if_icmp .le 9, 76, 82, 0, 0, 0, 0), (76, .aload_n 0, 77, 0, 0, 0, 0, 0), (77, .iconst 2, 78, 0, 0, 0, 2, 0), (78, .invokevirtual 71, 81, 60, 2, 0, 0, 0)],
  [(81, .ireturn, 82, 0, 0, 0, 0, 0), (82, .aload_n 0, 83, 0, 0, 0, 0, 0), (83, .iconst 0, 84, 0, 0, 0, 0, 0), (84, .putfield 65, 87, 3, 23, 0, 0, 0), (87, .aload_n 0, 88, 0, 0, 0, 0, 0), (88, .getfield 7, 91, 3, 0, 0, 0, 0), (91, .aload_n 0, 92, 0, 0, 0, 0, 0), (92, .getfield 68, 95, 3, 3, 0, 0, 0), (95, .iload 5, 97, 0, 0, 0, 0, 0)],
  [(97, .iload_n 2, 98, 0, 0, 0, 0, 0), (98, .iadd, 99, 0, 0, 0, 0, 0), (99, .iastore, 100, 0, 0, 0, 0, 0), (100, .aload_n 0, 101, 0, 0, 0, 0, 0), (101, .getfield 13, 104, 3, 1, 0, 0, 0), (104, .aload_n 0, 105, 0, 0, 0, 0, 0), (105, .getfield 68, 108, 3, 3, 0, 0, 0), (108, .iload_n 1, 109, 0, 0, 0, 0, 0), (109, .ifCond .ge 7, 112, 116, 0, 0, 0, 0)],
  [(112, .lconst 0, 113, 0, 0, 0, 0, 0), (113, .goto 9, 116, 122, 0, 0, 0, 0), (116, .aload_n 0, 117, 0, 0, 0, 0, 0), (117, .getfield 13, 120, 3, 1, 0, 0, 0), (120, .iload_n 1, 121, 0, 0, 0, 0, 0), (121, .laload, 122, 0, 0, 0, 0, 0), (122, .lastore, 123, 0, 0, 0, 0, 0), (123, .iconst 0, 124, 0, 0, 0, 0, 0), (124, .istore 6, 126, 0, 0, 0, 0, 0), (126, .iload 6, 128, 0, 0, 0, 0, 0)],
  [(128, .iload_n 2, 129, 0, 0, 0, 0, 0), (129, .if_icmp .ge 38, 132, 167, 0, 0, 0, 0), (132, .iload_n 3, 133, 0, 0, 0, 0, 0), (133, .iload 6, 135, 0, 0, 0, 0, 0), (135, .ishr, 136, 0, 0, 0, 0, 0), (136, .iconst 1, 137, 0, 0, 0, 1, 0), (137, .iand, 138, 0, 0, 0, 0, 0), (138, .iconst 1, 139, 0, 0, 0, 1, 0), (139, .if_icmp .ne 22, 142, 161, 0, 0, 0, 0), (142, .aload_n 0, 143, 0, 0, 0, 0, 0), (143, .getfield 13, 146, 3, 1, 0, 0, 0)],
  [(146, .aload_n 0, 147, 0, 0, 0, 0, 0), (147, .getfield 68, 150, 3, 3, 0, 0, 0), (150, .dup2, 151, 0, 0, 0, 0, 0), (151, .laload, 152, 0, 0, 0, 0, 0), (152, .lconst 1, 153, 0, 0, 0, 0, 1), (153, .iload 5, 155, 0, 0, 0, 0, 0), (155, .iload 6, 157, 0, 0, 0, 0, 0), (157, .iadd, 158, 0, 0, 0, 0, 0), (158, .lshl, 159, 0, 0, 0, 0, 0), (159, .lor, 160, 0, 0, 0, 0, 0)],
  [(160, .lastore, 161, 0, 0, 0, 0, 0), (161, .iinc 6 1, 164, 0, 0, 0, 1, 0), (164, .goto (-38), 167, 126, 0, 0, 0, 0), (167, .aload_n 0, 168, 0, 0, 0, 0, 0), (168, .getfield 17, 171, 3, 2, 0, 0, 0), (171, .aload_n 0, 172, 0, 0, 0, 0, 0), (172, .getfield 68, 175, 3, 3, 0, 0, 0), (175, .iload 4, 177, 0, 0, 0, 0, 0)],
  [(177, .iastore, 178, 0, 0, 0, 0, 0), (178, .aload_n 0, 179, 0, 0, 0, 0, 0), (179, .dup, 180, 0, 0, 0, 0, 0), (180, .getfield 68, 183, 3, 3, 0, 0, 0), (183, .iconst 1, 184, 0, 0, 0, 1, 0), (184, .iadd, 185, 0, 0, 0, 0, 0), (185, .putfield 68, 188, 3, 3, 0, 0, 0), (188, .aload_n 0, 189, 0, 0, 0, 0, 0), (189, .getfield 68, 192, 3, 3, 0, 0, 0)],
  [(192, .iconst 1, 193, 0, 0, 0, 1, 0), (193, .isub, 194, 0, 0, 0, 0, 0), (194, .ireturn, 195, 0, 0, 0, 0, 0)]]
/-- MovingHeapModel.size(I)I -/
def tb_63 : List (List mm_I) := [
  [(0, .aload_n 0, 1, 0, 0, 0, 0, 0), (1, .getfield 21, 4, 3, 4, 0, 0, 0), (4, .iload_n 1, 5, 0, 0, 0, 0, 0), (5, .baload, 6, 0, 0, 0, 0, 0), (6, .iconst 1, 7, 0, 0, 0, 1, 0), (7, .if_icmp .ne 17, 10, 24, 0, 0, 0, 0), (10, .aload_n 0, 11, 0, 0, 0, 0, 0), (11, .getfield 7, 14, 3, 0, 0, 0, 0), (14, .aload_n 0, 15, 0, 0, 0, 0, 0), (15, .getfield 25, 18, 3, 5, 0, 0, 0)],
  [(18, .iload_n 1, 19, 0, 0, 0, 0, 0), (19, .iaload, 20, 0, 0, 0, 0, 0), (20, .iaload, 21, 0, 0, 0, 0, 0), (21, .goto 9, 24, 30, 0, 0, 0, 0), (24, .aload_n 0, 25, 0, 0, 0, 0, 0), (25, .getfield 25, 28, 3, 5, 0, 0, 0), (28, .iload_n 1, 29, 0, 0, 0, 0, 0), (29, .iaload, 30, 0, 0, 0, 0, 0), (30, .ireturn, 31, 0, 0, 0, 0, 0)]]
/-- MovingHeapModel.isRef(II)Z -/
def tb_64 : List (List mm_I) := [
  [(0, .aload_n 0, 1, 0, 0, 0, 0, 0), (1, .getfield 21, 4, 3, 4, 0, 0, 0), (4, .iload_n 1, 5, 0, 0, 0, 0, 0), (5, .baload, 6, 0, 0, 0, 0, 0), (6, .iconst 1, 7, 0, 0, 0, 1, 0), (7, .if_icmp .ne 29, 10, 36, 0, 0, 0, 0), (10, .aload_n 0, 11, 0, 0, 0, 0, 0), (11, .getfield 13, 14, 3, 1, 0, 0, 0), (14, .aload_n 0, 15, 0, 0, 0, 0, 0), (15, .getfield 25, 18, 3, 5, 0, 0, 0)],
  [(18, .iload_n 1, 19, 0, 0, 0, 0, 0), (19, .iaload, 20, 0, 0, 0, 0, 0), (20, .laload, 21, 0, 0, 0, 0, 0), (21, .iload_n 2, 22, 0, 0, 0, 0, 0), (22, .lshr, 23, 0, 0, 0, 0, 0), (23, .lconst 1, 24, 0, 0, 0, 0, 1), (24, .land, 25, 0, 0, 0, 0, 0), (25, .lconst 1, 26, 0, 0, 0, 0, 1), (26, .lcmp, 27, 0, 0, 0, 0, 0), (27, .ifCond .ne 7, 30, 34, 0, 0, 0, 0), (30, .iconst 1, 31, 0, 0, 0, 1, 0), (31, .goto 4, 34, 35, 0, 0, 0, 0)],
  [(34, .iconst 0, 35, 0, 0, 0, 0, 0), (35, .ireturn, 36, 1, 0, 0, 0, 0), (36, .aload_n 0, 37, 0, 0, 0, 0, 0), (37, .getfield 21, 40, 3, 4, 0, 0, 0), (40, .iload_n 1, 41, 0, 0, 0, 0, 0), (41, .baload, 42, 0, 0, 0, 0, 0), (42, .iconst 3, 43, 0, 0, 0, 3, 0), (43, .if_icmp .eq 27, 46, 70, 0, 0, 0, 0), (46, .aload_n 0, 47, 0, 0, 0, 0, 0), (47, .getfield 21, 50, 3, 4, 0, 0, 0)],
  [(50, .iload_n 1, 51, 0, 0, 0, 0, 0), (51, .baload, 52, 0, 0, 0, 0, 0), (52, .iconst 5, 53, 0, 0, 0, 5, 0), (53, .if_icmp .ne 21, 56, 74, 0, 0, 0, 0), (56, .aload_n 0, 57, 0, 0, 0, 0, 0), (57, .getfield 34, 60, 3, 8, 0, 0, 0), (60, .iload_n 1, 61, 0, 0, 0, 0, 0), (61, .iaload, 62, 0, 0, 0, 0, 0), (62, .iload_n 2, 63, 0, 0, 0, 0, 0), (63, .ishr, 64, 0, 0, 0, 0, 0)],
  [(64, .iconst 1, 65, 0, 0, 0, 1, 0), (65, .iand, 66, 0, 0, 0, 0, 0), (66, .iconst 1, 67, 0, 0, 0, 1, 0), (67, .if_icmp .ne 7, 70, 74, 0, 0, 0, 0), (70, .iconst 1, 71, 0, 0, 0, 1, 0), (71, .goto 4, 74, 75, 0, 0, 0, 0), (74, .iconst 0, 75, 0, 0, 0, 0, 0), (75, .ireturn, 76, 1, 0, 0, 0, 0)]]
/-- MovingHeapModel.blocksOf(I)I -/
def tb_65 : List (List mm_I) := [
  [(0, .aload_n 0, 1, 0, 0, 0, 0, 0), (1, .getfield 21, 4, 3, 4, 0, 0, 0), (4, .iload_n 1, 5, 0, 0, 0, 0, 0), (5, .baload, 6, 0, 0, 0, 0, 0), (6, .iconst 4, 7, 0, 0, 0, 4, 0), (7, .if_icmp .ne 18, 10, 25, 0, 0, 0, 0), (10, .aload_n 0, 11, 0, 0, 0, 0, 0), (11, .getfield 25, 14, 3, 5, 0, 0, 0), (14, .iload_n 1, 15, 0, 0, 0, 0, 0), (15, .iaload, 16, 0, 0, 0, 0, 0)],
  [(16, .bipush 15, 18, 0, 0, 0, 15, 0), (18, .iadd, 19, 0, 0, 0, 0, 0), (19, .bipush 16, 21, 0, 0, 0, 16, 0), (21, .idiv, 22, 0, 0, 0, 0, 0), (22, .goto 12, 25, 34, 0, 0, 0, 0), (25, .aload_n 0, 26, 0, 0, 0, 0, 0), (26, .iload_n 1, 27, 0, 0, 0, 0, 0), (27, .invokevirtual 75, 30, 63, 2, 0, 0, 0), (30, .iconst 3, 31, 0, 0, 0, 3, 0), (31, .iadd, 32, 0, 0, 0, 0, 0)],
  [(32, .iconst 4, 33, 0, 0, 0, 4, 0), (33, .idiv, 34, 0, 0, 0, 0, 0), (34, .ireturn, 35, 0, 0, 0, 0, 0)]]
/-- MovingHeapModel.place(II)I -/
def tb_66 : List (List mm_I) := [
  [(0, .aload_n 0, 1, 0, 0, 0, 0, 0), (1, .getfield 21, 4, 3, 4, 0, 0, 0), (4, .iload_n 1, 5, 0, 0, 0, 0, 0), (5, .baload, 6, 0, 0, 0, 0, 0), (6, .iconst 4, 7, 0, 0, 0, 4, 0), (7, .if_icmp .ne 9, 10, 16, 0, 0, 0, 0), (10, .iload_n 2, 11, 0, 0, 0, 0, 0), (11, .iconst 4, 12, 0, 0, 0, 4, 0), (12, .idiv, 13, 0, 0, 0, 0, 0), (13, .goto 4, 16, 17, 0, 0, 0, 0)],
  [(16, .iload_n 2, 17, 0, 0, 0, 0, 0), (17, .istore_n 3, 18, 0, 0, 0, 0, 0), (18, .aload_n 0, 19, 0, 0, 0, 0, 0), (19, .getfield 37, 22, 3, 9, 0, 0, 0), (22, .iload_n 1, 23, 0, 0, 0, 0, 0), (23, .iaload, 24, 0, 0, 0, 0, 0), (24, .istore 4, 26, 0, 0, 0, 0, 0), (26, .iload_n 3, 27, 0, 0, 0, 0, 0), (27, .iconst 4, 28, 0, 0, 0, 4, 0), (28, .idiv, 29, 0, 0, 0, 0, 0), (29, .istore 5, 31, 0, 0, 0, 0, 0), (31, .iload 5, 33, 0, 0, 0, 0, 0)],
  [(33, .ifCond .le 18, 36, 51, 0, 0, 0, 0), (36, .aload_n 0, 37, 0, 0, 0, 0, 0), (37, .getfield 56, 40, 3, 15, 0, 0, 0), (40, .iload 4, 42, 0, 0, 0, 0, 0), (42, .iaload, 43, 0, 0, 0, 0, 0), (43, .istore 4, 45, 0, 0, 0, 0, 0), (45, .iinc 5 (-1), 48, 0, 0, 0, (-1), 0)],
  [(48, .goto (-17), 51, 31, 0, 0, 0, 0), (51, .iconst 4, 52, 0, 0, 0, 4, 0), (52, .iload 4, 54, 0, 0, 0, 0, 0), (54, .imul, 55, 0, 0, 0, 0, 0), (55, .iload_n 3, 56, 0, 0, 0, 0, 0), (56, .iconst 4, 57, 0, 0, 0, 4, 0), (57, .irem, 58, 0, 0, 0, 0, 0), (58, .iadd, 59, 0, 0, 0, 0, 0), (59, .ireturn, 60, 0, 0, 0, 0, 0)]]
/-- MovingHeapModel.mark(I)V -/
def tb_67 : List (List mm_I) := [
  [(0, .iload_n 1, 1, 0, 0, 0, 0, 0), (1, .iconst (-1), 2, 0, 0, 0, (-1), 0), (2, .if_icmp .eq 12, 5, 14, 0, 0, 0, 0), (5, .aload_n 0, 6, 0, 0, 0, 0, 0), (6, .getfield 40, 9, 3, 10, 0, 0, 0), (9, .iload_n 1, 10, 0, 0, 0, 0, 0), (10, .baload, 11, 0, 0, 0, 0, 0), (11, .ifCond .eq 4, 14, 15, 0, 0, 0, 0), (14, .return_, 15, 0, 0, 0, 0, 0), (15, .aload_n 0, 16, 0, 0, 0, 0, 0)],
  [(16, .getfield 40, 19, 3, 10, 0, 0, 0), (19, .iload_n 1, 20, 0, 0, 0, 0, 0), (20, .iconst 1, 21, 0, 0, 0, 1, 0), (21, .bastore, 22, 0, 0, 0, 0, 0), (22, .aload_n 0, 23, 0, 0, 0, 0, 0), (23, .getfield 44, 26, 3, 11, 0, 0, 0), (26, .aload_n 0, 27, 0, 0, 0, 0, 0), (27, .getfield 78, 30, 3, 24, 0, 0, 0), (30, .iload_n 1, 31, 0, 0, 0, 0, 0), (31, .iastore, 32, 0, 0, 0, 0, 0)],
  [(32, .aload_n 0, 33, 0, 0, 0, 0, 0), (33, .dup, 34, 0, 0, 0, 0, 0), (34, .getfield 78, 37, 3, 24, 0, 0, 0), (37, .iconst 1, 38, 0, 0, 0, 1, 0), (38, .iadd, 39, 0, 0, 0, 0, 0), (39, .putfield 78, 42, 3, 24, 0, 0, 0), (42, .return_, 43, 0, 0, 0, 0, 0)]]
/-- MovingHeapModel.sweep()V -/
def tb_68 : List (List mm_I) := [
  [(0, .iconst 0, 1, 0, 0, 0, 0, 0), (1, .istore_n 1, 2, 0, 0, 0, 0, 0), (2, .iload_n 1, 3, 0, 0, 0, 0, 0), (3, .aload_n 0, 4, 0, 0, 0, 0, 0), (4, .getfield 81, 7, 3, 12, 0, 0, 0), (7, .if_icmp .ge 16, 10, 23, 0, 0, 0, 0), (10, .aload_n 0, 11, 0, 0, 0, 0, 0), (11, .getfield 40, 14, 3, 10, 0, 0, 0), (14, .iload_n 1, 15, 0, 0, 0, 0, 0), (15, .iconst 0, 16, 0, 0, 0, 0, 0)],
  [(16, .bastore, 17, 0, 0, 0, 0, 0), (17, .iinc 1 1, 20, 0, 0, 0, 1, 0), (20, .goto (-18), 23, 2, 0, 0, 0, 0), (23, .aload_n 0, 24, 0, 0, 0, 0, 0), (24, .iconst 0, 25, 0, 0, 0, 0, 0), (25, .putfield 78, 28, 3, 24, 0, 0, 0), (28, .iconst 0, 29, 0, 0, 0, 0, 0), (29, .istore_n 1, 30, 0, 0, 0, 0, 0), (30, .iload_n 1, 31, 0, 0, 0, 0, 0), (31, .bipush 64, 33, 0, 0, 0, 64, 0)],
  [(33, .if_icmp .ge 19, 36, 52, 0, 0, 0, 0), (36, .aload_n 0, 37, 0, 0, 0, 0, 0), (37, .aload_n 0, 38, 0, 0, 0, 0, 0), (38, .getfield 62, 41, 3, 18, 0, 0, 0), (41, .iload_n 1, 42, 0, 0, 0, 0, 0), (42, .iaload, 43, 0, 0, 0, 0, 0), (43, .invokevirtual 84, 46, 67, 2, 0, 0, 0), (46, .iinc 1 1, 49, 0, 0, 0, 1, 0)],
  [(49, .goto (-19), 52, 30, 0, 0, 0, 0), (52, .aload_n 0, 53, 0, 0, 0, 0, 0), (53, .getfield 78, 56, 3, 24, 0, 0, 0), (56, .ifCond .le 122, 59, 178, 0, 0, 0, 0), (59, .aload_n 0, 60, 0, 0, 0, 0, 0), (60, .dup, 61, 0, 0, 0, 0, 0), (61, .getfield 78, 64, 3, 24, 0, 0, 0)],
  [(64, .iconst 1, 65, 0, 0, 0, 1, 0), (65, .isub, 66, 0, 0, 0, 0, 0), (66, .putfield 78, 69, 3, 24, 0, 0, 0), (69, .aload_n 0, 70, 0, 0, 0, 0, 0), (70, .getfield 44, 73, 3, 11, 0, 0, 0), (73, .aload_n 0, 74, 0, 0, 0, 0, 0), (74, .getfield 78, 77, 3, 24, 0, 0, 0), (77, .iaload, 78, 0, 0, 0, 0, 0), (78, .istore_n 1, 79, 0, 0, 0, 0, 0), (79, .aload_n 0, 80, 0, 0, 0, 0, 0)],
  [(80, .getfield 37, 83, 3, 9, 0, 0, 0), (83, .iload_n 1, 84, 0, 0, 0, 0, 0), (84, .iaload, 85, 0, 0, 0, 0, 0), (85, .istore_n 2, 86, 0, 0, 0, 0, 0), (86, .aload_n 0, 87, 0, 0, 0, 0, 0), (87, .iload_n 1, 88, 0, 0, 0, 0, 0), (88, .invokevirtual 75, 91, 63, 2, 0, 0, 0), (91, .istore_n 3, 92, 0, 0, 0, 0, 0), (92, .aload_n 0, 93, 0, 0, 0, 0, 0), (93, .getfield 21, 96, 3, 4, 0, 0, 0)],
  [(96, .iload_n 1, 97, 0, 0, 0, 0, 0), (97, .baload, 98, 0, 0, 0, 0, 0), (98, .iconst 4, 99, 0, 0, 0, 4, 0), (99, .if_icmp .eq (-47), 102, 52, 0, 0, 0, 0), (102, .aload_n 0, 103, 0, 0, 0, 0, 0), (103, .getfield 21, 106, 3, 4, 0, 0, 0), (106, .iload_n 1, 107, 0, 0, 0, 0, 0), (107, .baload, 108, 0, 0, 0, 0, 0), (108, .iconst 2, 109, 0, 0, 0, 2, 0), (109, .if_icmp .ne 6, 112, 115, 0, 0, 0, 0)],
  [(112, .goto (-60), 115, 52, 0, 0, 0, 0), (115, .iconst 0, 116, 0, 0, 0, 0, 0), (116, .istore 4, 118, 0, 0, 0, 0, 0), (118, .iload 4, 120, 0, 0, 0, 0, 0), (120, .iload_n 3, 121, 0, 0, 0, 0, 0), (121, .if_icmp .ge 54, 124, 175, 0, 0, 0, 0), (124, .aload_n 0, 125, 0, 0, 0, 0, 0), (125, .iload_n 1, 126, 0, 0, 0, 0, 0), (126, .iload 4, 128, 0, 0, 0, 0, 0)],
  [(128, .invokevirtual 88, 131, 64, 3, 0, 0, 0), (131, .ifCond .eq 23, 134, 154, 0, 0, 0, 0), (134, .aload_n 0, 135, 0, 0, 0, 0, 0), (135, .aload_n 0, 136, 0, 0, 0, 0, 0), (136, .getfield 52, 139, 3, 14, 0, 0, 0), (139, .iconst 4, 140, 0, 0, 0, 4, 0), (140, .iload_n 2, 141, 0, 0, 0, 0, 0), (141, .imul, 142, 0, 0, 0, 0, 0), (142, .iload 4, 144, 0, 0, 0, 0, 0)],
  [(144, .iconst 4, 145, 0, 0, 0, 4, 0), (145, .irem, 146, 0, 0, 0, 0, 0), (146, .iadd, 147, 0, 0, 0, 0, 0), (147, .laload, 148, 0, 0, 0, 0, 0), (148, .l2i, 149, 0, 0, 0, 0, 0), (149, .iconst 1, 150, 0, 0, 0, 1, 0), (150, .isub, 151, 0, 0, 0, 0, 0), (151, .invokevirtual 84, 154, 67, 2, 0, 0, 0), (154, .iload 4, 156, 0, 0, 0, 0, 0), (156, .iconst 4, 157, 0, 0, 0, 4, 0), (157, .irem, 158, 0, 0, 0, 0, 0), (158, .iconst 3, 159, 0, 0, 0, 3, 0), (159, .if_icmp .ne 10, 162, 169, 0, 0, 0, 0)],
  [(162, .aload_n 0, 163, 0, 0, 0, 0, 0), (163, .getfield 56, 166, 3, 15, 0, 0, 0), (166, .iload_n 2, 167, 0, 0, 0, 0, 0), (167, .iaload, 168, 0, 0, 0, 0, 0), (168, .istore_n 2, 169, 0, 0, 0, 0, 0), (169, .iinc 4 1, 172, 0, 0, 0, 1, 0), (172, .goto (-54), 175, 118, 0, 0, 0, 0), (175, .goto (-123), 178, 52, 0, 0, 0, 0)],
  [(178, .aload_n 0, 179, 0, 0, 0, 0, 0), (179, .iconst 0, 180, 0, 0, 0, 0, 0), (180, .putfield 92, 183, 3, 19, 0, 0, 0), (183, .aload_n 0, 184, 0, 0, 0, 0, 0), (184, .iconst 0, 185, 0, 0, 0, 0, 0), (185, .putfield 95, 188, 3, 20, 0, 0, 0), (188, .iconst 0, 189, 0, 0, 0, 0, 0), (189, .istore_n 1, 190, 0, 0, 0, 0, 0), (190, .iload_n 1, 191, 0, 0, 0, 0, 0), (191, .aload_n 0, 192, 0, 0, 0, 0, 0)],
  [(192, .getfield 81, 195, 3, 12, 0, 0, 0), (195, .if_icmp .ge 68, 198, 263, 0, 0, 0, 0), (198, .aload_n 0, 199, 0, 0, 0, 0, 0), (199, .getfield 21, 202, 3, 4, 0, 0, 0), (202, .iload_n 1, 203, 0, 0, 0, 0, 0), (203, .baload, 204, 0, 0, 0, 0, 0), (204, .ifCond .ne 6, 207, 210, 0, 0, 0, 0), (207, .goto 50, 210, 257, 0, 0, 0, 0)],
  [(210, .aload_n 0, 211, 0, 0, 0, 0, 0), (211, .getfield 40, 214, 3, 10, 0, 0, 0), (214, .iload_n 1, 215, 0, 0, 0, 0, 0), (215, .baload, 216, 0, 0, 0, 0, 0), (216, .ifCond .eq 36, 219, 252, 0, 0, 0, 0), (219, .aload_n 0, 220, 0, 0, 0, 0, 0), (220, .dup, 221, 0, 0, 0, 0, 0), (221, .getfield 92, 224, 3, 19, 0, 0, 0)],
  [(224, .aload_n 0, 225, 0, 0, 0, 0, 0), (225, .getfield 28, 228, 3, 6, 0, 0, 0), (228, .iload_n 1, 229, 0, 0, 0, 0, 0), (229, .iaload, 230, 0, 0, 0, 0, 0), (230, .iadd, 231, 0, 0, 0, 0, 0), (231, .putfield 92, 234, 3, 19, 0, 0, 0), (234, .aload_n 0, 235, 0, 0, 0, 0, 0), (235, .dup, 236, 0, 0, 0, 0, 0), (236, .getfield 95, 239, 3, 20, 0, 0, 0), (239, .aload_n 0, 240, 0, 0, 0, 0, 0)],
  [(240, .getfield 31, 243, 3, 7, 0, 0, 0), (243, .iload_n 1, 244, 0, 0, 0, 0, 0), (244, .iaload, 245, 0, 0, 0, 0, 0), (245, .iadd, 246, 0, 0, 0, 0, 0), (246, .putfield 95, 249, 3, 20, 0, 0, 0), (249, .goto 8, 252, 257, 0, 0, 0, 0), (252, .aload_n 0, 253, 0, 0, 0, 0, 0), (253, .iload_n 1, 254, 0, 0, 0, 0, 0), (254, .invokevirtual 98, 257, 69, 2, 0, 0, 0)],
  [(257, .iinc 1 1, 260, 0, 0, 0, 1, 0), (260, .goto (-70), 263, 190, 0, 0, 0, 0), (263, .return_, 264, 0, 0, 0, 0, 0)]]
/-- MovingHeapModel.free(I)V -/
def tb_69 : List (List mm_I) := [
  [(0, .aload_n 0, 1, 0, 0, 0, 0, 0), (1, .getfield 37, 4, 3, 9, 0, 0, 0), (4, .iload_n 1, 5, 0, 0, 0, 0, 0), (5, .iaload, 6, 0, 0, 0, 0, 0), (6, .istore_n 2, 7, 0, 0, 0, 0, 0), (7, .aload_n 0, 8, 0, 0, 0, 0, 0), (8, .iload_n 1, 9, 0, 0, 0, 0, 0), (9, .invokevirtual 101, 12, 65, 2, 0, 0, 0), (12, .istore_n 3, 13, 0, 0, 0, 0, 0), (13, .iload_n 3, 14, 0, 0, 0, 0, 0), (14, .ifCond .le 35, 17, 49, 0, 0, 0, 0)],
  [(17, .aload_n 0, 18, 0, 0, 0, 0, 0), (18, .getfield 56, 21, 3, 15, 0, 0, 0), (21, .iload_n 2, 22, 0, 0, 0, 0, 0), (22, .iaload, 23, 0, 0, 0, 0, 0), (23, .istore 4, 25, 0, 0, 0, 0, 0), (25, .aload_n 0, 26, 0, 0, 0, 0, 0), (26, .getfield 56, 29, 3, 15, 0, 0, 0), (29, .iload_n 2, 30, 0, 0, 0, 0, 0), (30, .aload_n 0, 31, 0, 0, 0, 0, 0), (31, .getfield 59, 34, 3, 17, 0, 0, 0)],
  [(34, .iastore, 35, 0, 0, 0, 0, 0), (35, .aload_n 0, 36, 0, 0, 0, 0, 0), (36, .iload_n 2, 37, 0, 0, 0, 0, 0), (37, .putfield 59, 40, 3, 17, 0, 0, 0), (40, .iload 4, 42, 0, 0, 0, 0, 0), (42, .istore_n 2, 43, 0, 0, 0, 0, 0), (43, .iinc 3 (-1), 46, 0, 0, 0, (-1), 0), (46, .goto (-33), 49, 13, 0, 0, 0, 0)],
  [(49, .aload_n 0, 50, 0, 0, 0, 0, 0), (50, .getfield 21, 53, 3, 4, 0, 0, 0), (53, .iload_n 1, 54, 0, 0, 0, 0, 0), (54, .iconst 0, 55, 0, 0, 0, 0, 0), (55, .bastore, 56, 0, 0, 0, 0, 0), (56, .aload_n 0, 57, 0, 0, 0, 0, 0), (57, .getfield 37, 60, 3, 9, 0, 0, 0), (60, .iload_n 1, 61, 0, 0, 0, 0, 0), (61, .aload_n 0, 62, 0, 0, 0, 0, 0), (62, .getfield 47, 65, 3, 13, 0, 0, 0)],
  [(65, .iastore, 66, 0, 0, 0, 0, 0), (66, .aload_n 0, 67, 0, 0, 0, 0, 0), (67, .iload_n 1, 68, 0, 0, 0, 0, 0), (68, .putfield 47, 71, 3, 13, 0, 0, 0), (71, .return_, 72, 0, 0, 0, 0, 0)]]
/-- MovingHeapModel.make(IIIII)I -/
def tb_70 : List (List mm_I) := [
  [(0, .aload_n 0, 1, 0, 0, 0, 0, 0), (1, .getfield 92, 4, 3, 19, 0, 0, 0), (4, .iload_n 3, 5, 0, 0, 0, 0, 0), (5, .iadd, 6, 0, 0, 0, 0, 0), (6, .ldc 104, 8, 0, 0, 0, 100000, 0), (8, .if_icmp .gt 15, 11, 23, 0, 0, 0, 0), (11, .aload_n 0, 12, 0, 0, 0, 0, 0), (12, .getfield 95, 15, 3, 20, 0, 0, 0), (15, .iload 4, 17, 0, 0, 0, 0, 0)],
  [(17, .iadd, 18, 0, 0, 0, 0, 0), (18, .ldc 105, 20, 0, 0, 0, 180000, 0), (20, .if_icmp .le 7, 23, 27, 0, 0, 0, 0), (23, .aload_n 0, 24, 0, 0, 0, 0, 0), (24, .invokevirtual 106, 27, 68, 1, 0, 0, 0), (27, .aload_n 0, 28, 0, 0, 0, 0, 0), (28, .getfield 92, 31, 3, 19, 0, 0, 0), (31, .iload_n 3, 32, 0, 0, 0, 0, 0)],
  [(32, .iadd, 33, 0, 0, 0, 0, 0), (33, .ldc 104, 35, 0, 0, 0, 100000, 0), (35, .if_icmp .gt 15, 38, 50, 0, 0, 0, 0), (38, .aload_n 0, 39, 0, 0, 0, 0, 0), (39, .getfield 95, 42, 3, 20, 0, 0, 0), (42, .iload 4, 44, 0, 0, 0, 0, 0), (44, .iadd, 45, 0, 0, 0, 0, 0), (45, .ldc 105, 47, 0, 0, 0, 180000, 0), (47, .if_icmp .le 5, 50, 52, 0, 0, 0, 0)],
  [(50, .iconst (-1), 51, 0, 0, 0, (-1), 0), (51, .ireturn, 52, 0, 0, 0, 0, 0), (52, .aload_n 0, 53, 0, 0, 0, 0, 0), (53, .getfield 47, 56, 3, 13, 0, 0, 0), (56, .istore 6, 58, 0, 0, 0, 0, 0), (58, .iload 6, 60, 0, 0, 0, 0, 0), (60, .iconst (-1), 61, 0, 0, 0, (-1), 0), (61, .if_icmp .ne 22, 64, 83, 0, 0, 0, 0)],
  [(64, .aload_n 0, 65, 0, 0, 0, 0, 0), (65, .getfield 81, 68, 3, 12, 0, 0, 0), (68, .istore 6, 70, 0, 0, 0, 0, 0), (70, .aload_n 0, 71, 0, 0, 0, 0, 0), (71, .dup, 72, 0, 0, 0, 0, 0), (72, .getfield 81, 75, 3, 12, 0, 0, 0), (75, .iconst 1, 76, 0, 0, 0, 1, 0), (76, .iadd, 77, 0, 0, 0, 0, 0), (77, .putfield 81, 80, 3, 12, 0, 0, 0)],
  [(80, .goto 14, 83, 94, 0, 0, 0, 0), (83, .aload_n 0, 84, 0, 0, 0, 0, 0), (84, .aload_n 0, 85, 0, 0, 0, 0, 0), (85, .getfield 37, 88, 3, 9, 0, 0, 0), (88, .iload 6, 90, 0, 0, 0, 0, 0), (90, .iaload, 91, 0, 0, 0, 0, 0), (91, .putfield 47, 94, 3, 13, 0, 0, 0), (94, .aload_n 0, 95, 0, 0, 0, 0, 0), (95, .getfield 21, 98, 3, 4, 0, 0, 0)],
  [(98, .iload 6, 100, 0, 0, 0, 0, 0), (100, .iload_n 1, 101, 0, 0, 0, 0, 0), (101, .i2b, 102, 0, 0, 0, 0, 0), (102, .bastore, 103, 0, 0, 0, 0, 0), (103, .aload_n 0, 104, 0, 0, 0, 0, 0), (104, .getfield 25, 107, 3, 5, 0, 0, 0), (107, .iload 6, 109, 0, 0, 0, 0, 0), (109, .iload_n 2, 110, 0, 0, 0, 0, 0), (110, .iastore, 111, 0, 0, 0, 0, 0), (111, .aload_n 0, 112, 0, 0, 0, 0, 0)],
  [(112, .getfield 28, 115, 3, 6, 0, 0, 0), (115, .iload 6, 117, 0, 0, 0, 0, 0), (117, .iload_n 3, 118, 0, 0, 0, 0, 0), (118, .iastore, 119, 0, 0, 0, 0, 0), (119, .aload_n 0, 120, 0, 0, 0, 0, 0), (120, .getfield 31, 123, 3, 7, 0, 0, 0), (123, .iload 6, 125, 0, 0, 0, 0, 0), (125, .iload 4, 127, 0, 0, 0, 0, 0), (127, .iastore, 128, 0, 0, 0, 0, 0)],
  [(128, .aload_n 0, 129, 0, 0, 0, 0, 0), (129, .getfield 34, 132, 3, 8, 0, 0, 0), (132, .iload 6, 134, 0, 0, 0, 0, 0), (134, .iload 5, 136, 0, 0, 0, 0, 0), (136, .iastore, 137, 0, 0, 0, 0, 0), (137, .iconst (-1), 138, 0, 0, 0, (-1), 0), (138, .istore 7, 140, 0, 0, 0, 0, 0), (140, .aload_n 0, 141, 0, 0, 0, 0, 0), (141, .iload 6, 143, 0, 0, 0, 0, 0), (143, .invokevirtual 101, 146, 65, 2, 0, 0, 0)],
  [(146, .istore 8, 148, 0, 0, 0, 0, 0), (148, .iload 8, 150, 0, 0, 0, 0, 0), (150, .ifCond .le 92, 153, 242, 0, 0, 0, 0), (153, .aload_n 0, 154, 0, 0, 0, 0, 0), (154, .getfield 59, 157, 3, 17, 0, 0, 0), (157, .istore 9, 159, 0, 0, 0, 0, 0), (159, .iload 9, 161, 0, 0, 0, 0, 0)],
  [(161, .iconst (-1), 162, 0, 0, 0, (-1), 0), (162, .if_icmp .ne 22, 165, 184, 0, 0, 0, 0), (165, .aload_n 0, 166, 0, 0, 0, 0, 0), (166, .getfield 109, 169, 3, 16, 0, 0, 0), (169, .istore 9, 171, 0, 0, 0, 0, 0), (171, .aload_n 0, 172, 0, 0, 0, 0, 0), (172, .dup, 173, 0, 0, 0, 0, 0), (173, .getfield 109, 176, 3, 16, 0, 0, 0)],
  [(176, .iconst 1, 177, 0, 0, 0, 1, 0), (177, .iadd, 178, 0, 0, 0, 0, 0), (178, .putfield 109, 181, 3, 16, 0, 0, 0), (181, .goto 14, 184, 195, 0, 0, 0, 0), (184, .aload_n 0, 185, 0, 0, 0, 0, 0), (185, .aload_n 0, 186, 0, 0, 0, 0, 0), (186, .getfield 56, 189, 3, 15, 0, 0, 0), (189, .iload 9, 191, 0, 0, 0, 0, 0), (191, .iaload, 192, 0, 0, 0, 0, 0)],
  [(192, .putfield 59, 195, 3, 17, 0, 0, 0), (195, .aload_n 0, 196, 0, 0, 0, 0, 0), (196, .getfield 56, 199, 3, 15, 0, 0, 0), (199, .iload 9, 201, 0, 0, 0, 0, 0), (201, .iload 7, 203, 0, 0, 0, 0, 0), (203, .iastore, 204, 0, 0, 0, 0, 0), (204, .iload 9, 206, 0, 0, 0, 0, 0), (206, .istore 7, 208, 0, 0, 0, 0, 0)],
  [(208, .iconst 0, 209, 0, 0, 0, 0, 0), (209, .istore 10, 211, 0, 0, 0, 0, 0), (211, .iload 10, 213, 0, 0, 0, 0, 0), (213, .iconst 4, 214, 0, 0, 0, 4, 0), (214, .if_icmp .ge 22, 217, 236, 0, 0, 0, 0), (217, .aload_n 0, 218, 0, 0, 0, 0, 0), (218, .getfield 52, 221, 3, 14, 0, 0, 0), (221, .iconst 4, 222, 0, 0, 0, 4, 0), (222, .iload 9, 224, 0, 0, 0, 0, 0)],
  [(224, .imul, 225, 0, 0, 0, 0, 0), (225, .iload 10, 227, 0, 0, 0, 0, 0), (227, .iadd, 228, 0, 0, 0, 0, 0), (228, .lconst 0, 229, 0, 0, 0, 0, 0), (229, .lastore, 230, 0, 0, 0, 0, 0), (230, .iinc 10 1, 233, 0, 0, 0, 1, 0), (233, .goto (-22), 236, 211, 0, 0, 0, 0), (236, .iinc 8 (-1), 239, 0, 0, 0, (-1), 0), (239, .goto (-91), 242, 148, 0, 0, 0, 0)],
  [(242, .aload_n 0, 243, 0, 0, 0, 0, 0), (243, .getfield 37, 246, 3, 9, 0, 0, 0), (246, .iload 6, 248, 0, 0, 0, 0, 0), (248, .iload 7, 250, 0, 0, 0, 0, 0), (250, .iastore, 251, 0, 0, 0, 0, 0), (251, .aload_n 0, 252, 0, 0, 0, 0, 0), (252, .dup, 253, 0, 0, 0, 0, 0), (253, .getfield 92, 256, 3, 19, 0, 0, 0)],
  [(256, .iload_n 3, 257, 0, 0, 0, 0, 0), (257, .iadd, 258, 0, 0, 0, 0, 0), (258, .putfield 92, 261, 3, 19, 0, 0, 0), (261, .aload_n 0, 262, 0, 0, 0, 0, 0), (262, .dup, 263, 0, 0, 0, 0, 0), (263, .getfield 95, 266, 3, 20, 0, 0, 0), (266, .iload 4, 268, 0, 0, 0, 0, 0), (268, .iadd, 269, 0, 0, 0, 0, 0), (269, .putfield 95, 272, 3, 20, 0, 0, 0)],
  [(272, .aload_n 0, 273, 0, 0, 0, 0, 0), (273, .dup, 274, 0, 0, 0, 0, 0), (274, .getfield 112, 277, 3, 21, 0, 0, 0), (277, .iload_n 3, 278, 0, 0, 0, 0, 0), (278, .iadd, 279, 0, 0, 0, 0, 0), (279, .putfield 112, 282, 3, 21, 0, 0, 0), (282, .iload 6, 284, 0, 0, 0, 0, 0), (284, .ireturn, 285, 0, 0, 0, 0, 0)]]
/-- MovingHeapModel.come(III)I -/
def tb_71 : List (List mm_I) := [
  [(0, .iload_n 2, 1, 0, 0, 0, 0, 0), (1, .iconst (-1), 2, 0, 0, 0, (-1), 0), (2, .if_icmp .ne 9, 5, 11, 0, 0, 0, 0), (5, .aload_n 0, 6, 0, 0, 0, 0, 0), (6, .iconst 3, 7, 0, 0, 0, 3, 0), (7, .invokevirtual 71, 10, 60, 2, 0, 0, 0), (10, .ireturn, 11, 0, 0, 0, 0, 0), (11, .aload_n 0, 12, 0, 0, 0, 0, 0), (12, .iconst 0, 13, 0, 0, 0, 0, 0), (13, .putfield 65, 16, 3, 23, 0, 0, 0)],
  [(16, .aload_n 0, 17, 0, 0, 0, 0, 0), (17, .getfield 62, 20, 3, 18, 0, 0, 0), (20, .iload_n 1, 21, 0, 0, 0, 0, 0), (21, .iload_n 2, 22, 0, 0, 0, 0, 0), (22, .iastore, 23, 0, 0, 0, 0, 0), (23, .iload_n 3, 24, 0, 0, 0, 0, 0), (24, .ireturn, 25, 0, 0, 0, 0, 0)]]
/-- MovingHeapModel.object(IIZ)I -/
def tb_72 : List (List mm_I) := [
  [(0, .iload_n 1, 1, 0, 0, 0, 0, 0), (1, .invokestatic 115, 4, 61, 1, 0, 0, 0), (4, .ifCond .ne 9, 7, 13, 0, 0, 0, 0), (7, .aload_n 0, 8, 0, 0, 0, 0, 0), (8, .iconst 1, 9, 0, 0, 0, 1, 0), (9, .invokevirtual 71, 12, 60, 2, 0, 0, 0), (12, .ireturn, 13, 0, 0, 0, 0, 0), (13, .iload_n 2, 14, 0, 0, 0, 0, 0), (14, .ifCond .lt 11, 17, 25, 0, 0, 0, 0)],
  [(17, .iload_n 2, 18, 0, 0, 0, 0, 0), (18, .aload_n 0, 19, 0, 0, 0, 0, 0), (19, .getfield 68, 22, 3, 3, 0, 0, 0), (22, .if_icmp .lt 9, 25, 31, 0, 0, 0, 0), (25, .aload_n 0, 26, 0, 0, 0, 0, 0), (26, .iconst 2, 27, 0, 0, 0, 2, 0), (27, .invokevirtual 71, 30, 60, 2, 0, 0, 0), (30, .ireturn, 31, 0, 0, 0, 0, 0), (31, .iload_n 3, 32, 0, 0, 0, 0, 0)],
  [(32, .ifCond .eq 7, 35, 39, 0, 0, 0, 0), (35, .iconst 0, 36, 0, 0, 0, 0, 0), (36, .goto 9, 39, 45, 0, 0, 0, 0), (39, .aload_n 0, 40, 0, 0, 0, 0, 0), (40, .getfield 17, 43, 3, 2, 0, 0, 0), (43, .iload_n 2, 44, 0, 0, 0, 0, 0), (44, .iaload, 45, 0, 0, 0, 0, 0), (45, .istore 4, 47, 0, 0, 0, 0, 0), (47, .aload_n 0, 48, 0, 0, 0, 0, 0)],
  [(48, .iload_n 1, 49, 0, 0, 0, 0, 0), (49, .aload_n 0, 50, 0, 0, 0, 0, 0), (50, .iconst 1, 51, 0, 0, 0, 1, 0), (51, .iload_n 2, 52, 0, 0, 0, 0, 0), (52, .iload 4, 54, 0, 0, 0, 0, 0), (54, .iconst 1, 55, 0, 0, 0, 1, 0), (55, .aload_n 0, 56, 0, 0, 0, 0, 0), (56, .getfield 7, 59, 3, 0, 0, 0, 0), (59, .iload_n 2, 60, 0, 0, 0, 0, 0), (60, .iaload, 61, 0, 0, 0, 0, 0), (61, .iadd, 62, 0, 0, 0, 0, 0), (62, .iconst 0, 63, 0, 0, 0, 0, 0), (63, .invokevirtual 119, 66, 70, 6, 0, 0, 0)],
  [(66, .iload 4, 68, 0, 0, 0, 0, 0), (68, .invokevirtual 123, 71, 71, 4, 0, 0, 0), (71, .ireturn, 72, 0, 0, 0, 0, 0)]]
/-- MovingHeapModel.array(IIZ)I -/
def tb_73 : List (List mm_I) := [
  [(0, .iload_n 1, 1, 0, 0, 0, 0, 0), (1, .invokestatic 115, 4, 61, 1, 0, 0, 0), (4, .ifCond .ne 9, 7, 13, 0, 0, 0, 0), (7, .aload_n 0, 8, 0, 0, 0, 0, 0), (8, .iconst 1, 9, 0, 0, 0, 1, 0), (9, .invokevirtual 71, 12, 60, 2, 0, 0, 0), (12, .ireturn, 13, 0, 0, 0, 0, 0), (13, .iload_n 2, 14, 0, 0, 0, 0, 0), (14, .ifCond .lt 9, 17, 23, 0, 0, 0, 0)],
  [(17, .iload_n 2, 18, 0, 0, 0, 0, 0), (18, .ldc 104, 20, 0, 0, 0, 100000, 0), (20, .if_icmp .le 9, 23, 29, 0, 0, 0, 0), (23, .aload_n 0, 24, 0, 0, 0, 0, 0), (24, .iconst 2, 25, 0, 0, 0, 2, 0), (25, .invokevirtual 71, 28, 60, 2, 0, 0, 0), (28, .ireturn, 29, 0, 0, 0, 0, 0), (29, .aload_n 0, 30, 0, 0, 0, 0, 0), (30, .iload_n 1, 31, 0, 0, 0, 0, 0), (31, .aload_n 0, 32, 0, 0, 0, 0, 0)],
  [(32, .iload_n 3, 33, 0, 0, 0, 0, 0), (33, .ifCond .eq 7, 36, 40, 0, 0, 0, 0), (36, .iconst 3, 37, 0, 0, 0, 3, 0), (37, .goto 4, 40, 41, 0, 0, 0, 0), (40, .iconst 2, 41, 0, 0, 0, 2, 0), (41, .iload_n 2, 42, 0, 0, 0, 0, 0), (42, .iconst 2, 43, 0, 0, 0, 2, 0), (43, .iload_n 2, 44, 0, 0, 0, 0, 0), (44, .iadd, 45, 0, 0, 0, 0, 0), (45, .iconst 2, 46, 0, 0, 0, 2, 0), (46, .iload_n 2, 47, 0, 0, 0, 0, 0), (47, .iadd, 48, 0, 0, 0, 0, 0)],
  [(48, .iconst 0, 49, 0, 0, 0, 0, 0), (49, .invokevirtual 119, 52, 70, 6, 0, 0, 0), (52, .iconst 2, 53, 0, 0, 0, 2, 0), (53, .iload_n 2, 54, 0, 0, 0, 0, 0), (54, .iadd, 55, 0, 0, 0, 0, 0), (55, .invokevirtual 123, 58, 71, 4, 0, 0, 0), (58, .ireturn, 59, 0, 0, 0, 0, 0)]]
/-- MovingHeapModel.text(IIZ)I -/
def tb_74 : List (List mm_I) := [
  [(0, .iload_n 1, 1, 0, 0, 0, 0, 0), (1, .invokestatic 115, 4, 61, 1, 0, 0, 0), (4, .ifCond .ne 9, 7, 13, 0, 0, 0, 0), (7, .aload_n 0, 8, 0, 0, 0, 0, 0), (8, .iconst 1, 9, 0, 0, 0, 1, 0), (9, .invokevirtual 71, 12, 60, 2, 0, 0, 0), (12, .ireturn, 13, 0, 0, 0, 0, 0), (13, .iload_n 2, 14, 0, 0, 0, 0, 0), (14, .ifCond .lt 9, 17, 23, 0, 0, 0, 0)],
  [(17, .iload_n 2, 18, 0, 0, 0, 0, 0), (18, .ldc 104, 20, 0, 0, 0, 100000, 0), (20, .if_icmp .le 9, 23, 29, 0, 0, 0, 0), (23, .aload_n 0, 24, 0, 0, 0, 0, 0), (24, .iconst 2, 25, 0, 0, 0, 2, 0), (25, .invokevirtual 71, 28, 60, 2, 0, 0, 0), (28, .ireturn, 29, 0, 0, 0, 0, 0), (29, .iload_n 3, 30, 0, 0, 0, 0, 0), (30, .ifCond .eq 7, 33, 37, 0, 0, 0, 0)],
  [(33, .iconst 0, 34, 0, 0, 0, 0, 0), (34, .goto 6, 37, 40, 0, 0, 0, 0), (37, .iconst 2, 38, 0, 0, 0, 2, 0), (38, .iload_n 2, 39, 0, 0, 0, 0, 0), (39, .iadd, 40, 0, 0, 0, 0, 0), (40, .istore 4, 42, 0, 0, 0, 0, 0), (42, .aload_n 0, 43, 0, 0, 0, 0, 0), (43, .iload_n 1, 44, 0, 0, 0, 0, 0), (44, .aload_n 0, 45, 0, 0, 0, 0, 0), (45, .iconst 4, 46, 0, 0, 0, 4, 0), (46, .iload_n 2, 47, 0, 0, 0, 0, 0), (47, .iload 4, 49, 0, 0, 0, 0, 0)],
  [(49, .iconst 2, 50, 0, 0, 0, 2, 0), (50, .iload_n 2, 51, 0, 0, 0, 0, 0), (51, .iconst 3, 52, 0, 0, 0, 3, 0), (52, .iadd, 53, 0, 0, 0, 0, 0), (53, .iconst 4, 54, 0, 0, 0, 4, 0), (54, .idiv, 55, 0, 0, 0, 0, 0), (55, .iadd, 56, 0, 0, 0, 0, 0), (56, .iconst 0, 57, 0, 0, 0, 0, 0), (57, .invokevirtual 119, 60, 70, 6, 0, 0, 0), (60, .iload 4, 62, 0, 0, 0, 0, 0), (62, .invokevirtual 123, 65, 71, 4, 0, 0, 0)],
  [(65, .ireturn, 66, 0, 0, 0, 0, 0)]]
/-- MovingHeapModel.closure(IIII)I -/
def tb_75 : List (List mm_I) := [
  [(0, .iload_n 1, 1, 0, 0, 0, 0, 0), (1, .invokestatic 115, 4, 61, 1, 0, 0, 0), (4, .ifCond .ne 9, 7, 13, 0, 0, 0, 0), (7, .aload_n 0, 8, 0, 0, 0, 0, 0), (8, .iconst 1, 9, 0, 0, 0, 1, 0), (9, .invokevirtual 71, 12, 60, 2, 0, 0, 0), (12, .ireturn, 13, 0, 0, 0, 0, 0), (13, .iload_n 2, 14, 0, 0, 0, 0, 0), (14, .ifCond .lt 9, 17, 23, 0, 0, 0, 0)],
  [(17, .iload_n 2, 18, 0, 0, 0, 0, 0), (18, .bipush 8, 20, 0, 0, 0, 8, 0), (20, .if_icmp .le 9, 23, 29, 0, 0, 0, 0), (23, .aload_n 0, 24, 0, 0, 0, 0, 0), (24, .iconst 2, 25, 0, 0, 0, 2, 0), (25, .invokevirtual 71, 28, 60, 2, 0, 0, 0), (28, .ireturn, 29, 0, 0, 0, 0, 0), (29, .iconst 0, 30, 0, 0, 0, 0, 0), (30, .istore 5, 32, 0, 0, 0, 0, 0)],
  [(32, .iload 5, 34, 0, 0, 0, 0, 0), (34, .iload_n 2, 35, 0, 0, 0, 0, 0), (35, .if_icmp .ge 38, 38, 73, 0, 0, 0, 0), (38, .iload 4, 40, 0, 0, 0, 0, 0), (40, .ifCond .lt 21, 43, 61, 0, 0, 0, 0), (43, .iload 4, 45, 0, 0, 0, 0, 0), (45, .bipush 63, 47, 0, 0, 0, 63, 0), (47, .if_icmp .gt 14, 50, 61, 0, 0, 0, 0)],
  [(50, .iload 4, 52, 0, 0, 0, 0, 0), (52, .iload 5, 54, 0, 0, 0, 0, 0), (54, .iadd, 55, 0, 0, 0, 0, 0), (55, .invokestatic 115, 58, 61, 1, 0, 0, 0), (58, .ifCond .ne 9, 61, 67, 0, 0, 0, 0), (61, .aload_n 0, 62, 0, 0, 0, 0, 0), (62, .iconst 1, 63, 0, 0, 0, 1, 0), (63, .invokevirtual 71, 66, 60, 2, 0, 0, 0)],
  [(66, .ireturn, 67, 0, 0, 0, 0, 0), (67, .iinc 5 1, 70, 0, 0, 0, 1, 0), (70, .goto (-38), 73, 32, 0, 0, 0, 0), (73, .aload_n 0, 74, 0, 0, 0, 0, 0), (74, .iconst 5, 75, 0, 0, 0, 5, 0), (75, .iload_n 2, 76, 0, 0, 0, 0, 0), (76, .bipush 10, 78, 0, 0, 0, 10, 0), (78, .iconst 2, 79, 0, 0, 0, 2, 0), (79, .iload_n 2, 80, 0, 0, 0, 0, 0)],
  [(80, .iadd, 81, 0, 0, 0, 0, 0), (81, .iload_n 3, 82, 0, 0, 0, 0, 0), (82, .invokevirtual 119, 85, 70, 6, 0, 0, 0), (85, .istore 5, 87, 0, 0, 0, 0, 0), (87, .iload 5, 89, 0, 0, 0, 0, 0), (89, .iconst (-1), 90, 0, 0, 0, (-1), 0), (90, .if_icmp .ne 9, 93, 99, 0, 0, 0, 0), (93, .aload_n 0, 94, 0, 0, 0, 0, 0), (94, .iconst 3, 95, 0, 0, 0, 3, 0), (95, .invokevirtual 71, 98, 60, 2, 0, 0, 0)],
  [(98, .ireturn, 99, 0, 0, 0, 0, 0), (99, .iconst 0, 100, 0, 0, 0, 0, 0), (100, .istore 6, 102, 0, 0, 0, 0, 0), (102, .iload 6, 104, 0, 0, 0, 0, 0), (104, .iload_n 2, 105, 0, 0, 0, 0, 0), (105, .if_icmp .ge 46, 108, 151, 0, 0, 0, 0), (108, .aload_n 0, 109, 0, 0, 0, 0, 0), (109, .iload 5, 111, 0, 0, 0, 0, 0), (111, .iload 6, 113, 0, 0, 0, 0, 0)],
  [(113, .invokevirtual 88, 116, 64, 3, 0, 0, 0), (116, .ifCond .eq 29, 119, 145, 0, 0, 0, 0), (119, .aload_n 0, 120, 0, 0, 0, 0, 0), (120, .getfield 52, 123, 3, 14, 0, 0, 0), (123, .aload_n 0, 124, 0, 0, 0, 0, 0), (124, .iload 5, 126, 0, 0, 0, 0, 0), (126, .iload 6, 128, 0, 0, 0, 0, 0)],
  [(128, .invokevirtual 127, 131, 66, 3, 0, 0, 0), (131, .aload_n 0, 132, 0, 0, 0, 0, 0), (132, .getfield 62, 135, 3, 18, 0, 0, 0), (135, .iload 4, 137, 0, 0, 0, 0, 0), (137, .iload 6, 139, 0, 0, 0, 0, 0), (139, .iadd, 140, 0, 0, 0, 0, 0), (140, .iaload, 141, 0, 0, 0, 0, 0), (141, .iconst 1, 142, 0, 0, 0, 1, 0), (142, .iadd, 143, 0, 0, 0, 0, 0), (143, .i2l, 144, 0, 0, 0, 0, 0)],
  [(144, .lastore, 145, 0, 0, 0, 0, 0), (145, .iinc 6 1, 148, 0, 0, 0, 1, 0), (148, .goto (-46), 151, 102, 0, 0, 0, 0), (151, .aload_n 0, 152, 0, 0, 0, 0, 0), (152, .iload_n 1, 153, 0, 0, 0, 0, 0), (153, .iload 5, 155, 0, 0, 0, 0, 0), (155, .bipush 10, 157, 0, 0, 0, 10, 0), (157, .invokevirtual 123, 160, 71, 4, 0, 0, 0)],
  [(160, .ireturn, 161, 0, 0, 0, 0, 0)]]
/-- MovingHeapModel.thing(IIZ)I -/
def tb_76 : List (List mm_I) := [
  [(0, .iload_n 1, 1, 0, 0, 0, 0, 0), (1, .invokestatic 115, 4, 61, 1, 0, 0, 0), (4, .ifCond .eq 31, 7, 35, 0, 0, 0, 0), (7, .aload_n 0, 8, 0, 0, 0, 0, 0), (8, .getfield 62, 11, 3, 18, 0, 0, 0), (11, .iload_n 1, 12, 0, 0, 0, 0, 0), (12, .iaload, 13, 0, 0, 0, 0, 0), (13, .iconst (-1), 14, 0, 0, 0, (-1), 0), (14, .if_icmp .eq 21, 17, 35, 0, 0, 0, 0)],
  [(17, .iload_n 2, 18, 0, 0, 0, 0, 0), (18, .ifCond .lt 17, 21, 35, 0, 0, 0, 0), (21, .iload_n 2, 22, 0, 0, 0, 0, 0), (22, .aload_n 0, 23, 0, 0, 0, 0, 0), (23, .aload_n 0, 24, 0, 0, 0, 0, 0), (24, .getfield 62, 27, 3, 18, 0, 0, 0), (27, .iload_n 1, 28, 0, 0, 0, 0, 0), (28, .iaload, 29, 0, 0, 0, 0, 0), (29, .invokevirtual 75, 32, 63, 2, 0, 0, 0)],
  [(32, .if_icmp .lt 10, 35, 42, 0, 0, 0, 0), (35, .aload_n 0, 36, 0, 0, 0, 0, 0), (36, .iconst 1, 37, 0, 0, 0, 1, 0), (37, .putfield 65, 40, 3, 23, 0, 0, 0), (40, .iconst (-1), 41, 0, 0, 0, (-1), 0), (41, .ireturn, 42, 0, 0, 0, 0, 0), (42, .aload_n 0, 43, 0, 0, 0, 0, 0), (43, .aload_n 0, 44, 0, 0, 0, 0, 0), (44, .aload_n 0, 45, 0, 0, 0, 0, 0), (45, .getfield 62, 48, 3, 18, 0, 0, 0)],
  [(48, .iload_n 1, 49, 0, 0, 0, 0, 0), (49, .iaload, 50, 0, 0, 0, 0, 0), (50, .iload_n 2, 51, 0, 0, 0, 0, 0), (51, .invokevirtual 88, 54, 64, 3, 0, 0, 0), (54, .iload_n 3, 55, 0, 0, 0, 0, 0), (55, .if_icmp .ne 7, 58, 62, 0, 0, 0, 0), (58, .iconst 0, 59, 0, 0, 0, 0, 0), (59, .goto 4, 62, 63, 0, 0, 0, 0), (62, .iconst 2, 63, 0, 0, 0, 2, 0), (63, .putfield 65, 66, 3, 23, 0, 0, 0)],
  [(66, .aload_n 0, 67, 0, 0, 0, 0, 0), (67, .getfield 65, 70, 3, 23, 0, 0, 0), (70, .ifCond .ne 12, 73, 82, 0, 0, 0, 0), (73, .aload_n 0, 74, 0, 0, 0, 0, 0), (74, .getfield 62, 77, 3, 18, 0, 0, 0), (77, .iload_n 1, 78, 0, 0, 0, 0, 0), (78, .iaload, 79, 0, 0, 0, 0, 0), (79, .goto 4, 82, 83, 0, 0, 0, 0)],
  [(82, .iconst (-1), 83, 0, 0, 0, (-1), 0), (83, .ireturn, 84, 0, 0, 0, 0, 0)]]
/-- MovingHeapModel.read(II)J -/
def tb_77 : List (List mm_I) := [
  [(0, .aload_n 0, 1, 0, 0, 0, 0, 0), (1, .getfield 52, 4, 3, 14, 0, 0, 0), (4, .aload_n 0, 5, 0, 0, 0, 0, 0), (5, .iload_n 1, 6, 0, 0, 0, 0, 0), (6, .iload_n 2, 7, 0, 0, 0, 0, 0), (7, .invokevirtual 127, 10, 66, 3, 0, 0, 0), (10, .laload, 11, 0, 0, 0, 0, 0), (11, .lstore_n 3, 12, 0, 0, 0, 0, 0), (12, .aload_n 0, 13, 0, 0, 0, 0, 0), (13, .getfield 21, 16, 3, 4, 0, 0, 0)],
  [(16, .iload_n 1, 17, 0, 0, 0, 0, 0), (17, .baload, 18, 0, 0, 0, 0, 0), (18, .iconst 4, 19, 0, 0, 0, 4, 0), (19, .if_icmp .ne 18, 22, 37, 0, 0, 0, 0), (22, .lload_n 3, 23, 0, 0, 0, 0, 0), (23, .bipush 16, 25, 0, 0, 0, 16, 0), (25, .iload_n 2, 26, 0, 0, 0, 0, 0), (26, .iconst 4, 27, 0, 0, 0, 4, 0), (27, .irem, 28, 0, 0, 0, 0, 0), (28, .imul, 29, 0, 0, 0, 0, 0), (29, .lshr, 30, 0, 0, 0, 0, 0), (30, .ldc2_w 131, 33, 0, 0, 0, 0, 65535)],
  [(33, .land, 34, 0, 0, 0, 0, 0), (34, .goto 4, 37, 38, 0, 0, 0, 0), (37, .lload_n 3, 38, 0, 0, 0, 0, 0), (38, .lreturn, 39, 0, 0, 0, 0, 0)]]
/-- MovingHeapModel.put(IIJ)J -/
def tb_78 : List (List mm_I) := [
  [(0, .aload_n 0, 1, 0, 0, 0, 0, 0), (1, .iload_n 1, 2, 0, 0, 0, 0, 0), (2, .iload_n 2, 3, 0, 0, 0, 0, 0), (3, .iconst 0, 4, 0, 0, 0, 0, 0), (4, .invokevirtual 133, 7, 76, 4, 0, 0, 0), (7, .istore 5, 9, 0, 0, 0, 0, 0), (9, .iload 5, 11, 0, 0, 0, 0, 0), (11, .iconst (-1), 12, 0, 0, 0, (-1), 0), (12, .if_icmp .ne 5, 15, 17, 0, 0, 0, 0), (15, .lconst 0, 16, 0, 0, 0, 0, 0)],
  [(16, .lreturn, 17, 0, 0, 0, 0, 0), (17, .aload_n 0, 18, 0, 0, 0, 0, 0), (18, .iload 5, 20, 0, 0, 0, 0, 0), (20, .iload_n 2, 21, 0, 0, 0, 0, 0), (21, .invokevirtual 137, 24, 77, 3, 0, 0, 0), (24, .lstore 6, 26, 0, 0, 0, 0, 0), (26, .aload_n 0, 27, 0, 0, 0, 0, 0), (27, .iload 5, 29, 0, 0, 0, 0, 0), (29, .iload_n 2, 30, 0, 0, 0, 0, 0), (30, .invokevirtual 127, 33, 66, 3, 0, 0, 0)],
  [(33, .istore 8, 35, 0, 0, 0, 0, 0), (35, .aload_n 0, 36, 0, 0, 0, 0, 0), (36, .getfield 21, 39, 3, 4, 0, 0, 0), (39, .iload 5, 41, 0, 0, 0, 0, 0), (41, .baload, 42, 0, 0, 0, 0, 0), (42, .iconst 4, 43, 0, 0, 0, 4, 0), (43, .if_icmp .ne 48, 46, 91, 0, 0, 0, 0), (46, .aload_n 0, 47, 0, 0, 0, 0, 0), (47, .getfield 52, 50, 3, 14, 0, 0, 0)],
  [(50, .iload 8, 52, 0, 0, 0, 0, 0), (52, .aload_n 0, 53, 0, 0, 0, 0, 0), (53, .getfield 52, 56, 3, 14, 0, 0, 0), (56, .iload 8, 58, 0, 0, 0, 0, 0), (58, .laload, 59, 0, 0, 0, 0, 0), (59, .ldc2_w 131, 62, 0, 0, 0, 0, 65535), (62, .bipush 16, 64, 0, 0, 0, 16, 0)],
  [(64, .iload_n 2, 65, 0, 0, 0, 0, 0), (65, .iconst 4, 66, 0, 0, 0, 4, 0), (66, .irem, 67, 0, 0, 0, 0, 0), (67, .imul, 68, 0, 0, 0, 0, 0), (68, .lshl, 69, 0, 0, 0, 0, 0), (69, .ldc2_w 141, 72, 0, 0, 0, 0, (-1)), (72, .lxor, 73, 0, 0, 0, 0, 0), (73, .land, 74, 0, 0, 0, 0, 0), (74, .lload_n 3, 75, 0, 0, 0, 0, 0), (75, .ldc2_w 131, 78, 0, 0, 0, 0, 65535), (78, .land, 79, 0, 0, 0, 0, 0), (79, .bipush 16, 81, 0, 0, 0, 16, 0)],
  [(81, .iload_n 2, 82, 0, 0, 0, 0, 0), (82, .iconst 4, 83, 0, 0, 0, 4, 0), (83, .irem, 84, 0, 0, 0, 0, 0), (84, .imul, 85, 0, 0, 0, 0, 0), (85, .lshl, 86, 0, 0, 0, 0, 0), (86, .lor, 87, 0, 0, 0, 0, 0), (87, .lastore, 88, 0, 0, 0, 0, 0), (88, .goto 11, 91, 99, 0, 0, 0, 0), (91, .aload_n 0, 92, 0, 0, 0, 0, 0), (92, .getfield 52, 95, 3, 14, 0, 0, 0), (95, .iload 8, 97, 0, 0, 0, 0, 0)],
  [(97, .lload_n 3, 98, 0, 0, 0, 0, 0), (98, .lastore, 99, 0, 0, 0, 0, 0), (99, .lload 6, 101, 0, 0, 0, 0, 0), (101, .lreturn, 102, 0, 0, 0, 0, 0)]]
/-- MovingHeapModel.get(II)J -/
def tb_79 : List (List mm_I) := [
  [(0, .aload_n 0, 1, 0, 0, 0, 0, 0), (1, .iload_n 1, 2, 0, 0, 0, 0, 0), (2, .iload_n 2, 3, 0, 0, 0, 0, 0), (3, .iconst 0, 4, 0, 0, 0, 0, 0), (4, .invokevirtual 133, 7, 76, 4, 0, 0, 0), (7, .istore_n 3, 8, 0, 0, 0, 0, 0), (8, .iload_n 3, 9, 0, 0, 0, 0, 0), (9, .iconst (-1), 10, 0, 0, 0, (-1), 0), (10, .if_icmp .ne 7, 13, 17, 0, 0, 0, 0), (13, .lconst 0, 14, 0, 0, 0, 0, 0), (14, .goto 9, 17, 23, 0, 0, 0, 0)],
  [(17, .aload_n 0, 18, 0, 0, 0, 0, 0), (18, .iload_n 3, 19, 0, 0, 0, 0, 0), (19, .iload_n 2, 20, 0, 0, 0, 0, 0), (20, .invokevirtual 137, 23, 77, 3, 0, 0, 0), (23, .lreturn, 24, 0, 0, 0, 0, 0)]]
/-- MovingHeapModel.link(III)V -/
def tb_80 : List (List mm_I) := [
  [(0, .iload_n 3, 1, 0, 0, 0, 0, 0), (1, .invokestatic 115, 4, 61, 1, 0, 0, 0), (4, .ifCond .ne 10, 7, 14, 0, 0, 0, 0), (7, .aload_n 0, 8, 0, 0, 0, 0, 0), (8, .iconst 1, 9, 0, 0, 0, 1, 0), (9, .invokevirtual 71, 12, 60, 2, 0, 0, 0), (12, .pop, 13, 0, 0, 0, 0, 0), (13, .return_, 14, 0, 0, 0, 0, 0), (14, .aload_n 0, 15, 0, 0, 0, 0, 0), (15, .iload_n 1, 16, 0, 0, 0, 0, 0)],
  [(16, .iload_n 2, 17, 0, 0, 0, 0, 0), (17, .iconst 1, 18, 0, 0, 0, 1, 0), (18, .invokevirtual 133, 21, 76, 4, 0, 0, 0), (21, .istore 4, 23, 0, 0, 0, 0, 0), (23, .iload 4, 25, 0, 0, 0, 0, 0), (25, .iconst (-1), 26, 0, 0, 0, (-1), 0), (26, .if_icmp .eq 24, 29, 50, 0, 0, 0, 0), (29, .aload_n 0, 30, 0, 0, 0, 0, 0), (30, .getfield 52, 33, 3, 14, 0, 0, 0)],
  [(33, .aload_n 0, 34, 0, 0, 0, 0, 0), (34, .iload 4, 36, 0, 0, 0, 0, 0), (36, .iload_n 2, 37, 0, 0, 0, 0, 0), (37, .invokevirtual 127, 40, 66, 3, 0, 0, 0), (40, .aload_n 0, 41, 0, 0, 0, 0, 0), (41, .getfield 62, 44, 3, 18, 0, 0, 0), (44, .iload_n 3, 45, 0, 0, 0, 0, 0), (45, .iaload, 46, 0, 0, 0, 0, 0), (46, .iconst 1, 47, 0, 0, 0, 1, 0), (47, .iadd, 48, 0, 0, 0, 0, 0)],
  [(48, .i2l, 49, 0, 0, 0, 0, 0), (49, .lastore, 50, 0, 0, 0, 0, 0), (50, .return_, 51, 0, 0, 0, 0, 0)]]
/-- MovingHeapModel.follow(III)V -/
def tb_81 : List (List mm_I) := [
  [(0, .iload_n 3, 1, 0, 0, 0, 0, 0), (1, .invokestatic 115, 4, 61, 1, 0, 0, 0), (4, .ifCond .ne 10, 7, 14, 0, 0, 0, 0), (7, .aload_n 0, 8, 0, 0, 0, 0, 0), (8, .iconst 1, 9, 0, 0, 0, 1, 0), (9, .invokevirtual 71, 12, 60, 2, 0, 0, 0), (12, .pop, 13, 0, 0, 0, 0, 0), (13, .return_, 14, 0, 0, 0, 0, 0), (14, .aload_n 0, 15, 0, 0, 0, 0, 0), (15, .iload_n 1, 16, 0, 0, 0, 0, 0)],
  [(16, .iload_n 2, 17, 0, 0, 0, 0, 0), (17, .iconst 1, 18, 0, 0, 0, 1, 0), (18, .invokevirtual 133, 21, 76, 4, 0, 0, 0), (21, .istore 4, 23, 0, 0, 0, 0, 0), (23, .iload 4, 25, 0, 0, 0, 0, 0), (25, .iconst (-1), 26, 0, 0, 0, (-1), 0), (26, .if_icmp .eq 24, 29, 50, 0, 0, 0, 0), (29, .aload_n 0, 30, 0, 0, 0, 0, 0), (30, .getfield 62, 33, 3, 18, 0, 0, 0)],
  [(33, .iload_n 3, 34, 0, 0, 0, 0, 0), (34, .aload_n 0, 35, 0, 0, 0, 0, 0), (35, .getfield 52, 38, 3, 14, 0, 0, 0), (38, .aload_n 0, 39, 0, 0, 0, 0, 0), (39, .iload 4, 41, 0, 0, 0, 0, 0), (41, .iload_n 2, 42, 0, 0, 0, 0, 0), (42, .invokevirtual 127, 45, 66, 3, 0, 0, 0), (45, .laload, 46, 0, 0, 0, 0, 0), (46, .l2i, 47, 0, 0, 0, 0, 0), (47, .iconst 1, 48, 0, 0, 0, 1, 0)],
  [(48, .isub, 49, 0, 0, 0, 0, 0), (49, .iastore, 50, 0, 0, 0, 0, 0), (50, .return_, 51, 0, 0, 0, 0, 0)]]
/-- MovingHeapModel.hold(II)V -/
def tb_82 : List (List mm_I) := [
  [(0, .aload_n 0, 1, 0, 0, 0, 0, 0), (1, .iload_n 1, 2, 0, 0, 0, 0, 0), (2, .invokestatic 115, 5, 61, 1, 0, 0, 0), (5, .ifCond .eq 15, 8, 20, 0, 0, 0, 0), (8, .iload_n 2, 9, 0, 0, 0, 0, 0), (9, .iconst (-1), 10, 0, 0, 0, (-1), 0), (10, .if_icmp .eq 14, 13, 24, 0, 0, 0, 0), (13, .iload_n 2, 14, 0, 0, 0, 0, 0), (14, .invokestatic 115, 17, 61, 1, 0, 0, 0)],
  [(17, .ifCond .ne 7, 20, 24, 0, 0, 0, 0), (20, .iconst 1, 21, 0, 0, 0, 1, 0), (21, .goto 4, 24, 25, 0, 0, 0, 0), (24, .iconst 0, 25, 0, 0, 0, 0, 0), (25, .putfield 65, 28, 3, 23, 0, 0, 0), (28, .aload_n 0, 29, 0, 0, 0, 0, 0), (29, .getfield 65, 32, 3, 23, 0, 0, 0)],
  [(32, .ifCond .ne 24, 35, 56, 0, 0, 0, 0), (35, .aload_n 0, 36, 0, 0, 0, 0, 0), (36, .getfield 62, 39, 3, 18, 0, 0, 0), (39, .iload_n 1, 40, 0, 0, 0, 0, 0), (40, .iload_n 2, 41, 0, 0, 0, 0, 0), (41, .iconst (-1), 42, 0, 0, 0, (-1), 0), (42, .if_icmp .ne 7, 45, 49, 0, 0, 0, 0), (45, .iconst (-1), 46, 0, 0, 0, (-1), 0), (46, .goto 9, 49, 55, 0, 0, 0, 0)],
  [(49, .aload_n 0, 50, 0, 0, 0, 0, 0), (50, .getfield 62, 53, 3, 18, 0, 0, 0), (53, .iload_n 2, 54, 0, 0, 0, 0, 0), (54, .iaload, 55, 0, 0, 0, 0, 0), (55, .iastore, 56, 0, 0, 0, 0, 0), (56, .return_, 57, 0, 0, 0, 0, 0)]]
/-- MovingHeapModel.told(II)I -/
def tb_83 : List (List mm_I) := [
  [(0, .iload_n 1, 1, 0, 0, 0, 0, 0), (1, .invokestatic 115, 4, 61, 1, 0, 0, 0), (4, .ifCond .ne 9, 7, 13, 0, 0, 0, 0), (7, .aload_n 0, 8, 0, 0, 0, 0, 0), (8, .iconst 1, 9, 0, 0, 0, 1, 0), (9, .invokevirtual 71, 12, 60, 2, 0, 0, 0), (12, .ireturn, 13, 0, 0, 0, 0, 0), (13, .iload_n 2, 14, 0, 0, 0, 0, 0), (14, .ifCond .lt 8, 17, 22, 0, 0, 0, 0)],
  [(17, .iload_n 2, 18, 0, 0, 0, 0, 0), (18, .iconst 3, 19, 0, 0, 0, 3, 0), (19, .if_icmp .le 9, 22, 28, 0, 0, 0, 0), (22, .aload_n 0, 23, 0, 0, 0, 0, 0), (23, .iconst 2, 24, 0, 0, 0, 2, 0), (24, .invokevirtual 71, 27, 60, 2, 0, 0, 0), (27, .ireturn, 28, 0, 0, 0, 0, 0), (28, .aload_n 0, 29, 0, 0, 0, 0, 0), (29, .iconst 0, 30, 0, 0, 0, 0, 0), (30, .putfield 65, 33, 3, 23, 0, 0, 0)],
  [(33, .aload_n 0, 34, 0, 0, 0, 0, 0), (34, .getfield 62, 37, 3, 18, 0, 0, 0), (37, .iload_n 1, 38, 0, 0, 0, 0, 0), (38, .iaload, 39, 0, 0, 0, 0, 0), (39, .istore_n 3, 40, 0, 0, 0, 0, 0), (40, .iload_n 2, 41, 0, 0, 0, 0, 0), (41, .iconst 3, 42, 0, 0, 0, 3, 0), (42, .if_icmp .ne 26, 45, 68, 0, 0, 0, 0), (45, .iconst 0, 46, 0, 0, 0, 0, 0), (46, .istore 4, 48, 0, 0, 0, 0, 0)],
  [(48, .aload_n 0, 49, 0, 0, 0, 0, 0), (49, .getfield 62, 52, 3, 18, 0, 0, 0), (52, .iload 4, 54, 0, 0, 0, 0, 0), (54, .iaload, 55, 0, 0, 0, 0, 0), (55, .iload_n 3, 56, 0, 0, 0, 0, 0), (56, .if_icmp .eq 9, 59, 65, 0, 0, 0, 0), (59, .iinc 4 1, 62, 0, 0, 0, 1, 0), (62, .goto (-14), 65, 48, 0, 0, 0, 0)],
  [(65, .iload 4, 67, 0, 0, 0, 0, 0), (67, .ireturn, 68, 0, 0, 0, 0, 0), (68, .iload_n 3, 69, 0, 0, 0, 0, 0), (69, .iconst (-1), 70, 0, 0, 0, (-1), 0), (70, .if_icmp .ne 5, 73, 75, 0, 0, 0, 0), (73, .iconst 0, 74, 0, 0, 0, 0, 0), (74, .ireturn, 75, 0, 0, 0, 0, 0), (75, .iload_n 2, 76, 0, 0, 0, 0, 0), (76, .ifCond .ne 12, 79, 88, 0, 0, 0, 0), (79, .aload_n 0, 80, 0, 0, 0, 0, 0)],
  [(80, .getfield 21, 83, 3, 4, 0, 0, 0), (83, .iload_n 3, 84, 0, 0, 0, 0, 0), (84, .baload, 85, 0, 0, 0, 0, 0), (85, .goto 23, 88, 108, 0, 0, 0, 0), (88, .iload_n 2, 89, 0, 0, 0, 0, 0), (89, .iconst 1, 90, 0, 0, 0, 1, 0), (90, .if_icmp .ne 12, 93, 102, 0, 0, 0, 0), (93, .aload_n 0, 94, 0, 0, 0, 0, 0), (94, .getfield 25, 97, 3, 5, 0, 0, 0)],
  [(97, .iload_n 3, 98, 0, 0, 0, 0, 0), (98, .iaload, 99, 0, 0, 0, 0, 0), (99, .goto 9, 102, 108, 0, 0, 0, 0), (102, .aload_n 0, 103, 0, 0, 0, 0, 0), (103, .getfield 28, 106, 3, 6, 0, 0, 0), (106, .iload_n 3, 107, 0, 0, 0, 0, 0), (107, .iaload, 108, 0, 0, 0, 0, 0), (108, .ireturn, 109, 0, 0, 0, 0, 0)]]
/-- MovingHeapModel.collect()I -/
def tb_84 : List (List mm_I) := [
  [(0, .aload_n 0, 1, 0, 0, 0, 0, 0), (1, .iconst 0, 2, 0, 0, 0, 0, 0), (2, .putfield 65, 5, 3, 23, 0, 0, 0), (5, .aload_n 0, 6, 0, 0, 0, 0, 0), (6, .invokevirtual 106, 9, 68, 1, 0, 0, 0), (9, .aload_n 0, 10, 0, 0, 0, 0, 0), (10, .getfield 92, 13, 3, 19, 0, 0, 0), (13, .ireturn, 14, 0, 0, 0, 0, 0)]]
/-- MovingHeapModel.every(I)I -/
def tb_85 : List (List mm_I) := [
  [(0, .iload_n 1, 1, 0, 0, 0, 0, 0), (1, .ifCond .ge 9, 4, 10, 0, 0, 0, 0), (4, .aload_n 0, 5, 0, 0, 0, 0, 0), (5, .iconst 1, 6, 0, 0, 0, 1, 0), (6, .invokevirtual 71, 9, 60, 2, 0, 0, 0), (9, .ireturn, 10, 0, 0, 0, 0, 0), (10, .aload_n 0, 11, 0, 0, 0, 0, 0), (11, .iconst 0, 12, 0, 0, 0, 0, 0), (12, .putfield 65, 15, 3, 23, 0, 0, 0), (15, .aload_n 0, 16, 0, 0, 0, 0, 0)],
  [(16, .getfield 143, 19, 3, 22, 0, 0, 0), (19, .istore_n 2, 20, 0, 0, 0, 0, 0), (20, .aload_n 0, 21, 0, 0, 0, 0, 0), (21, .iload_n 1, 22, 0, 0, 0, 0, 0), (22, .putfield 143, 25, 3, 22, 0, 0, 0), (25, .iload_n 2, 26, 0, 0, 0, 0, 0), (26, .ireturn, 27, 0, 0, 0, 0, 0)]]
/-- MovingHeapModel.made()I -/
def tb_86 : List (List mm_I) := [
  [(0, .aload_n 0, 1, 0, 0, 0, 0, 0), (1, .iconst 0, 2, 0, 0, 0, 0, 0), (2, .putfield 65, 5, 3, 23, 0, 0, 0), (5, .aload_n 0, 6, 0, 0, 0, 0, 0), (6, .getfield 112, 9, 3, 21, 0, 0, 0), (9, .ireturn, 10, 0, 0, 0, 0, 0)]]
/-- MovingHeapModel.audit()I -/
def tb_87 : List (List mm_I) := [
  [(0, .aload_n 0, 1, 0, 0, 0, 0, 0), (1, .iconst 0, 2, 0, 0, 0, 0, 0), (2, .putfield 65, 5, 3, 23, 0, 0, 0), (5, .iconst 0, 6, 0, 0, 0, 0, 0), (6, .ireturn, 7, 0, 0, 0, 0, 0)]]
/-- MovingHeapLaw.shape(LMovingHeap;IIII[J)I -/
def tb_88 : List (List mm_I) := [
  [(0, .aload 5, 2, 0, 0, 0, 0, 0), (2, .iconst 0, 3, 0, 0, 0, 0, 0), (3, .aload_n 0, 4, 0, 0, 0, 0, 0), (4, .iload_n 1, 5, 0, 0, 0, 0, 0), (5, .iload_n 2, 6, 0, 0, 0, 0, 0), (6, .iload_n 3, 7, 0, 0, 0, 0, 0), (7, .iload 4, 9, 0, 0, 0, 0, 0), (9, .invokevirtual 7, 12, 37, 5, 0, 0, 0), (12, .i2l, 13, 0, 0, 0, 0, 0), (13, .lastore, 14, 0, 0, 0, 0, 0), (14, .goto 11, 17, 25, 0, 0, 0, 0)],
  [(17, .astore 6, 19, 0, 0, 0, 0, 0), (19, .iconst 1, 20, 0, 0, 0, 1, 0), (20, .ireturn, 21, 0, 0, 0, 0, 0), (21, .astore 6, 23, 0, 0, 0, 0, 0), (23, .iconst 2, 24, 0, 0, 0, 2, 0), (24, .ireturn, 25, 0, 0, 0, 0, 0), (25, .iconst 0, 26, 0, 0, 0, 0, 0), (26, .ireturn, 27, 0, 0, 0, 0, 0)]]
/-- MovingHeapLaw.object(LMovingHeap;IIZ[J)I -/
def tb_89 : List (List mm_I) := [
  [(0, .aload 4, 2, 0, 0, 0, 0, 0), (2, .iconst 0, 3, 0, 0, 0, 0, 0), (3, .aload_n 0, 4, 0, 0, 0, 0, 0), (4, .iload_n 1, 5, 0, 0, 0, 0, 0), (5, .iload_n 2, 6, 0, 0, 0, 0, 0), (6, .iload_n 3, 7, 0, 0, 0, 0, 0), (7, .invokevirtual 17, 10, 38, 4, 0, 0, 0), (10, .i2l, 11, 0, 0, 0, 0, 0), (11, .lastore, 12, 0, 0, 0, 0, 0), (12, .goto 15, 15, 27, 0, 0, 0, 0), (15, .astore 5, 17, 0, 0, 0, 0, 0)],
  [(17, .iconst 1, 18, 0, 0, 0, 1, 0), (18, .ireturn, 19, 0, 0, 0, 0, 0), (19, .astore 5, 21, 0, 0, 0, 0, 0), (21, .iconst 2, 22, 0, 0, 0, 2, 0), (22, .ireturn, 23, 0, 0, 0, 0, 0), (23, .astore 5, 25, 0, 0, 0, 0, 0), (25, .iconst 3, 26, 0, 0, 0, 3, 0), (26, .ireturn, 27, 0, 0, 0, 0, 0), (27, .iconst 0, 28, 0, 0, 0, 0, 0), (28, .ireturn, 29, 0, 0, 0, 0, 0)]]
/-- MovingHeapLaw.array(LMovingHeap;IIZ[J)I -/
def tb_90 : List (List mm_I) := [
  [(0, .aload 4, 2, 0, 0, 0, 0, 0), (2, .iconst 0, 3, 0, 0, 0, 0, 0), (3, .aload_n 0, 4, 0, 0, 0, 0, 0), (4, .iload_n 1, 5, 0, 0, 0, 0, 0), (5, .iload_n 2, 6, 0, 0, 0, 0, 0), (6, .iload_n 3, 7, 0, 0, 0, 0, 0), (7, .invokevirtual 23, 10, 39, 4, 0, 0, 0), (10, .i2l, 11, 0, 0, 0, 0, 0), (11, .lastore, 12, 0, 0, 0, 0, 0), (12, .goto 15, 15, 27, 0, 0, 0, 0), (15, .astore 5, 17, 0, 0, 0, 0, 0)],
  [(17, .iconst 1, 18, 0, 0, 0, 1, 0), (18, .ireturn, 19, 0, 0, 0, 0, 0), (19, .astore 5, 21, 0, 0, 0, 0, 0), (21, .iconst 2, 22, 0, 0, 0, 2, 0), (22, .ireturn, 23, 0, 0, 0, 0, 0), (23, .astore 5, 25, 0, 0, 0, 0, 0), (25, .iconst 3, 26, 0, 0, 0, 3, 0), (26, .ireturn, 27, 0, 0, 0, 0, 0), (27, .iconst 0, 28, 0, 0, 0, 0, 0), (28, .ireturn, 29, 0, 0, 0, 0, 0)]]
/-- MovingHeapLaw.text(LMovingHeap;IIZ[J)I -/
def tb_91 : List (List mm_I) := [
  [(0, .aload 4, 2, 0, 0, 0, 0, 0), (2, .iconst 0, 3, 0, 0, 0, 0, 0), (3, .aload_n 0, 4, 0, 0, 0, 0, 0), (4, .iload_n 1, 5, 0, 0, 0, 0, 0), (5, .iload_n 2, 6, 0, 0, 0, 0, 0), (6, .iload_n 3, 7, 0, 0, 0, 0, 0), (7, .invokevirtual 26, 10, 40, 4, 0, 0, 0), (10, .i2l, 11, 0, 0, 0, 0, 0), (11, .lastore, 12, 0, 0, 0, 0, 0), (12, .goto 15, 15, 27, 0, 0, 0, 0), (15, .astore 5, 17, 0, 0, 0, 0, 0)],
  [(17, .iconst 1, 18, 0, 0, 0, 1, 0), (18, .ireturn, 19, 0, 0, 0, 0, 0), (19, .astore 5, 21, 0, 0, 0, 0, 0), (21, .iconst 2, 22, 0, 0, 0, 2, 0), (22, .ireturn, 23, 0, 0, 0, 0, 0), (23, .astore 5, 25, 0, 0, 0, 0, 0), (25, .iconst 3, 26, 0, 0, 0, 3, 0), (26, .ireturn, 27, 0, 0, 0, 0, 0), (27, .iconst 0, 28, 0, 0, 0, 0, 0), (28, .ireturn, 29, 0, 0, 0, 0, 0)]]
/-- MovingHeapLaw.closure(LMovingHeap;IIII[J)I -/
def tb_92 : List (List mm_I) := [
  [(0, .aload 5, 2, 0, 0, 0, 0, 0), (2, .iconst 0, 3, 0, 0, 0, 0, 0), (3, .aload_n 0, 4, 0, 0, 0, 0, 0), (4, .iload_n 1, 5, 0, 0, 0, 0, 0), (5, .iload_n 2, 6, 0, 0, 0, 0, 0), (6, .iload_n 3, 7, 0, 0, 0, 0, 0), (7, .iload 4, 9, 0, 0, 0, 0, 0), (9, .invokevirtual 29, 12, 41, 5, 0, 0, 0), (12, .i2l, 13, 0, 0, 0, 0, 0), (13, .lastore, 14, 0, 0, 0, 0, 0), (14, .goto 15, 17, 29, 0, 0, 0, 0)],
  [(17, .astore 6, 19, 0, 0, 0, 0, 0), (19, .iconst 1, 20, 0, 0, 0, 1, 0), (20, .ireturn, 21, 0, 0, 0, 0, 0), (21, .astore 6, 23, 0, 0, 0, 0, 0), (23, .iconst 2, 24, 0, 0, 0, 2, 0), (24, .ireturn, 25, 0, 0, 0, 0, 0), (25, .astore 6, 27, 0, 0, 0, 0, 0), (27, .iconst 3, 28, 0, 0, 0, 3, 0), (28, .ireturn, 29, 0, 0, 0, 0, 0), (29, .iconst 0, 30, 0, 0, 0, 0, 0), (30, .ireturn, 31, 0, 0, 0, 0, 0)]]
/-- MovingHeapLaw.put(LMovingHeap;IIJ[J)I -/
def tb_93 : List (List mm_I) := [
  [(0, .aload 5, 2, 0, 0, 0, 0, 0), (2, .iconst 0, 3, 0, 0, 0, 0, 0), (3, .aload_n 0, 4, 0, 0, 0, 0, 0), (4, .iload_n 1, 5, 0, 0, 0, 0, 0), (5, .iload_n 2, 6, 0, 0, 0, 0, 0), (6, .lload_n 3, 7, 0, 0, 0, 0, 0), (7, .invokevirtual 32, 10, 42, 4, 0, 0, 0), (10, .lastore, 11, 0, 0, 0, 0, 0), (11, .goto 11, 14, 22, 0, 0, 0, 0), (14, .astore 6, 16, 0, 0, 0, 0, 0)],
  [(16, .iconst 1, 17, 0, 0, 0, 1, 0), (17, .ireturn, 18, 0, 0, 0, 0, 0), (18, .astore 6, 20, 0, 0, 0, 0, 0), (20, .iconst 2, 21, 0, 0, 0, 2, 0), (21, .ireturn, 22, 0, 0, 0, 0, 0), (22, .iconst 0, 23, 0, 0, 0, 0, 0), (23, .ireturn, 24, 0, 0, 0, 0, 0)]]
/-- MovingHeapLaw.get(LMovingHeap;II[J)I -/
def tb_94 : List (List mm_I) := [
  [(0, .aload_n 3, 1, 0, 0, 0, 0, 0), (1, .iconst 0, 2, 0, 0, 0, 0, 0), (2, .aload_n 0, 3, 0, 0, 0, 0, 0), (3, .iload_n 1, 4, 0, 0, 0, 0, 0), (4, .iload_n 2, 5, 0, 0, 0, 0, 0), (5, .invokevirtual 36, 8, 43, 3, 0, 0, 0), (8, .lastore, 9, 0, 0, 0, 0, 0), (9, .goto 11, 12, 20, 0, 0, 0, 0), (12, .astore 4, 14, 0, 0, 0, 0, 0), (14, .iconst 1, 15, 0, 0, 0, 1, 0), (15, .ireturn, 16, 0, 0, 0, 0, 0)],
  [(16, .astore 4, 18, 0, 0, 0, 0, 0), (18, .iconst 2, 19, 0, 0, 0, 2, 0), (19, .ireturn, 20, 0, 0, 0, 0, 0), (20, .iconst 0, 21, 0, 0, 0, 0, 0), (21, .ireturn, 22, 0, 0, 0, 0, 0)]]
/-- MovingHeapLaw.link(LMovingHeap;III)I -/
def tb_95 : List (List mm_I) := [
  [(0, .aload_n 0, 1, 0, 0, 0, 0, 0), (1, .iload_n 1, 2, 0, 0, 0, 0, 0), (2, .iload_n 2, 3, 0, 0, 0, 0, 0), (3, .iload_n 3, 4, 0, 0, 0, 0, 0), (4, .invokevirtual 40, 7, 44, 4, 0, 0, 0), (7, .goto 11, 10, 18, 0, 0, 0, 0), (10, .astore 4, 12, 0, 0, 0, 0, 0), (12, .iconst 1, 13, 0, 0, 0, 1, 0), (13, .ireturn, 14, 0, 0, 0, 0, 0), (14, .astore 4, 16, 0, 0, 0, 0, 0)],
  [(16, .iconst 2, 17, 0, 0, 0, 2, 0), (17, .ireturn, 18, 0, 0, 0, 0, 0), (18, .iconst 0, 19, 0, 0, 0, 0, 0), (19, .ireturn, 20, 0, 0, 0, 0, 0)]]
/-- MovingHeapLaw.follow(LMovingHeap;III)I -/
def tb_96 : List (List mm_I) := [
  [(0, .aload_n 0, 1, 0, 0, 0, 0, 0), (1, .iload_n 1, 2, 0, 0, 0, 0, 0), (2, .iload_n 2, 3, 0, 0, 0, 0, 0), (3, .iload_n 3, 4, 0, 0, 0, 0, 0), (4, .invokevirtual 44, 7, 45, 4, 0, 0, 0), (7, .goto 11, 10, 18, 0, 0, 0, 0), (10, .astore 4, 12, 0, 0, 0, 0, 0), (12, .iconst 1, 13, 0, 0, 0, 1, 0), (13, .ireturn, 14, 0, 0, 0, 0, 0), (14, .astore 4, 16, 0, 0, 0, 0, 0)],
  [(16, .iconst 2, 17, 0, 0, 0, 2, 0), (17, .ireturn, 18, 0, 0, 0, 0, 0), (18, .iconst 0, 19, 0, 0, 0, 0, 0), (19, .ireturn, 20, 0, 0, 0, 0, 0)]]
/-- MovingHeapLaw.hold(LMovingHeap;II)I -/
def tb_97 : List (List mm_I) := [
  [(0, .aload_n 0, 1, 0, 0, 0, 0, 0), (1, .iload_n 1, 2, 0, 0, 0, 0, 0), (2, .iload_n 2, 3, 0, 0, 0, 0, 0), (3, .invokevirtual 47, 6, 46, 3, 0, 0, 0), (6, .goto 6, 9, 12, 0, 0, 0, 0), (9, .astore_n 3, 10, 0, 0, 0, 0, 0), (10, .iconst 1, 11, 0, 0, 0, 1, 0), (11, .ireturn, 12, 0, 0, 0, 0, 0), (12, .iconst 0, 13, 0, 0, 0, 0, 0), (13, .ireturn, 14, 0, 0, 0, 0, 0)]]
/-- MovingHeapLaw.told(LMovingHeap;II[J)I -/
def tb_98 : List (List mm_I) := [
  [(0, .aload_n 3, 1, 0, 0, 0, 0, 0), (1, .iconst 0, 2, 0, 0, 0, 0, 0), (2, .aload_n 0, 3, 0, 0, 0, 0, 0), (3, .iload_n 1, 4, 0, 0, 0, 0, 0), (4, .iload_n 2, 5, 0, 0, 0, 0, 0), (5, .invokevirtual 51, 8, 47, 3, 0, 0, 0), (8, .i2l, 9, 0, 0, 0, 0, 0), (9, .lastore, 10, 0, 0, 0, 0, 0), (10, .goto 11, 13, 21, 0, 0, 0, 0), (13, .astore 4, 15, 0, 0, 0, 0, 0), (15, .iconst 1, 16, 0, 0, 0, 1, 0)],
  [(16, .ireturn, 17, 0, 0, 0, 0, 0), (17, .astore 4, 19, 0, 0, 0, 0, 0), (19, .iconst 2, 20, 0, 0, 0, 2, 0), (20, .ireturn, 21, 0, 0, 0, 0, 0), (21, .iconst 0, 22, 0, 0, 0, 0, 0), (22, .ireturn, 23, 0, 0, 0, 0, 0)]]
/-- MovingHeapLaw.every(LMovingHeap;I[J)I -/
def tb_99 : List (List mm_I) := [
  [(0, .aload_n 2, 1, 0, 0, 0, 0, 0), (1, .iconst 0, 2, 0, 0, 0, 0, 0), (2, .aload_n 0, 3, 0, 0, 0, 0, 0), (3, .iload_n 1, 4, 0, 0, 0, 0, 0), (4, .invokevirtual 55, 7, 49, 2, 0, 0, 0), (7, .i2l, 8, 0, 0, 0, 0, 0), (8, .lastore, 9, 0, 0, 0, 0, 0), (9, .goto 6, 12, 15, 0, 0, 0, 0), (12, .astore_n 3, 13, 0, 0, 0, 0, 0), (13, .iconst 1, 14, 0, 0, 0, 1, 0), (14, .ireturn, 15, 0, 0, 0, 0, 0), (15, .iconst 0, 16, 0, 0, 0, 0, 0)],
  [(16, .ireturn, 17, 0, 0, 0, 0, 0)]]
/-- MovingHeapLaw.law([I)Z -/
def tb_100 : List (List mm_I) := [
  [(0, .new 8, 3, 0, 5, 0, 0, 0), (3, .dup, 4, 0, 0, 0, 0, 0), (4, .invokespecial 59, 7, 36, 1, 0, 0, 0), (7, .astore_n 1, 8, 0, 0, 0, 0, 0), (8, .new 60, 11, 3, 25, 0, 0, 0), (11, .dup, 12, 0, 0, 0, 0, 0), (12, .invokespecial 62, 15, 58, 1, 0, 0, 0), (15, .astore_n 2, 16, 0, 0, 0, 0, 0)],
  [(16, .iconst 1, 17, 0, 0, 0, 1, 0), (17, .newarray .long, 19, 1, 1, 0, 1, 0), (19, .astore_n 3, 20, 0, 0, 0, 0, 0), (20, .iconst 0, 21, 0, 0, 0, 0, 0), (21, .istore 4, 23, 0, 0, 0, 0, 0), (23, .iload 4, 25, 0, 0, 0, 0, 0), (25, .aload_n 0, 26, 0, 0, 0, 0, 0), (26, .arraylength, 27, 0, 0, 0, 0, 0), (27, .iconst 5, 28, 0, 0, 0, 5, 0), (28, .isub, 29, 0, 0, 0, 0, 0), (29, .if_icmp .gt 1070, 32, 1099, 0, 0, 0, 0)],
  [(32, .aload_n 0, 33, 0, 0, 0, 0, 0), (33, .iload 4, 35, 0, 0, 0, 0, 0), (35, .iaload, 36, 0, 0, 0, 0, 0), (36, .bipush 15, 38, 0, 0, 0, 15, 0), (38, .iand, 39, 0, 0, 0, 0, 0), (39, .tableswitch 1054 0 14 #[73, 165, 261, 357, 453, 545, 656, 723, 783, 843, 891, 959, 972, 1028, 1041], 112, 1093, 0, 0, 0, 0)],
  [],
  [],
  [],
  [],
  [(112, .aload_n 1, 113, 0, 0, 0, 0, 0), (113, .aload_n 0, 114, 0, 0, 0, 0, 0), (114, .iload 4, 116, 0, 0, 0, 0, 0), (116, .iconst 1, 117, 0, 0, 0, 1, 0), (117, .iadd, 118, 0, 0, 0, 0, 0), (118, .iaload, 119, 0, 0, 0, 0, 0), (119, .aload_n 0, 120, 0, 0, 0, 0, 0), (120, .iload 4, 122, 0, 0, 0, 0, 0), (122, .iconst 2, 123, 0, 0, 0, 2, 0), (123, .iadd, 124, 0, 0, 0, 0, 0), (124, .iaload, 125, 0, 0, 0, 0, 0), (125, .aload_n 0, 126, 0, 0, 0, 0, 0), (126, .iload 4, 128, 0, 0, 0, 0, 0)],
  [(128, .iconst 3, 129, 0, 0, 0, 3, 0), (129, .iadd, 130, 0, 0, 0, 0, 0), (130, .iaload, 131, 0, 0, 0, 0, 0), (131, .aload_n 0, 132, 0, 0, 0, 0, 0), (132, .iload 4, 134, 0, 0, 0, 0, 0), (134, .iconst 4, 135, 0, 0, 0, 4, 0), (135, .iadd, 136, 0, 0, 0, 0, 0), (136, .iaload, 137, 0, 0, 0, 0, 0), (137, .aload_n 3, 138, 0, 0, 0, 0, 0), (138, .invokestatic 63, 141, 88, 6, 0, 0, 0), (141, .istore 5, 143, 0, 0, 0, 0, 0), (143, .aload_n 2, 144, 0, 0, 0, 0, 0)],
  [(144, .aload_n 0, 145, 0, 0, 0, 0, 0), (145, .iload 4, 147, 0, 0, 0, 0, 0), (147, .iconst 1, 148, 0, 0, 0, 1, 0), (148, .iadd, 149, 0, 0, 0, 0, 0), (149, .iaload, 150, 0, 0, 0, 0, 0), (150, .aload_n 0, 151, 0, 0, 0, 0, 0), (151, .iload 4, 153, 0, 0, 0, 0, 0), (153, .iconst 2, 154, 0, 0, 0, 2, 0), (154, .iadd, 155, 0, 0, 0, 0, 0), (155, .iaload, 156, 0, 0, 0, 0, 0), (156, .aload_n 0, 157, 0, 0, 0, 0, 0), (157, .iload 4, 159, 0, 0, 0, 0, 0), (159, .iconst 3, 160, 0, 0, 0, 3, 0)],
  [(160, .iadd, 161, 0, 0, 0, 0, 0), (161, .iaload, 162, 0, 0, 0, 0, 0), (162, .aload_n 0, 163, 0, 0, 0, 0, 0), (163, .iload 4, 165, 0, 0, 0, 0, 0), (165, .iconst 4, 166, 0, 0, 0, 4, 0), (166, .iadd, 167, 0, 0, 0, 0, 0), (167, .iaload, 168, 0, 0, 0, 0, 0), (168, .invokevirtual 68, 171, 62, 5, 0, 0, 0), (171, .istore 6, 173, 0, 0, 0, 0, 0), (173, .aload_n 2, 174, 0, 0, 0, 0, 0), (174, .invokevirtual 69, 177, 59, 1, 0, 0, 0)],
  [(177, .iload 5, 179, 0, 0, 0, 0, 0), (179, .if_icmp .eq 5, 182, 184, 0, 0, 0, 0), (182, .iconst 0, 183, 0, 0, 0, 0, 0), (183, .ireturn, 184, 1, 0, 0, 0, 0), (184, .iload 5, 186, 0, 0, 0, 0, 0), (186, .ifCond .ne 15, 189, 201, 0, 0, 0, 0), (189, .aload_n 3, 190, 0, 0, 0, 0, 0), (190, .iconst 0, 191, 0, 0, 0, 0, 0), (191, .laload, 192, 0, 0, 0, 0, 0)],
  [(192, .iload 6, 194, 0, 0, 0, 0, 0), (194, .i2l, 195, 0, 0, 0, 0, 0), (195, .lcmp, 196, 0, 0, 0, 0, 0), (196, .ifCond .eq 5, 199, 201, 0, 0, 0, 0), (199, .iconst 0, 200, 0, 0, 0, 0, 0), (200, .ireturn, 201, 1, 0, 0, 0, 0), (201, .goto 892, 204, 1093, 0, 0, 0, 0), (204, .aload_n 1, 205, 0, 0, 0, 0, 0), (205, .aload_n 0, 206, 0, 0, 0, 0, 0), (206, .iload 4, 208, 0, 0, 0, 0, 0)],
  [(208, .iconst 1, 209, 0, 0, 0, 1, 0), (209, .iadd, 210, 0, 0, 0, 0, 0), (210, .iaload, 211, 0, 0, 0, 0, 0), (211, .aload_n 0, 212, 0, 0, 0, 0, 0), (212, .iload 4, 214, 0, 0, 0, 0, 0), (214, .iconst 2, 215, 0, 0, 0, 2, 0), (215, .iadd, 216, 0, 0, 0, 0, 0), (216, .iaload, 217, 0, 0, 0, 0, 0), (217, .aload_n 0, 218, 0, 0, 0, 0, 0), (218, .iload 4, 220, 0, 0, 0, 0, 0), (220, .iconst 3, 221, 0, 0, 0, 3, 0), (221, .iadd, 222, 0, 0, 0, 0, 0), (222, .iaload, 223, 0, 0, 0, 0, 0), (223, .ifCond .eq 7, 226, 230, 0, 0, 0, 0)],
  [(226, .iconst 1, 227, 0, 0, 0, 1, 0), (227, .goto 4, 230, 231, 0, 0, 0, 0), (230, .iconst 0, 231, 0, 0, 0, 0, 0), (231, .aload_n 3, 232, 0, 0, 0, 0, 0), (232, .invokestatic 73, 235, 89, 5, 0, 0, 0), (235, .istore 5, 237, 0, 0, 0, 0, 0), (237, .aload_n 2, 238, 0, 0, 0, 0, 0), (238, .aload_n 0, 239, 0, 0, 0, 0, 0), (239, .iload 4, 241, 0, 0, 0, 0, 0)],
  [(241, .iconst 1, 242, 0, 0, 0, 1, 0), (242, .iadd, 243, 0, 0, 0, 0, 0), (243, .iaload, 244, 0, 0, 0, 0, 0), (244, .aload_n 0, 245, 0, 0, 0, 0, 0), (245, .iload 4, 247, 0, 0, 0, 0, 0), (247, .iconst 2, 248, 0, 0, 0, 2, 0), (248, .iadd, 249, 0, 0, 0, 0, 0), (249, .iaload, 250, 0, 0, 0, 0, 0), (250, .aload_n 0, 251, 0, 0, 0, 0, 0), (251, .iload 4, 253, 0, 0, 0, 0, 0), (253, .iconst 3, 254, 0, 0, 0, 3, 0), (254, .iadd, 255, 0, 0, 0, 0, 0), (255, .iaload, 256, 0, 0, 0, 0, 0)],
  [(256, .ifCond .eq 7, 259, 263, 0, 0, 0, 0), (259, .iconst 1, 260, 0, 0, 0, 1, 0), (260, .goto 4, 263, 264, 0, 0, 0, 0), (263, .iconst 0, 264, 0, 0, 0, 0, 0), (264, .invokevirtual 76, 267, 72, 4, 0, 0, 0), (267, .istore 6, 269, 0, 0, 0, 0, 0), (269, .aload_n 2, 270, 0, 0, 0, 0, 0), (270, .invokevirtual 69, 273, 59, 1, 0, 0, 0)],
  [(273, .iload 5, 275, 0, 0, 0, 0, 0), (275, .if_icmp .eq 5, 278, 280, 0, 0, 0, 0), (278, .iconst 0, 279, 0, 0, 0, 0, 0), (279, .ireturn, 280, 1, 0, 0, 0, 0), (280, .iload 5, 282, 0, 0, 0, 0, 0), (282, .ifCond .ne 15, 285, 297, 0, 0, 0, 0), (285, .aload_n 3, 286, 0, 0, 0, 0, 0), (286, .iconst 0, 287, 0, 0, 0, 0, 0), (287, .laload, 288, 0, 0, 0, 0, 0)],
  [(288, .iload 6, 290, 0, 0, 0, 0, 0), (290, .i2l, 291, 0, 0, 0, 0, 0), (291, .lcmp, 292, 0, 0, 0, 0, 0), (292, .ifCond .eq 5, 295, 297, 0, 0, 0, 0), (295, .iconst 0, 296, 0, 0, 0, 0, 0), (296, .ireturn, 297, 1, 0, 0, 0, 0), (297, .goto 796, 300, 1093, 0, 0, 0, 0), (300, .aload_n 1, 301, 0, 0, 0, 0, 0), (301, .aload_n 0, 302, 0, 0, 0, 0, 0), (302, .iload 4, 304, 0, 0, 0, 0, 0)],
  [(304, .iconst 1, 305, 0, 0, 0, 1, 0), (305, .iadd, 306, 0, 0, 0, 0, 0), (306, .iaload, 307, 0, 0, 0, 0, 0), (307, .aload_n 0, 308, 0, 0, 0, 0, 0), (308, .iload 4, 310, 0, 0, 0, 0, 0), (310, .iconst 2, 311, 0, 0, 0, 2, 0), (311, .iadd, 312, 0, 0, 0, 0, 0), (312, .iaload, 313, 0, 0, 0, 0, 0), (313, .aload_n 0, 314, 0, 0, 0, 0, 0), (314, .iload 4, 316, 0, 0, 0, 0, 0), (316, .iconst 3, 317, 0, 0, 0, 3, 0), (317, .iadd, 318, 0, 0, 0, 0, 0), (318, .iaload, 319, 0, 0, 0, 0, 0), (319, .ifCond .eq 7, 322, 326, 0, 0, 0, 0)],
  [(322, .iconst 1, 323, 0, 0, 0, 1, 0), (323, .goto 4, 326, 327, 0, 0, 0, 0), (326, .iconst 0, 327, 0, 0, 0, 0, 0), (327, .aload_n 3, 328, 0, 0, 0, 0, 0), (328, .invokestatic 77, 331, 90, 5, 0, 0, 0), (331, .istore 5, 333, 0, 0, 0, 0, 0), (333, .aload_n 2, 334, 0, 0, 0, 0, 0), (334, .aload_n 0, 335, 0, 0, 0, 0, 0), (335, .iload 4, 337, 0, 0, 0, 0, 0)],
  [(337, .iconst 1, 338, 0, 0, 0, 1, 0), (338, .iadd, 339, 0, 0, 0, 0, 0), (339, .iaload, 340, 0, 0, 0, 0, 0), (340, .aload_n 0, 341, 0, 0, 0, 0, 0), (341, .iload 4, 343, 0, 0, 0, 0, 0), (343, .iconst 2, 344, 0, 0, 0, 2, 0), (344, .iadd, 345, 0, 0, 0, 0, 0), (345, .iaload, 346, 0, 0, 0, 0, 0), (346, .aload_n 0, 347, 0, 0, 0, 0, 0), (347, .iload 4, 349, 0, 0, 0, 0, 0), (349, .iconst 3, 350, 0, 0, 0, 3, 0), (350, .iadd, 351, 0, 0, 0, 0, 0), (351, .iaload, 352, 0, 0, 0, 0, 0)],
  [(352, .ifCond .eq 7, 355, 359, 0, 0, 0, 0), (355, .iconst 1, 356, 0, 0, 0, 1, 0), (356, .goto 4, 359, 360, 0, 0, 0, 0), (359, .iconst 0, 360, 0, 0, 0, 0, 0), (360, .invokevirtual 79, 363, 73, 4, 0, 0, 0), (363, .istore 6, 365, 0, 0, 0, 0, 0), (365, .aload_n 2, 366, 0, 0, 0, 0, 0), (366, .invokevirtual 69, 369, 59, 1, 0, 0, 0)],
  [(369, .iload 5, 371, 0, 0, 0, 0, 0), (371, .if_icmp .eq 5, 374, 376, 0, 0, 0, 0), (374, .iconst 0, 375, 0, 0, 0, 0, 0), (375, .ireturn, 376, 1, 0, 0, 0, 0), (376, .iload 5, 378, 0, 0, 0, 0, 0), (378, .ifCond .ne 15, 381, 393, 0, 0, 0, 0), (381, .aload_n 3, 382, 0, 0, 0, 0, 0), (382, .iconst 0, 383, 0, 0, 0, 0, 0), (383, .laload, 384, 0, 0, 0, 0, 0)],
  [(384, .iload 6, 386, 0, 0, 0, 0, 0), (386, .i2l, 387, 0, 0, 0, 0, 0), (387, .lcmp, 388, 0, 0, 0, 0, 0), (388, .ifCond .eq 5, 391, 393, 0, 0, 0, 0), (391, .iconst 0, 392, 0, 0, 0, 0, 0), (392, .ireturn, 393, 1, 0, 0, 0, 0), (393, .goto 700, 396, 1093, 0, 0, 0, 0), (396, .aload_n 1, 397, 0, 0, 0, 0, 0), (397, .aload_n 0, 398, 0, 0, 0, 0, 0), (398, .iload 4, 400, 0, 0, 0, 0, 0)],
  [(400, .iconst 1, 401, 0, 0, 0, 1, 0), (401, .iadd, 402, 0, 0, 0, 0, 0), (402, .iaload, 403, 0, 0, 0, 0, 0), (403, .aload_n 0, 404, 0, 0, 0, 0, 0), (404, .iload 4, 406, 0, 0, 0, 0, 0), (406, .iconst 2, 407, 0, 0, 0, 2, 0), (407, .iadd, 408, 0, 0, 0, 0, 0), (408, .iaload, 409, 0, 0, 0, 0, 0), (409, .aload_n 0, 410, 0, 0, 0, 0, 0), (410, .iload 4, 412, 0, 0, 0, 0, 0), (412, .iconst 3, 413, 0, 0, 0, 3, 0), (413, .iadd, 414, 0, 0, 0, 0, 0), (414, .iaload, 415, 0, 0, 0, 0, 0), (415, .ifCond .eq 7, 418, 422, 0, 0, 0, 0)],
  [(418, .iconst 1, 419, 0, 0, 0, 1, 0), (419, .goto 4, 422, 423, 0, 0, 0, 0), (422, .iconst 0, 423, 0, 0, 0, 0, 0), (423, .aload_n 3, 424, 0, 0, 0, 0, 0), (424, .invokestatic 80, 427, 91, 5, 0, 0, 0), (427, .istore 5, 429, 0, 0, 0, 0, 0), (429, .aload_n 2, 430, 0, 0, 0, 0, 0), (430, .aload_n 0, 431, 0, 0, 0, 0, 0), (431, .iload 4, 433, 0, 0, 0, 0, 0)],
  [(433, .iconst 1, 434, 0, 0, 0, 1, 0), (434, .iadd, 435, 0, 0, 0, 0, 0), (435, .iaload, 436, 0, 0, 0, 0, 0), (436, .aload_n 0, 437, 0, 0, 0, 0, 0), (437, .iload 4, 439, 0, 0, 0, 0, 0), (439, .iconst 2, 440, 0, 0, 0, 2, 0), (440, .iadd, 441, 0, 0, 0, 0, 0), (441, .iaload, 442, 0, 0, 0, 0, 0), (442, .aload_n 0, 443, 0, 0, 0, 0, 0), (443, .iload 4, 445, 0, 0, 0, 0, 0), (445, .iconst 3, 446, 0, 0, 0, 3, 0), (446, .iadd, 447, 0, 0, 0, 0, 0), (447, .iaload, 448, 0, 0, 0, 0, 0)],
  [(448, .ifCond .eq 7, 451, 455, 0, 0, 0, 0), (451, .iconst 1, 452, 0, 0, 0, 1, 0), (452, .goto 4, 455, 456, 0, 0, 0, 0), (455, .iconst 0, 456, 0, 0, 0, 0, 0), (456, .invokevirtual 82, 459, 74, 4, 0, 0, 0), (459, .istore 6, 461, 0, 0, 0, 0, 0), (461, .aload_n 2, 462, 0, 0, 0, 0, 0), (462, .invokevirtual 69, 465, 59, 1, 0, 0, 0)],
  [(465, .iload 5, 467, 0, 0, 0, 0, 0), (467, .if_icmp .eq 5, 470, 472, 0, 0, 0, 0), (470, .iconst 0, 471, 0, 0, 0, 0, 0), (471, .ireturn, 472, 1, 0, 0, 0, 0), (472, .iload 5, 474, 0, 0, 0, 0, 0), (474, .ifCond .ne 15, 477, 489, 0, 0, 0, 0), (477, .aload_n 3, 478, 0, 0, 0, 0, 0), (478, .iconst 0, 479, 0, 0, 0, 0, 0), (479, .laload, 480, 0, 0, 0, 0, 0)],
  [(480, .iload 6, 482, 0, 0, 0, 0, 0), (482, .i2l, 483, 0, 0, 0, 0, 0), (483, .lcmp, 484, 0, 0, 0, 0, 0), (484, .ifCond .eq 5, 487, 489, 0, 0, 0, 0), (487, .iconst 0, 488, 0, 0, 0, 0, 0), (488, .ireturn, 489, 1, 0, 0, 0, 0), (489, .goto 604, 492, 1093, 0, 0, 0, 0), (492, .aload_n 1, 493, 0, 0, 0, 0, 0), (493, .aload_n 0, 494, 0, 0, 0, 0, 0), (494, .iload 4, 496, 0, 0, 0, 0, 0)],
  [(496, .iconst 1, 497, 0, 0, 0, 1, 0), (497, .iadd, 498, 0, 0, 0, 0, 0), (498, .iaload, 499, 0, 0, 0, 0, 0), (499, .aload_n 0, 500, 0, 0, 0, 0, 0), (500, .iload 4, 502, 0, 0, 0, 0, 0), (502, .iconst 2, 503, 0, 0, 0, 2, 0), (503, .iadd, 504, 0, 0, 0, 0, 0), (504, .iaload, 505, 0, 0, 0, 0, 0), (505, .aload_n 0, 506, 0, 0, 0, 0, 0), (506, .iload 4, 508, 0, 0, 0, 0, 0), (508, .iconst 3, 509, 0, 0, 0, 3, 0), (509, .iadd, 510, 0, 0, 0, 0, 0), (510, .iaload, 511, 0, 0, 0, 0, 0), (511, .aload_n 0, 512, 0, 0, 0, 0, 0)],
  [(512, .iload 4, 514, 0, 0, 0, 0, 0), (514, .iconst 4, 515, 0, 0, 0, 4, 0), (515, .iadd, 516, 0, 0, 0, 0, 0), (516, .iaload, 517, 0, 0, 0, 0, 0), (517, .aload_n 3, 518, 0, 0, 0, 0, 0), (518, .invokestatic 83, 521, 92, 6, 0, 0, 0), (521, .istore 5, 523, 0, 0, 0, 0, 0), (523, .aload_n 2, 524, 0, 0, 0, 0, 0), (524, .aload_n 0, 525, 0, 0, 0, 0, 0), (525, .iload 4, 527, 0, 0, 0, 0, 0), (527, .iconst 1, 528, 0, 0, 0, 1, 0)],
  [(528, .iadd, 529, 0, 0, 0, 0, 0), (529, .iaload, 530, 0, 0, 0, 0, 0), (530, .aload_n 0, 531, 0, 0, 0, 0, 0), (531, .iload 4, 533, 0, 0, 0, 0, 0), (533, .iconst 2, 534, 0, 0, 0, 2, 0), (534, .iadd, 535, 0, 0, 0, 0, 0), (535, .iaload, 536, 0, 0, 0, 0, 0), (536, .aload_n 0, 537, 0, 0, 0, 0, 0), (537, .iload 4, 539, 0, 0, 0, 0, 0), (539, .iconst 3, 540, 0, 0, 0, 3, 0), (540, .iadd, 541, 0, 0, 0, 0, 0), (541, .iaload, 542, 0, 0, 0, 0, 0), (542, .aload_n 0, 543, 0, 0, 0, 0, 0), (543, .iload 4, 545, 0, 0, 0, 0, 0)],
  [(545, .iconst 4, 546, 0, 0, 0, 4, 0), (546, .iadd, 547, 0, 0, 0, 0, 0), (547, .iaload, 548, 0, 0, 0, 0, 0), (548, .invokevirtual 85, 551, 75, 5, 0, 0, 0), (551, .istore 6, 553, 0, 0, 0, 0, 0), (553, .aload_n 2, 554, 0, 0, 0, 0, 0), (554, .invokevirtual 69, 557, 59, 1, 0, 0, 0), (557, .iload 5, 559, 0, 0, 0, 0, 0), (559, .if_icmp .eq 5, 562, 564, 0, 0, 0, 0)],
  [(562, .iconst 0, 563, 0, 0, 0, 0, 0), (563, .ireturn, 564, 1, 0, 0, 0, 0), (564, .iload 5, 566, 0, 0, 0, 0, 0), (566, .ifCond .ne 15, 569, 581, 0, 0, 0, 0), (569, .aload_n 3, 570, 0, 0, 0, 0, 0), (570, .iconst 0, 571, 0, 0, 0, 0, 0), (571, .laload, 572, 0, 0, 0, 0, 0), (572, .iload 6, 574, 0, 0, 0, 0, 0), (574, .i2l, 575, 0, 0, 0, 0, 0), (575, .lcmp, 576, 0, 0, 0, 0, 0)],
  [(576, .ifCond .eq 5, 579, 581, 0, 0, 0, 0), (579, .iconst 0, 580, 0, 0, 0, 0, 0), (580, .ireturn, 581, 1, 0, 0, 0, 0), (581, .goto 512, 584, 1093, 0, 0, 0, 0), (584, .aload_n 1, 585, 0, 0, 0, 0, 0), (585, .aload_n 0, 586, 0, 0, 0, 0, 0), (586, .iload 4, 588, 0, 0, 0, 0, 0), (588, .iconst 1, 589, 0, 0, 0, 1, 0), (589, .iadd, 590, 0, 0, 0, 0, 0), (590, .iaload, 591, 0, 0, 0, 0, 0), (591, .aload_n 0, 592, 0, 0, 0, 0, 0)],
  [(592, .iload 4, 594, 0, 0, 0, 0, 0), (594, .iconst 2, 595, 0, 0, 0, 2, 0), (595, .iadd, 596, 0, 0, 0, 0, 0), (596, .iaload, 597, 0, 0, 0, 0, 0), (597, .aload_n 0, 598, 0, 0, 0, 0, 0), (598, .iload 4, 600, 0, 0, 0, 0, 0), (600, .iconst 3, 601, 0, 0, 0, 3, 0), (601, .iadd, 602, 0, 0, 0, 0, 0), (602, .iaload, 603, 0, 0, 0, 0, 0), (603, .i2l, 604, 0, 0, 0, 0, 0), (604, .bipush 32, 606, 0, 0, 0, 32, 0), (606, .lshl, 607, 0, 0, 0, 0, 0), (607, .aload_n 0, 608, 0, 0, 0, 0, 0)],
  [(608, .iload 4, 610, 0, 0, 0, 0, 0), (610, .iconst 4, 611, 0, 0, 0, 4, 0), (611, .iadd, 612, 0, 0, 0, 0, 0), (612, .iaload, 613, 0, 0, 0, 0, 0), (613, .i2l, 614, 0, 0, 0, 0, 0), (614, .ldc2_w 86, 617, 0, 0, 0, 0, 4294967295), (617, .land, 618, 0, 0, 0, 0, 0), (618, .lor, 619, 0, 0, 0, 0, 0), (619, .aload_n 3, 620, 0, 0, 0, 0, 0), (620, .invokestatic 88, 623, 93, 5, 0, 0, 0), (623, .istore 5, 625, 0, 0, 0, 0, 0)],
  [(625, .aload_n 2, 626, 0, 0, 0, 0, 0), (626, .aload_n 0, 627, 0, 0, 0, 0, 0), (627, .iload 4, 629, 0, 0, 0, 0, 0), (629, .iconst 1, 630, 0, 0, 0, 1, 0), (630, .iadd, 631, 0, 0, 0, 0, 0), (631, .iaload, 632, 0, 0, 0, 0, 0), (632, .aload_n 0, 633, 0, 0, 0, 0, 0), (633, .iload 4, 635, 0, 0, 0, 0, 0), (635, .iconst 2, 636, 0, 0, 0, 2, 0), (636, .iadd, 637, 0, 0, 0, 0, 0), (637, .iaload, 638, 0, 0, 0, 0, 0), (638, .aload_n 0, 639, 0, 0, 0, 0, 0), (639, .iload 4, 641, 0, 0, 0, 0, 0)],
  [(641, .iconst 3, 642, 0, 0, 0, 3, 0), (642, .iadd, 643, 0, 0, 0, 0, 0), (643, .iaload, 644, 0, 0, 0, 0, 0), (644, .i2l, 645, 0, 0, 0, 0, 0), (645, .bipush 32, 647, 0, 0, 0, 32, 0), (647, .lshl, 648, 0, 0, 0, 0, 0), (648, .aload_n 0, 649, 0, 0, 0, 0, 0), (649, .iload 4, 651, 0, 0, 0, 0, 0), (651, .iconst 4, 652, 0, 0, 0, 4, 0), (652, .iadd, 653, 0, 0, 0, 0, 0), (653, .iaload, 654, 0, 0, 0, 0, 0), (654, .i2l, 655, 0, 0, 0, 0, 0), (655, .ldc2_w 86, 658, 0, 0, 0, 0, 4294967295)],
  [(658, .land, 659, 0, 0, 0, 0, 0), (659, .lor, 660, 0, 0, 0, 0, 0), (660, .invokevirtual 91, 663, 78, 4, 0, 0, 0), (663, .lstore 6, 665, 0, 0, 0, 0, 0), (665, .aload_n 2, 666, 0, 0, 0, 0, 0), (666, .invokevirtual 69, 669, 59, 1, 0, 0, 0), (669, .iload 5, 671, 0, 0, 0, 0, 0), (671, .if_icmp .eq 5, 674, 676, 0, 0, 0, 0)],
  [(674, .iconst 0, 675, 0, 0, 0, 0, 0), (675, .ireturn, 676, 1, 0, 0, 0, 0), (676, .iload 5, 678, 0, 0, 0, 0, 0), (678, .ifCond .ne 14, 681, 692, 0, 0, 0, 0), (681, .aload_n 3, 682, 0, 0, 0, 0, 0), (682, .iconst 0, 683, 0, 0, 0, 0, 0), (683, .laload, 684, 0, 0, 0, 0, 0), (684, .lload 6, 686, 0, 0, 0, 0, 0), (686, .lcmp, 687, 0, 0, 0, 0, 0), (687, .ifCond .eq 5, 690, 692, 0, 0, 0, 0)],
  [(690, .iconst 0, 691, 0, 0, 0, 0, 0), (691, .ireturn, 692, 1, 0, 0, 0, 0), (692, .goto 401, 695, 1093, 0, 0, 0, 0), (695, .aload_n 1, 696, 0, 0, 0, 0, 0), (696, .aload_n 0, 697, 0, 0, 0, 0, 0), (697, .iload 4, 699, 0, 0, 0, 0, 0), (699, .iconst 1, 700, 0, 0, 0, 1, 0), (700, .iadd, 701, 0, 0, 0, 0, 0), (701, .iaload, 702, 0, 0, 0, 0, 0), (702, .aload_n 0, 703, 0, 0, 0, 0, 0), (703, .iload 4, 705, 0, 0, 0, 0, 0)],
  [(705, .iconst 2, 706, 0, 0, 0, 2, 0), (706, .iadd, 707, 0, 0, 0, 0, 0), (707, .iaload, 708, 0, 0, 0, 0, 0), (708, .aload_n 3, 709, 0, 0, 0, 0, 0), (709, .invokestatic 92, 712, 94, 4, 0, 0, 0), (712, .istore 5, 714, 0, 0, 0, 0, 0), (714, .aload_n 2, 715, 0, 0, 0, 0, 0), (715, .aload_n 0, 716, 0, 0, 0, 0, 0), (716, .iload 4, 718, 0, 0, 0, 0, 0), (718, .iconst 1, 719, 0, 0, 0, 1, 0), (719, .iadd, 720, 0, 0, 0, 0, 0)],
  [(720, .iaload, 721, 0, 0, 0, 0, 0), (721, .aload_n 0, 722, 0, 0, 0, 0, 0), (722, .iload 4, 724, 0, 0, 0, 0, 0), (724, .iconst 2, 725, 0, 0, 0, 2, 0), (725, .iadd, 726, 0, 0, 0, 0, 0), (726, .iaload, 727, 0, 0, 0, 0, 0), (727, .invokevirtual 95, 730, 79, 3, 0, 0, 0), (730, .lstore 6, 732, 0, 0, 0, 0, 0), (732, .aload_n 2, 733, 0, 0, 0, 0, 0), (733, .invokevirtual 69, 736, 59, 1, 0, 0, 0)],
  [(736, .iload 5, 738, 0, 0, 0, 0, 0), (738, .if_icmp .eq 5, 741, 743, 0, 0, 0, 0), (741, .iconst 0, 742, 0, 0, 0, 0, 0), (742, .ireturn, 743, 1, 0, 0, 0, 0), (743, .iload 5, 745, 0, 0, 0, 0, 0), (745, .ifCond .ne 14, 748, 759, 0, 0, 0, 0), (748, .aload_n 3, 749, 0, 0, 0, 0, 0), (749, .iconst 0, 750, 0, 0, 0, 0, 0), (750, .laload, 751, 0, 0, 0, 0, 0), (751, .lload 6, 753, 0, 0, 0, 0, 0)],
  [(753, .lcmp, 754, 0, 0, 0, 0, 0), (754, .ifCond .eq 5, 757, 759, 0, 0, 0, 0), (757, .iconst 0, 758, 0, 0, 0, 0, 0), (758, .ireturn, 759, 1, 0, 0, 0, 0), (759, .goto 334, 762, 1093, 0, 0, 0, 0), (762, .aload_n 1, 763, 0, 0, 0, 0, 0), (763, .aload_n 0, 764, 0, 0, 0, 0, 0), (764, .iload 4, 766, 0, 0, 0, 0, 0), (766, .iconst 1, 767, 0, 0, 0, 1, 0), (767, .iadd, 768, 0, 0, 0, 0, 0)],
  [(768, .iaload, 769, 0, 0, 0, 0, 0), (769, .aload_n 0, 770, 0, 0, 0, 0, 0), (770, .iload 4, 772, 0, 0, 0, 0, 0), (772, .iconst 2, 773, 0, 0, 0, 2, 0), (773, .iadd, 774, 0, 0, 0, 0, 0), (774, .iaload, 775, 0, 0, 0, 0, 0), (775, .aload_n 0, 776, 0, 0, 0, 0, 0), (776, .iload 4, 778, 0, 0, 0, 0, 0), (778, .iconst 3, 779, 0, 0, 0, 3, 0), (779, .iadd, 780, 0, 0, 0, 0, 0), (780, .iaload, 781, 0, 0, 0, 0, 0), (781, .invokestatic 96, 784, 95, 4, 0, 0, 0)],
  [(784, .istore 5, 786, 0, 0, 0, 0, 0), (786, .aload_n 2, 787, 0, 0, 0, 0, 0), (787, .aload_n 0, 788, 0, 0, 0, 0, 0), (788, .iload 4, 790, 0, 0, 0, 0, 0), (790, .iconst 1, 791, 0, 0, 0, 1, 0), (791, .iadd, 792, 0, 0, 0, 0, 0), (792, .iaload, 793, 0, 0, 0, 0, 0), (793, .aload_n 0, 794, 0, 0, 0, 0, 0), (794, .iload 4, 796, 0, 0, 0, 0, 0), (796, .iconst 2, 797, 0, 0, 0, 2, 0), (797, .iadd, 798, 0, 0, 0, 0, 0), (798, .iaload, 799, 0, 0, 0, 0, 0), (799, .aload_n 0, 800, 0, 0, 0, 0, 0)],
  [(800, .iload 4, 802, 0, 0, 0, 0, 0), (802, .iconst 3, 803, 0, 0, 0, 3, 0), (803, .iadd, 804, 0, 0, 0, 0, 0), (804, .iaload, 805, 0, 0, 0, 0, 0), (805, .invokevirtual 99, 808, 80, 4, 0, 0, 0), (808, .aload_n 2, 809, 0, 0, 0, 0, 0), (809, .invokevirtual 69, 812, 59, 1, 0, 0, 0), (812, .iload 5, 814, 0, 0, 0, 0, 0), (814, .if_icmp .eq 5, 817, 819, 0, 0, 0, 0)],
  [(817, .iconst 0, 818, 0, 0, 0, 0, 0), (818, .ireturn, 819, 1, 0, 0, 0, 0), (819, .goto 274, 822, 1093, 0, 0, 0, 0), (822, .aload_n 1, 823, 0, 0, 0, 0, 0), (823, .aload_n 0, 824, 0, 0, 0, 0, 0), (824, .iload 4, 826, 0, 0, 0, 0, 0), (826, .iconst 1, 827, 0, 0, 0, 1, 0), (827, .iadd, 828, 0, 0, 0, 0, 0), (828, .iaload, 829, 0, 0, 0, 0, 0), (829, .aload_n 0, 830, 0, 0, 0, 0, 0), (830, .iload 4, 832, 0, 0, 0, 0, 0)],
  [(832, .iconst 2, 833, 0, 0, 0, 2, 0), (833, .iadd, 834, 0, 0, 0, 0, 0), (834, .iaload, 835, 0, 0, 0, 0, 0), (835, .aload_n 0, 836, 0, 0, 0, 0, 0), (836, .iload 4, 838, 0, 0, 0, 0, 0), (838, .iconst 3, 839, 0, 0, 0, 3, 0), (839, .iadd, 840, 0, 0, 0, 0, 0), (840, .iaload, 841, 0, 0, 0, 0, 0), (841, .invokestatic 100, 844, 96, 4, 0, 0, 0), (844, .istore 5, 846, 0, 0, 0, 0, 0), (846, .aload_n 2, 847, 0, 0, 0, 0, 0), (847, .aload_n 0, 848, 0, 0, 0, 0, 0)],
  [(848, .iload 4, 850, 0, 0, 0, 0, 0), (850, .iconst 1, 851, 0, 0, 0, 1, 0), (851, .iadd, 852, 0, 0, 0, 0, 0), (852, .iaload, 853, 0, 0, 0, 0, 0), (853, .aload_n 0, 854, 0, 0, 0, 0, 0), (854, .iload 4, 856, 0, 0, 0, 0, 0), (856, .iconst 2, 857, 0, 0, 0, 2, 0), (857, .iadd, 858, 0, 0, 0, 0, 0), (858, .iaload, 859, 0, 0, 0, 0, 0), (859, .aload_n 0, 860, 0, 0, 0, 0, 0), (860, .iload 4, 862, 0, 0, 0, 0, 0), (862, .iconst 3, 863, 0, 0, 0, 3, 0), (863, .iadd, 864, 0, 0, 0, 0, 0)],
  [(864, .iaload, 865, 0, 0, 0, 0, 0), (865, .invokevirtual 102, 868, 81, 4, 0, 0, 0), (868, .aload_n 2, 869, 0, 0, 0, 0, 0), (869, .invokevirtual 69, 872, 59, 1, 0, 0, 0), (872, .iload 5, 874, 0, 0, 0, 0, 0), (874, .if_icmp .eq 5, 877, 879, 0, 0, 0, 0), (877, .iconst 0, 878, 0, 0, 0, 0, 0), (878, .ireturn, 879, 1, 0, 0, 0, 0), (879, .goto 214, 882, 1093, 0, 0, 0, 0)],
  [(882, .aload_n 1, 883, 0, 0, 0, 0, 0), (883, .aload_n 0, 884, 0, 0, 0, 0, 0), (884, .iload 4, 886, 0, 0, 0, 0, 0), (886, .iconst 1, 887, 0, 0, 0, 1, 0), (887, .iadd, 888, 0, 0, 0, 0, 0), (888, .iaload, 889, 0, 0, 0, 0, 0), (889, .aload_n 0, 890, 0, 0, 0, 0, 0), (890, .iload 4, 892, 0, 0, 0, 0, 0), (892, .iconst 2, 893, 0, 0, 0, 2, 0), (893, .iadd, 894, 0, 0, 0, 0, 0), (894, .iaload, 895, 0, 0, 0, 0, 0), (895, .invokestatic 103, 898, 97, 3, 0, 0, 0)],
  [(898, .istore 5, 900, 0, 0, 0, 0, 0), (900, .aload_n 2, 901, 0, 0, 0, 0, 0), (901, .aload_n 0, 902, 0, 0, 0, 0, 0), (902, .iload 4, 904, 0, 0, 0, 0, 0), (904, .iconst 1, 905, 0, 0, 0, 1, 0), (905, .iadd, 906, 0, 0, 0, 0, 0), (906, .iaload, 907, 0, 0, 0, 0, 0), (907, .aload_n 0, 908, 0, 0, 0, 0, 0), (908, .iload 4, 910, 0, 0, 0, 0, 0), (910, .iconst 2, 911, 0, 0, 0, 2, 0), (911, .iadd, 912, 0, 0, 0, 0, 0)],
  [(912, .iaload, 913, 0, 0, 0, 0, 0), (913, .invokevirtual 106, 916, 82, 3, 0, 0, 0), (916, .aload_n 2, 917, 0, 0, 0, 0, 0), (917, .invokevirtual 69, 920, 59, 1, 0, 0, 0), (920, .iload 5, 922, 0, 0, 0, 0, 0), (922, .if_icmp .eq 5, 925, 927, 0, 0, 0, 0), (925, .iconst 0, 926, 0, 0, 0, 0, 0), (926, .ireturn, 927, 1, 0, 0, 0, 0), (927, .goto 166, 930, 1093, 0, 0, 0, 0)],
  [(930, .aload_n 1, 931, 0, 0, 0, 0, 0), (931, .aload_n 0, 932, 0, 0, 0, 0, 0), (932, .iload 4, 934, 0, 0, 0, 0, 0), (934, .iconst 1, 935, 0, 0, 0, 1, 0), (935, .iadd, 936, 0, 0, 0, 0, 0), (936, .iaload, 937, 0, 0, 0, 0, 0), (937, .aload_n 0, 938, 0, 0, 0, 0, 0), (938, .iload 4, 940, 0, 0, 0, 0, 0), (940, .iconst 2, 941, 0, 0, 0, 2, 0), (941, .iadd, 942, 0, 0, 0, 0, 0), (942, .iaload, 943, 0, 0, 0, 0, 0), (943, .aload_n 3, 944, 0, 0, 0, 0, 0)],
  [(944, .invokestatic 107, 947, 98, 4, 0, 0, 0), (947, .istore 5, 949, 0, 0, 0, 0, 0), (949, .aload_n 2, 950, 0, 0, 0, 0, 0), (950, .aload_n 0, 951, 0, 0, 0, 0, 0), (951, .iload 4, 953, 0, 0, 0, 0, 0), (953, .iconst 1, 954, 0, 0, 0, 1, 0), (954, .iadd, 955, 0, 0, 0, 0, 0), (955, .iaload, 956, 0, 0, 0, 0, 0), (956, .aload_n 0, 957, 0, 0, 0, 0, 0), (957, .iload 4, 959, 0, 0, 0, 0, 0), (959, .iconst 2, 960, 0, 0, 0, 2, 0)],
  [(960, .iadd, 961, 0, 0, 0, 0, 0), (961, .iaload, 962, 0, 0, 0, 0, 0), (962, .invokevirtual 109, 965, 83, 3, 0, 0, 0), (965, .istore 6, 967, 0, 0, 0, 0, 0), (967, .aload_n 2, 968, 0, 0, 0, 0, 0), (968, .invokevirtual 69, 971, 59, 1, 0, 0, 0), (971, .iload 5, 973, 0, 0, 0, 0, 0), (973, .if_icmp .eq 5, 976, 978, 0, 0, 0, 0)],
  [(976, .iconst 0, 977, 0, 0, 0, 0, 0), (977, .ireturn, 978, 1, 0, 0, 0, 0), (978, .iload 5, 980, 0, 0, 0, 0, 0), (980, .ifCond .ne 15, 983, 995, 0, 0, 0, 0), (983, .aload_n 3, 984, 0, 0, 0, 0, 0), (984, .iconst 0, 985, 0, 0, 0, 0, 0), (985, .laload, 986, 0, 0, 0, 0, 0), (986, .iload 6, 988, 0, 0, 0, 0, 0), (988, .i2l, 989, 0, 0, 0, 0, 0), (989, .lcmp, 990, 0, 0, 0, 0, 0), (990, .ifCond .eq 5, 993, 995, 0, 0, 0, 0)],
  [(993, .iconst 0, 994, 0, 0, 0, 0, 0), (994, .ireturn, 995, 1, 0, 0, 0, 0), (995, .goto 98, 998, 1093, 0, 0, 0, 0), (998, .aload_n 1, 999, 0, 0, 0, 0, 0), (999, .invokevirtual 110, 1002, 48, 1, 0, 0, 0), (1002, .aload_n 2, 1003, 0, 0, 0, 0, 0), (1003, .invokevirtual 113, 1006, 84, 1, 0, 0, 0), (1006, .if_icmp .eq 87, 1009, 1093, 0, 0, 0, 0)],
  [(1009, .iconst 0, 1010, 0, 0, 0, 0, 0), (1010, .ireturn, 1011, 1, 0, 0, 0, 0), (1011, .aload_n 1, 1012, 0, 0, 0, 0, 0), (1012, .aload_n 0, 1013, 0, 0, 0, 0, 0), (1013, .iload 4, 1015, 0, 0, 0, 0, 0), (1015, .iconst 1, 1016, 0, 0, 0, 1, 0), (1016, .iadd, 1017, 0, 0, 0, 0, 0), (1017, .iaload, 1018, 0, 0, 0, 0, 0), (1018, .aload_n 3, 1019, 0, 0, 0, 0, 0), (1019, .invokestatic 114, 1022, 99, 3, 0, 0, 0), (1022, .istore 5, 1024, 0, 0, 0, 0, 0)],
  [(1024, .aload_n 2, 1025, 0, 0, 0, 0, 0), (1025, .aload_n 0, 1026, 0, 0, 0, 0, 0), (1026, .iload 4, 1028, 0, 0, 0, 0, 0), (1028, .iconst 1, 1029, 0, 0, 0, 1, 0), (1029, .iadd, 1030, 0, 0, 0, 0, 0), (1030, .iaload, 1031, 0, 0, 0, 0, 0), (1031, .invokevirtual 117, 1034, 85, 2, 0, 0, 0), (1034, .istore 6, 1036, 0, 0, 0, 0, 0), (1036, .aload_n 2, 1037, 0, 0, 0, 0, 0), (1037, .invokevirtual 69, 1040, 59, 1, 0, 0, 0)],
  [(1040, .iload 5, 1042, 0, 0, 0, 0, 0), (1042, .if_icmp .eq 5, 1045, 1047, 0, 0, 0, 0), (1045, .iconst 0, 1046, 0, 0, 0, 0, 0), (1046, .ireturn, 1047, 1, 0, 0, 0, 0), (1047, .iload 5, 1049, 0, 0, 0, 0, 0), (1049, .ifCond .ne 15, 1052, 1064, 0, 0, 0, 0), (1052, .aload_n 3, 1053, 0, 0, 0, 0, 0), (1053, .iconst 0, 1054, 0, 0, 0, 0, 0), (1054, .laload, 1055, 0, 0, 0, 0, 0), (1055, .iload 6, 1057, 0, 0, 0, 0, 0)],
  [(1057, .i2l, 1058, 0, 0, 0, 0, 0), (1058, .lcmp, 1059, 0, 0, 0, 0, 0), (1059, .ifCond .eq 5, 1062, 1064, 0, 0, 0, 0), (1062, .iconst 0, 1063, 0, 0, 0, 0, 0), (1063, .ireturn, 1064, 1, 0, 0, 0, 0), (1064, .goto 29, 1067, 1093, 0, 0, 0, 0), (1067, .aload_n 1, 1068, 0, 0, 0, 0, 0), (1068, .invokevirtual 118, 1071, 50, 1, 0, 0, 0), (1071, .aload_n 2, 1072, 0, 0, 0, 0, 0)],
  [(1072, .invokevirtual 121, 1075, 86, 1, 0, 0, 0), (1075, .if_icmp .eq 18, 1078, 1093, 0, 0, 0, 0), (1078, .iconst 0, 1079, 0, 0, 0, 0, 0), (1079, .ireturn, 1080, 1, 0, 0, 0, 0), (1080, .aload_n 1, 1081, 0, 0, 0, 0, 0), (1081, .invokevirtual 122, 1084, 51, 1, 0, 0, 0), (1084, .aload_n 2, 1085, 0, 0, 0, 0, 0), (1085, .invokevirtual 125, 1088, 87, 1, 0, 0, 0)],
  [(1088, .if_icmp .eq 5, 1091, 1093, 0, 0, 0, 0), (1091, .iconst 0, 1092, 0, 0, 0, 0, 0), (1092, .ireturn, 1093, 1, 0, 0, 0, 0), (1093, .iinc 4 5, 1096, 0, 0, 0, 5, 0), (1096, .goto (-1073), 1099, 23, 0, 0, 0, 0), (1099, .iconst 1, 1100, 0, 0, 0, 1, 0), (1100, .ireturn, 1101, 1, 0, 0, 0, 0)]]
/-- java/util/Arrays.rangeCheck(III)V -/
def tb_101 : List (List mm_I) := [
  [(0, .iload_n 1, 1, 0, 0, 0, 0, 0), (1, .iload_n 2, 2, 0, 0, 0, 0, 0), (2, .if_icmp .le 44, 5, 46, 0, 0, 0, 0), (8, .dup, 9, 0, 0, 0, 0, 0), (12, .dup, 13, 0, 0, 0, 0, 0)],
  [(21, .iload_n 1, 22, 0, 0, 0, 0, 0), (30, .iload_n 2, 31, 0, 0, 0, 0, 0)],
  [(45, .athrow, 46, 0, 0, 0, 0, 0), (46, .iload_n 1, 47, 0, 0, 0, 0, 0), (47, .ifCond .ge 12, 50, 59, 0, 0, 0, 0)],
  [(53, .dup, 54, 0, 0, 0, 0, 0), (54, .iload_n 1, 55, 0, 0, 0, 0, 0), (58, .athrow, 59, 0, 0, 0, 0, 0), (59, .iload_n 2, 60, 0, 0, 0, 0, 0), (60, .iload_n 0, 61, 0, 0, 0, 0, 0), (61, .if_icmp .le 12, 64, 73, 0, 0, 0, 0)],
  [(67, .dup, 68, 0, 0, 0, 0, 0), (68, .iload_n 2, 69, 0, 0, 0, 0, 0), (72, .athrow, 73, 0, 0, 0, 0, 0), (73, .return_, 74, 0, 0, 0, 0, 0)]]
/-- java/util/Arrays.fill([JIIJ)V -/
def tb_102 : List (List mm_I) := [
  [(0, .aload_n 0, 1, 0, 0, 0, 0, 0), (1, .arraylength, 2, 0, 0, 0, 0, 0), (2, .iload_n 1, 3, 0, 0, 0, 0, 0), (3, .iload_n 2, 4, 0, 0, 0, 0, 0), (4, .invokestatic 13, 7, 101, 3, 0, 0, 0), (7, .iload_n 1, 8, 0, 0, 0, 0, 0), (8, .istore 5, 10, 0, 0, 0, 0, 0), (10, .iload 5, 12, 0, 0, 0, 0, 0), (12, .iload_n 2, 13, 0, 0, 0, 0, 0), (13, .if_icmp .ge 14, 16, 27, 0, 0, 0, 0)],
  [(16, .aload_n 0, 17, 0, 0, 0, 0, 0), (17, .iload 5, 19, 0, 0, 0, 0, 0), (19, .lload_n 3, 20, 0, 0, 0, 0, 0), (20, .lastore, 21, 0, 0, 0, 0, 0), (21, .iinc 5 1, 24, 0, 0, 0, 1, 0), (24, .goto (-14), 27, 10, 0, 0, 0, 0), (27, .return_, 28, 0, 0, 0, 0, 0)]]
def pg_tl : List (List (List mm_I)) := [tb_0, tb_1, tb_2, tb_3, tb_4, tb_5, tb_6, tb_7, tb_8, tb_9, tb_10, tb_11, tb_12, tb_13, tb_14, tb_15, tb_16, tb_17, tb_18, tb_19, tb_20, tb_21, tb_22, tb_23, tb_24, tb_25, tb_26, tb_27, tb_28, tb_29, tb_30, tb_31, tb_32, tb_33, tb_34, tb_35, tb_36, tb_37, tb_38, tb_39, tb_40, tb_41, tb_42, tb_43, tb_44, tb_45, tb_46, tb_47, tb_48, tb_49, tb_50, tb_51, tb_52, tb_53, tb_54, tb_55, tb_56, tb_57, tb_58, tb_59, tb_60, tb_61, tb_62, tb_63, tb_64, tb_65, tb_66, tb_67, tb_68, tb_69, tb_70, tb_71, tb_72, tb_73, tb_74, tb_75, tb_76, tb_77, tb_78, tb_79, tb_80, tb_81, tb_82, tb_83, tb_84, tb_85, tb_86, tb_87, tb_88, tb_89, tb_90, tb_91, tb_92, tb_93, tb_94, tb_95, tb_96, tb_97, tb_98, tb_99, tb_100, tb_101, tb_102]
def pg_t (mi : Nat) : List (List mm_I) := pg_tl.getD mi []
def pg_bl : List ByteArray := [prog_2_method_2_code, prog_2_method_3_code, prog_2_method_4_code, prog_2_method_5_code, prog_2_method_6_code, prog_2_method_7_code, prog_2_method_8_code, prog_2_method_9_code, prog_4_method_1_code, prog_4_method_2_code, prog_4_method_3_code, prog_4_method_4_code, prog_4_method_5_code, prog_3_method_1_code, prog_3_method_2_code, prog_3_method_3_code, prog_3_method_4_code, prog_3_method_5_code, prog_3_method_6_code, prog_3_method_7_code, prog_3_method_8_code, prog_3_method_9_code, prog_3_method_10_code, prog_3_method_11_code, prog_3_method_12_code, prog_3_method_13_code, prog_3_method_14_code, prog_3_method_15_code, prog_3_method_16_code, prog_3_method_17_code, prog_3_method_18_code, prog_3_method_19_code, prog_3_method_20_code, prog_3_method_21_code, prog_3_method_22_code, prog_3_method_23_code, prog_1_method_1_code, prog_1_method_2_code, prog_1_method_3_code, prog_1_method_4_code, prog_1_method_5_code, prog_1_method_6_code, prog_1_method_7_code, prog_1_method_8_code, prog_1_method_9_code, prog_1_method_10_code, prog_1_method_11_code, prog_1_method_12_code, prog_1_method_13_code, prog_1_method_14_code, prog_1_method_15_code, prog_1_method_16_code, prog_1_method_17_code, prog_1_method_18_code, prog_1_method_19_code, prog_1_method_20_code, prog_1_method_21_code, prog_1_method_22_code, prog_6_method_1_code, prog_6_method_2_code, prog_6_method_3_code, prog_6_method_4_code, prog_6_method_5_code, prog_6_method_6_code, prog_6_method_7_code, prog_6_method_8_code, prog_6_method_9_code, prog_6_method_10_code, prog_6_method_11_code, prog_6_method_12_code, prog_6_method_13_code, prog_6_method_14_code, prog_6_method_15_code, prog_6_method_16_code, prog_6_method_17_code, prog_6_method_18_code, prog_6_method_19_code, prog_6_method_20_code, prog_6_method_21_code, prog_6_method_22_code, prog_6_method_23_code, prog_6_method_24_code, prog_6_method_25_code, prog_6_method_26_code, prog_6_method_27_code, prog_6_method_28_code, prog_6_method_29_code, prog_6_method_30_code, method_3_code, method_4_code, method_5_code, method_6_code, method_7_code, method_8_code, method_9_code, method_10_code, method_11_code, method_12_code, method_13_code, method_14_code, code, prog_23_method_30_code, prog_23_method_102_code]
def pg_b (mi : Nat) : ByteArray := pg_bl.getD mi code
def pg_yl : List MethodName := [⟨"MovingHeap$Head", "of", "(IZII)J"⟩, ⟨"MovingHeap$Head", "kind", "(J)I"⟩, ⟨"MovingHeap$Head", "isFree", "(J)Z"⟩, ⟨"MovingHeap$Head", "detail", "(J)I"⟩, ⟨"MovingHeap$Head", "count", "(J)I"⟩, ⟨"MovingHeap$Head", "words", "(J)I"⟩, ⟨"MovingHeap$Head", "places", "(J)I"⟩, ⟨"MovingHeap$Head", "mayRefer", "(J)Z"⟩, ⟨"MovingHeap$Shapes", "<init>", "()V"⟩, ⟨"MovingHeap$Shapes", "has", "(I)Z"⟩, ⟨"MovingHeap$Shapes", "hasRoom", "(II)Z"⟩, ⟨"MovingHeap$Shapes", "add", "(IIII)I"⟩, ⟨"MovingHeap$Shapes", "fieldsAbove", "(I)I"⟩, ⟨"MovingHeap$Heap", "<init>", "()V"⟩, ⟨"MovingHeap$Heap", "head", "(I)J"⟩, ⟨"MovingHeap$Heap", "cellsOf", "(J)I"⟩, ⟨"MovingHeap$Heap", "isReference", "(JI)Z"⟩, ⟨"MovingHeap$Heap", "number", "(II)J"⟩, ⟨"MovingHeap$Heap", "setNumber", "(IIJ)V"⟩, ⟨"MovingHeap$Heap", "reference", "(II)I"⟩, ⟨"MovingHeap$Heap", "setReference", "(III)V"⟩, ⟨"MovingHeap$Heap", "capture", "(II)V"⟩, ⟨"MovingHeap$Heap", "holdNew", "(II)I"⟩, ⟨"MovingHeap$Heap", "leastRootLike", "(I)I"⟩, ⟨"MovingHeap$Heap", "hasRoom", "(J)Z"⟩, ⟨"MovingHeap$Heap", "add", "(J)I"⟩, ⟨"MovingHeap$Heap", "moveReached", "()V"⟩, ⟨"MovingHeap$Heap", "countLost", "()I"⟩, ⟨"MovingHeap$Heap", "wordOfCharacter", "(II)I"⟩, ⟨"MovingHeap$Heap", "shiftOfCharacter", "(I)I"⟩, ⟨"MovingHeap$Heap", "addToTotals", "(J)V"⟩, ⟨"MovingHeap$Heap", "moved", "(I)I"⟩, ⟨"MovingHeap$Heap", "moveReferred", "(I)V"⟩, ⟨"MovingHeap$Heap", "markHeads", "()V"⟩, ⟨"MovingHeap$Heap", "lookAt", "(I)I"⟩, ⟨"MovingHeap$Heap", "lookBehind", "(I)I"⟩, ⟨"MovingHeap", "<init>", "()V"⟩, ⟨"MovingHeap", "shape", "(IIII)I"⟩, ⟨"MovingHeap", "object", "(IIZ)I"⟩, ⟨"MovingHeap", "array", "(IIZ)I"⟩, ⟨"MovingHeap", "text", "(IIZ)I"⟩, ⟨"MovingHeap", "closure", "(IIII)I"⟩, ⟨"MovingHeap", "put", "(IIJ)J"⟩, ⟨"MovingHeap", "get", "(II)J"⟩, ⟨"MovingHeap", "link", "(III)V"⟩, ⟨"MovingHeap", "follow", "(III)V"⟩, ⟨"MovingHeap", "hold", "(II)V"⟩, ⟨"MovingHeap", "told", "(II)I"⟩, ⟨"MovingHeap", "collect", "()I"⟩, ⟨"MovingHeap", "every", "(I)I"⟩, ⟨"MovingHeap", "made", "()I"⟩, ⟨"MovingHeap", "audit", "()I"⟩, ⟨"MovingHeap", "requireRoot", "(I)V"⟩, ⟨"MovingHeap", "requireLength", "(I)V"⟩, ⟨"MovingHeap", "thingWith", "(II)I"⟩, ⟨"MovingHeap", "thingWithNumber", "(II)I"⟩, ⟨"MovingHeap", "thingWithReference", "(III)I"⟩, ⟨"MovingHeap", "make", "(J)I"⟩, ⟨"MovingHeapModel", "<init>", "()V"⟩, ⟨"MovingHeapModel", "thrown", "()I"⟩, ⟨"MovingHeapModel", "fails", "(I)I"⟩, ⟨"MovingHeapModel", "isRoot", "(I)Z"⟩, ⟨"MovingHeapModel", "shape", "(IIII)I"⟩, ⟨"MovingHeapModel", "size", "(I)I"⟩, ⟨"MovingHeapModel", "isRef", "(II)Z"⟩, ⟨"MovingHeapModel", "blocksOf", "(I)I"⟩, ⟨"MovingHeapModel", "place", "(II)I"⟩, ⟨"MovingHeapModel", "mark", "(I)V"⟩, ⟨"MovingHeapModel", "sweep", "()V"⟩, ⟨"MovingHeapModel", "free", "(I)V"⟩, ⟨"MovingHeapModel", "make", "(IIIII)I"⟩, ⟨"MovingHeapModel", "come", "(III)I"⟩, ⟨"MovingHeapModel", "object", "(IIZ)I"⟩, ⟨"MovingHeapModel", "array", "(IIZ)I"⟩, ⟨"MovingHeapModel", "text", "(IIZ)I"⟩, ⟨"MovingHeapModel", "closure", "(IIII)I"⟩, ⟨"MovingHeapModel", "thing", "(IIZ)I"⟩, ⟨"MovingHeapModel", "read", "(II)J"⟩, ⟨"MovingHeapModel", "put", "(IIJ)J"⟩, ⟨"MovingHeapModel", "get", "(II)J"⟩, ⟨"MovingHeapModel", "link", "(III)V"⟩, ⟨"MovingHeapModel", "follow", "(III)V"⟩, ⟨"MovingHeapModel", "hold", "(II)V"⟩, ⟨"MovingHeapModel", "told", "(II)I"⟩, ⟨"MovingHeapModel", "collect", "()I"⟩, ⟨"MovingHeapModel", "every", "(I)I"⟩, ⟨"MovingHeapModel", "made", "()I"⟩, ⟨"MovingHeapModel", "audit", "()I"⟩, ⟨"MovingHeapLaw", "shape", "(LMovingHeap;IIII[J)I"⟩, ⟨"MovingHeapLaw", "object", "(LMovingHeap;IIZ[J)I"⟩, ⟨"MovingHeapLaw", "array", "(LMovingHeap;IIZ[J)I"⟩, ⟨"MovingHeapLaw", "text", "(LMovingHeap;IIZ[J)I"⟩, ⟨"MovingHeapLaw", "closure", "(LMovingHeap;IIII[J)I"⟩, ⟨"MovingHeapLaw", "put", "(LMovingHeap;IIJ[J)I"⟩, ⟨"MovingHeapLaw", "get", "(LMovingHeap;II[J)I"⟩, ⟨"MovingHeapLaw", "link", "(LMovingHeap;III)I"⟩, ⟨"MovingHeapLaw", "follow", "(LMovingHeap;III)I"⟩, ⟨"MovingHeapLaw", "hold", "(LMovingHeap;II)I"⟩, ⟨"MovingHeapLaw", "told", "(LMovingHeap;II[J)I"⟩, ⟨"MovingHeapLaw", "every", "(LMovingHeap;I[J)I"⟩, ⟨"MovingHeapLaw", "law", "([I)Z"⟩, ⟨"java/util/Arrays", "rangeCheck", "(III)V"⟩, ⟨"java/util/Arrays", "fill", "([JIIJ)V"⟩]
def pg_yn (mi : Nat) : MethodName := pg_yl.getD mi ⟨"MovingHeap", "made", "()I"⟩
def pg_nl : List Nat := [4, 2, 2, 2, 2, 3, 2, 3, 1, 2, 3, 10, 2, 1, 2, 3, 4, 3, 7, 3, 4, 6, 3, 3, 3, 4, 4, 4, 2, 1, 3, 6, 6, 3, 2, 7, 1, 5, 4, 4, 4, 6, 8, 3, 5, 5, 3, 5, 1, 3, 1, 1, 1, 1, 4, 4, 5, 3, 2, 1, 2, 1, 7, 2, 3, 2, 6, 2, 5, 5, 11, 4, 5, 4, 5, 7, 4, 5, 9, 4, 5, 5, 3, 5, 1, 3, 1, 1, 7, 6, 6, 6, 7, 7, 5, 5, 5, 4, 5, 4, 8, 3, 6]
def pg_n (mi : Nat) : Nat := pg_nl.getD mi 0
def pg_rl : List (Option FieldType) := [some .long, some .int, some .boolean, some .int, some .int, some .int, some .int, some .boolean, none, some .boolean, some .boolean, some .int, some .int, none, some .long, some .int, some .boolean, some .long, none, some .int, none, none, some .int, some .int, some .boolean, some .int, none, some .int, some .int, some .int, none, some .int, none, none, some .int, some .int, none, some .int, some .int, some .int, some .int, some .int, some .long, some .long, none, none, none, some .int, some .int, some .int, some .int, some .int, none, none, some .int, some .int, some .int, some .int, none, some .int, some .int, some .boolean, some .int, some .int, some .boolean, some .int, some .int, none, none, none, some .int, some .int, some .int, some .int, some .int, some .int, some .int, some .long, some .long, some .long, none, none, none, some .int, some .int, some .int, some .int, some .int, some .int, some .int, some .int, some .int, some .int, some .int, some .int, some .int, some .int, some .int, some .int, some .int, some .boolean, none, none]
def pg_r (mi : Nat) : Option FieldType := pg_rl.getD mi none
def pg_cl : List (Nat × Nat) := [(0, 0), (0, 0), (0, 0), (0, 0), (0, 0), (0, 0), (0, 0), (0, 0), (3, 300), (0, 0), (0, 0), (0, 0), (0, 0), (7, 360370), (0, 0), (0, 0), (0, 0), (0, 0), (0, 0), (0, 0), (0, 0), (0, 0), (0, 0), (0, 0), (0, 0), (0, 0), (0, 0), (0, 0), (0, 0), (0, 0), (0, 0), (0, 0), (0, 0), (0, 0), (0, 0), (0, 0), (8, 360378), (1, 6), (3, 18), (3, 18), (3, 18), (3, 18), (3, 18), (3, 18), (4, 24), (4, 24), (2, 12), (2, 12), (0, 0), (1, 6), (0, 0), (0, 0), (1, 6), (1, 6), (2, 12), (3, 18), (4, 24), (1, 6), (14, 2391164), (0, 0), (0, 0), (0, 0), (0, 0), (0, 0), (0, 0), (0, 0), (0, 0), (0, 0), (0, 0), (0, 0), (0, 0), (0, 0), (0, 0), (0, 0), (0, 0), (0, 0), (0, 0), (0, 0), (0, 0), (0, 0), (0, 0), (0, 0), (0, 0), (0, 0), (0, 0), (0, 0), (0, 0), (0, 0), (1, 6), (3, 18), (3, 18), (3, 18), (3, 18), (3, 18), (3, 18), (4, 24), (4, 24), (2, 12), (2, 12), (1, 6), (601024, 7293034), (0, 0), (0, 0)]
def pg_c (mi : Nat) : Nat × Nat := pg_cl.getD mi (0, 0)
def pg_ol : List Nat := [9, 9, 9, 9, 9, 9, 9, 9, 2, 2, 2, 2, 2, 1, 1, 1, 1, 1, 1, 1, 1, 1, 1, 1, 1, 1, 1, 1, 1, 1, 1, 1, 1, 1, 1, 1, 0, 0, 0, 0, 0, 0, 0, 0, 0, 0, 0, 0, 0, 0, 0, 0, 0, 0, 0, 0, 0, 0, 3, 3, 3, 3, 3, 3, 3, 3, 3, 3, 3, 3, 3, 3, 3, 3, 3, 3, 3, 3, 3, 3, 3, 3, 3, 3, 3, 3, 3, 3, 9, 9, 9, 9, 9, 9, 9, 9, 9, 9, 9, 9, 9, 9, 9]
def pg_o (mi : Nat) : Nat := pg_ol.getD mi 9
/-- the exceptions by their numbers -/
def pg_x (x : Nat) : String := match x with
  | 0 => "java/lang/IllegalArgumentException"
  | 1 => "java/lang/IllegalStateException"
  | _ => "java/lang/IndexOutOfBoundsException"
def pg_sl : List (Nat × Nat × List (Int32 × Nat)) := [(15, 13, [(1, 48), (2, 61), (3, 61), (4, 61), (5, 68)]), (16, 4, [(1, 40), (2, 87), (3, 67), (4, 87), (5, 69)]), (47, 22, [(0, 52), (1, 57), (2, 77), (3, 86)]), (100, 39, [(0, 112), (1, 204), (2, 300), (3, 396), (4, 492), (5, 584), (6, 695), (7, 762), (8, 822), (9, 882), (10, 930), (11, 998), (12, 1011), (13, 1067), (14, 1080)])]
def pg_sf (mi pc : Nat) : List (Nat × Nat × List (Int32 × Nat)) → List (Int32 × Nat)
  | [] => []
  | q :: r => match Nat.beq q.1 mi && Nat.beq q.2.1 pc with
    | true => q.2.2
    | false => pg_sf mi pc r
def pg_s (mi pc : Nat) : List (Int32 × Nat) := pg_sf mi pc pg_sl
/-- a new object of class a -/
def pg_z0 : List Value := [.null, .null, .int 0, .int 0, .int 0]
def pg_z1 : List Value := [.null, .null, .null, .null, .int 0, .int 0, .int 0, .int 0]
def pg_z2 : List Value := [.int 0, .null, .null, .null]
def pg_z3 : List Value := [.null, .null, .null, .int 0, .null, .null, .null, .null, .null, .null, .null, .null, .int 0, .int 0, .null, .null, .int 0, .int 0, .null, .int 0, .int 0, .int 0, .int 0, .int 0, .int 0]
def pg_z (a : Nat) : List Value := match a with
  | 0 => pg_z0
  | 1 => pg_z1
  | 2 => pg_z2
  | _ => pg_z3
theorem pg_zd0 : ∀ j, j < 5 → defaultValue (tC0 j) = vp_V pg_z0 j := by decide +kernel
theorem pg_zd1 : ∀ j, j < 8 → defaultValue (tC1 j) = vp_V pg_z1 j := by decide +kernel
theorem pg_zd2 : ∀ j, j < 4 → defaultValue (tC2 j) = vp_V pg_z2 j := by decide +kernel
theorem pg_zd3 : ∀ j, j < 25 → defaultValue (tC3 j) = vp_V pg_z3 j := by decide +kernel
theorem pg_zd (a : Nat) (Cn : String) (T : u_T) (N : Nat) (h : vwCl[a]? = some (Cn, T, N)) : ∃ ty0 : Nat → FieldType, (∀ k, k < N → parseFieldDescriptor (T k).2.2.1 = some (ty0 k)) ∧ ∀ j, j < N → defaultValue (ty0 j) = vp_V (pg_z a) j := by
  match a, h with
  | 0, h => cases h; exact ⟨tC0, tC0_ok, pg_zd0⟩
  | 1, h => cases h; exact ⟨tC1, tC1_ok, pg_zd1⟩
  | 2, h => cases h; exact ⟨tC2, tC2_ok, pg_zd2⟩
  | 3, h => cases h; exact ⟨tC3, tC3_ok, pg_zd3⟩
  | n + 4, h => simp [vwCl] at h
/-- a new array of type a and length n -/
def pg_ar (a n : Nat) : mm_E := match a with
  | 1 => .inl (1, n, .inr (.inl (fun _ => 0)))
  | _ => .inl (a, n, .inl (fun _ => 0))
/-- where an exception is thrown: method, pc, entries of the text and of the constructor, the text -/
def pg_thl : List (Nat × Nat × Nat × Nat × String) := [(37, 16, 29, 31, "over is no class"), (37, 36, 34, 31, "n is not 0 to 16"), (37, 59, 36, 31, "price is not 0 to 1000"), (37, 81, 44, 46, "too many classes or fields"), (38, 15, 55, 31, "c is no class"), (41, 14, 78, 31, "n is not 0 to 8"), (41, 42, 82, 84, "not all captured roots are roots"), (47, 95, 134, 31, "what is not 0 to 3"), (49, 4, 143, 31, "n is below 0"), (52, 10, 158, 84, "no such root"), (53, 10, 161, 31, "n is not 0 to 100000"), (54, 33, 163, 84, "nothing there"), (55, 26, 172, 31, "a reference, not a number"), (56, 32, 174, 31, "a number, not a reference"), (57, 37, 179, 46, "no room")]
def pg_thf (mi pc : Nat) : List (Nat × Nat × Nat × Nat × String) → Option (Nat × Nat × String)
  | [] => none
  | q :: r => match Nat.beq q.1 mi && Nat.beq q.2.1 pc with
    | true => some q.2.2
    | false => pg_thf mi pc r
def pg_th (mi pc : Nat) : Option (Nat × Nat × String) := pg_thf mi pc pg_thl
def pg_hhl : List (List (Nat × Nat × Nat × Nat)) := [[], [], [], [], [], [], [], [], [], [], [], [], [], [], [], [], [], [], [], [], [], [], [], [], [], [], [], [], [], [], [], [], [], [], [], [], [], [], [], [], [], [], [], [], [], [], [], [], [], [], [], [], [], [], [], [], [], [], [], [], [], [], [], [], [], [], [], [], [], [], [], [], [], [], [], [], [], [], [], [], [], [], [], [], [], [], [], [], [(0, 14, 17, 13), (0, 14, 21, 15)], [(0, 12, 15, 21), (0, 12, 19, 13), (0, 12, 23, 15)], [(0, 12, 15, 21), (0, 12, 19, 13), (0, 12, 23, 15)], [(0, 12, 15, 21), (0, 12, 19, 13), (0, 12, 23, 15)], [(0, 14, 17, 21), (0, 14, 21, 13), (0, 14, 25, 15)], [(0, 11, 14, 21), (0, 11, 18, 13)], [(0, 9, 12, 21), (0, 9, 16, 13)], [(0, 7, 10, 21), (0, 7, 14, 13)], [(0, 7, 10, 21), (0, 7, 14, 13)], [(0, 6, 9, 21)], [(0, 10, 13, 21), (0, 10, 17, 13)], [(0, 9, 12, 13)], [], [], []]
def pg_hh (mi : Nat) : List (Nat × Nat × Nat × Nat) := pg_hhl.getD mi []
/-- the word of a method's own code -/
def pg_d (mi : Nat) : Jvm.Cond := match pg_hh mi with
  | [] => .code (pg_yn mi) (pg_b mi) (pg_n mi) (pg_r mi)
  | q :: r => .codeWith (pg_yn mi) (pg_b mi) (pg_n mi) (pg_r mi) (q :: r)
def pg_w (mi : Nat) : List Jvm.Cond := pg_d mi :: pg_ws
/-- the room of a call at most d deep -/
def pg_rm (d mi : Nat) : Room := { frames := d + 16, cells := (pg_c mi).1, slots := (pg_c mi).2, locals := 64 * d + 256 }
def pg_cul : List Nat := [0, 0, 0, 0, 0, 0, 0, 0, 1, 1, 1, 1, 1, 2, 2, 2, 2, 2, 2, 2, 2, 2, 2, 2, 2, 2, 2, 2, 2, 2, 2, 2, 2, 2, 2, 2, 3, 3, 3, 3, 3, 3, 3, 3, 3, 3, 3, 3, 3, 3, 3, 3, 3, 3, 3, 3, 3, 3, 4, 4, 4, 4, 4, 4, 4, 4, 4, 4, 4, 4, 4, 4, 4, 4, 4, 4, 4, 4, 4, 4, 4, 4, 4, 4, 4, 4, 4, 4, 5, 5, 5, 5, 5, 5, 5, 5, 5, 5, 5, 5, 5, 6, 6]
def pg_cu (mi : Nat) : Nat := pg_cul.getD mi 9
/-- where the word of a pool entry stands among the tables: the number of its owner, the entry, the place -/
def pg_li : List (Nat × Nat × Nat) := [(5, 8, 48), (5, 59, 50), (3, 1, 53), (3, 7, 56), (3, 9, 58), (2, 3, 61), (2, 9, 62), (2, 11, 64), (1, 3, 67), (1, 22, 68), (1, 9, 69), (3, 57, 70), (1, 15, 71), (2, 44, 72), (1, 18, 73), (2, 53, 74), (2, 22, 86), (2, 12, 87), (3, 16, 88), (2, 18, 89), (3, 104, 90), (2, 23, 91), (2, 27, 92), (2, 30, 93), (2, 79, 94), (3, 139, 95), (2, 83, 96), (2, 112, 97), (3, 20, 115), (3, 10, 116), (3, 145, 117), (3, 148, 118), (3, 151, 119), (5, 110, 131), (3, 136, 135), (2, 102, 139), (2, 89, 143), (0, 13, 146), (0, 17, 149), (2, 121, 152), (2, 88, 155), (2, 105, 156), (2, 127, 160), (2, 50, 163), (2, 68, 164), (2, 40, 168), (2, 47, 169), (2, 130, 172), (2, 72, 176), (2, 92, 180), (2, 76, 184), (2, 34, 188), (0, 11, 191), (2, 86, 192), (0, 20, 195), (5, 118, 196), (5, 122, 200), (3, 154, 204), (2, 109, 208), (2, 96, 212), (6, 13, 215), (6, 43, 218), (6, 45, 260), (6, 47, 262), (6, 50, 293), (6, 310, 326), (6, 311, 332), (6, 304, 333), (6, 150, 336), (6, 54, 411), (6, 61, 438), (6, 339, 468), (6, 343, 471), (6, 65, 475), (6, 68, 524), (6, 70, 526), (2, 115, 546), (2, 133, 550), (2, 118, 551), (5, 63, 555), (5, 13, 558), (5, 15, 559), (5, 7, 560), (3, 21, 564), (3, 27, 568), (3, 31, 570), (3, 38, 573), (1, 26, 577), (1, 30, 581), (3, 42, 582), (3, 46, 592), (3, 47, 598), (5, 73, 602), (5, 21, 605), (5, 17, 606), (3, 51, 610), (3, 80, 613), (3, 84, 623), (3, 61, 627), (3, 67, 630), (3, 176, 634), (2, 82, 638), (3, 127, 640), (3, 181, 641), (3, 71, 645), (5, 77, 649), (5, 23, 652), (3, 75, 656), (3, 160, 659), (5, 80, 661), (5, 26, 664), (5, 83, 668), (5, 29, 671), (3, 85, 677), (5, 88, 681), (5, 32, 684), (3, 89, 688), (3, 165, 692), (3, 114, 696), (3, 124, 700), (3, 168, 702), (3, 92, 704), (2, 56, 708), (2, 60, 711), (2, 64, 714), (3, 96, 715), (2, 66, 719), (5, 92, 720), (5, 36, 723), (5, 96, 727), (5, 40, 730), (3, 100, 734), (3, 107, 739), (5, 100, 740), (5, 44, 743), (3, 111, 747), (5, 103, 748), (5, 47, 751), (5, 107, 755), (5, 51, 758), (3, 118, 762), (3, 121, 763), (3, 130, 764), (5, 114, 769), (5, 55, 772), (5, 60, 777), (5, 62, 779), (4, 1, 782), (4, 20, 783), (4, 51, 784), (4, 55, 785), (4, 7, 786), (4, 13, 787), (4, 17, 788), (4, 68, 789), (4, 21, 790), (4, 25, 791), (4, 28, 792), (4, 31, 793), (4, 34, 794), (4, 37, 795), (4, 40, 796), (4, 44, 797), (4, 81, 798), (4, 47, 799), (4, 52, 800), (4, 56, 801), (4, 109, 802), (4, 59, 803), (4, 62, 804), (4, 92, 805), (4, 95, 806), (4, 112, 807), (4, 143, 808), (4, 65, 809), (4, 78, 810), (5, 69, 863), (5, 68, 867), (4, 71, 871), (5, 76, 875), (4, 115, 879), (4, 119, 882), (4, 104, 886), (4, 105, 887), (4, 106, 888), (4, 84, 892), (4, 75, 896), (4, 88, 900), (4, 98, 904), (4, 101, 908), (4, 123, 912), (5, 79, 916), (5, 82, 920), (5, 85, 924), (4, 127, 928), (5, 91, 932), (4, 133, 936), (4, 137, 940), (4, 131, 944), (4, 141, 945), (5, 95, 946), (5, 99, 950), (5, 102, 954), (5, 106, 958), (5, 109, 962), (5, 113, 966), (5, 117, 970), (5, 121, 974), (5, 125, 978), (5, 86, 982)]
def pg_lif (u z : Nat) : List (Nat × Nat × Nat) → Option Nat
  | [] => none
  | q :: r => match Nat.beq q.1 u && Nat.beq q.2.1 z with
    | true => some q.2.2
    | false => pg_lif u z r
/-- how a method is called: 0 static, 1 by its object, 2 a constructor -/
def pg_kl : List Nat := [0, 0, 0, 0, 0, 0, 0, 0, 2, 1, 1, 1, 1, 2, 1, 1, 1, 1, 1, 1, 1, 1, 1, 1, 1, 1, 1, 1, 0, 0, 1, 1, 1, 1, 1, 1, 2, 1, 1, 1, 1, 1, 1, 1, 1, 1, 1, 1, 1, 1, 1, 1, 0, 0, 1, 1, 1, 1, 2, 1, 1, 0, 1, 1, 1, 1, 1, 1, 1, 1, 1, 1, 1, 1, 1, 1, 1, 1, 1, 1, 1, 1, 1, 1, 1, 1, 1, 1, 0, 0, 0, 0, 0, 0, 0, 0, 0, 0, 0, 0, 9, 0, 0]
def pg_kd (mi : Nat) : Nat := pg_kl.getD mi 9
/-- where the words of a method that is called stand among the tables -/
def pg_kil : List (List Nat) := [[628, 35, 629], [150, 35, 151], [189, 35, 190], [170, 35, 171], [147, 35, 148], [144, 35, 145], [193, 35, 194], [161, 35, 162], [65, 27, 66], [565, 566, 27, 567], [574, 575, 27, 576], [599, 600, 27, 601], [579, 7, 27, 580], [59, 26, 60], [697, 698, 26, 699], [185, 186, 26, 187], [165, 166, 26, 167], [705, 706, 26, 707], [716, 717, 26, 718], [173, 174, 26, 175], [177, 178, 26, 179], [678, 679, 26, 680], [646, 647, 26, 648], [765, 766, 26, 767], [635, 636, 26, 637], [642, 643, 26, 644], [136, 137, 26, 138], [205, 206, 26, 207], [709, 26, 710], [712, 26, 713], [182, 2, 26, 183], [141, 0, 26, 142], [158, 1, 26, 159], [210, 3, 26, 211], [548, 5, 26, 549], [553, 6, 26, 554], [51, 25, 52], [561, 562, 25, 563], [607, 608, 25, 609], [653, 654, 25, 655], [665, 666, 25, 667], [672, 673, 25, 674], [685, 686, 25, 687], [724, 725, 25, 726], [731, 732, 25, 733], [744, 745, 25, 746], [752, 753, 25, 754], [759, 760, 25, 761], [132, 133, 25, 134], [773, 774, 25, 775], [197, 198, 25, 199], [201, 202, 25, 203], [611, 25, 612], [657, 25, 658], [694, 10, 25, 695], [690, 9, 25, 691], [736, 11, 25, 737], [632, 8, 25, 633], [780, 28, 781], [864, 865, 28, 866], [873, 12, 28, 874], [880, 28, 881], [868, 869, 28, 870], [898, 16, 28, 899], [902, 17, 28, 903], [910, 19, 28, 911], [930, 21, 28, 931], [894, 15, 28, 895], [890, 14, 28, 891], [906, 18, 28, 907], [884, 13, 28, 885], [914, 20, 28, 915], [876, 877, 28, 878], [917, 918, 28, 919], [921, 922, 28, 923], [925, 926, 28, 927], [938, 22, 28, 939], [942, 23, 28, 943], [933, 934, 28, 935], [947, 948, 28, 949], [951, 952, 28, 953], [955, 956, 28, 957], [959, 960, 28, 961], [963, 964, 28, 965], [967, 968, 28, 969], [971, 972, 28, 973], [975, 976, 28, 977], [979, 980, 28, 981], [556, 24, 557], [603, 24, 604], [650, 24, 651], [662, 24, 663], [669, 24, 670], [682, 24, 683], [721, 24, 722], [728, 24, 729], [741, 24, 742], [749, 24, 750], [756, 24, 757], [770, 24, 771], [], [216, 37, 217], [213, 37, 214]]
def pg_ki (mi : Nat) : List Nat := pg_kil.getD mi []
def pg_ai : List Nat := [154, 153, 36, 54, 55]
