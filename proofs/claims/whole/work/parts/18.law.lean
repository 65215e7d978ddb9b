/-! the law's start: what holds there -/
theorem mm_ls {s U : State} {args a' : Array Value} {C n d : String} (h : (Cond.laysStatic C n d).before args s = true) (hW : s.WarmedH U.vm) (hq : ∀ q : Nat, q < s.heap.size → U.heap[q]? = s.heap[q]?) : (Cond.laysStatic C n d).before a' U = true := by
  obtain ⟨c, k, i, f, a, cell, h1, h2, h3, h4, h5, h6, h7, h8, h9⟩ := Cond.laysStatic_spec h
  obtain ⟨k', e1, e2⟩ := State.fieldFound?_setVm hW.alike h2
  have e1 : U.fieldFound? C n d = some (c, k', i, f) := e1
  have g1 : U.vm.findClass C = some c := by rw [hW.alike.findClass]; exact h1
  have g4 : k'.statics = some a := by rw [e2]; exact h4
  have g9 : k'.staticTypes[f.slot]? = some f.type := by rw [e2]; exact h9
  have g5 : U.heap[a]? = some cell := by rw [hq a (Array.getElem?_eq_some_iff.mp h5).1]; exact h5
  simp [Cond.before, Cond.holds, Cond.value, g1, e1, g4, g5, h3, h6, h7, h8, g9]
theorem mm_rs {s U : State} {args a' : Array Value} {C n d : String} (hl : (Cond.laysStatic C n d).before args s = true) (h : (Cond.isRef (.static C n d)).before args s = true) (hW : s.WarmedH U.vm) (hq : ∀ q : Nat, q < s.heap.size → U.heap[q]? = s.heap[q]?) : (Cond.isRef (.static C n d)).before a' U = true := by
  obtain ⟨c, k, i, f, a, cell, h1, h2, h3, h4, h5, h6, h7, h8, h9⟩ := Cond.laysStatic_spec hl
  obtain ⟨k', e1, e2⟩ := State.fieldFound?_setVm hW.alike h2
  have e1 : U.fieldFound? C n d = some (c, k', i, f) := e1
  have g4 : k'.statics = some a := by rw [e2]; exact h4
  have g5 : U.heap[a]? = some cell := by rw [hq a (Array.getElem?_eq_some_iff.mp h5).1]; exact h5
  cases hv : (Term.static C n d).eval args s none [] s with
  | none => simp [Cond.before, Cond.holds, Cond.value, hv] at h
  | some v =>
    obtain ⟨-, a2, cell2, u1, u2, -, u3⟩ := Term.static_spec h2 hv
    cases h4.symm.trans u1
    cases h5.symm.trans u2
    have hU : (Term.static C n d).eval a' U none [] U = some v := by
      simp [Term.eval, State.fieldNamed?, e1, h3, g4, g5, h6, u3]
    simp only [Cond.before, Cond.holds, Cond.value, hv] at h
    simp only [Cond.before, Cond.holds, Cond.value, hU]
    exact h
theorem mm_tb {u U : State} {c : Jvm.Cond} {A A' : Array Value} (hc : c.onTables = true) (h : c.before A (u.setVm U.vm) = true) : c.before A' U = true := by
  have e := Cond.onTables_vm (A := A) (A' := A') (U := u) (U' := U) U.vm c hc
  rw [show U.setVm U.vm = U from rfl] at e
  rw [← e]
  exact h
theorem mm_nc {s : State} {args : Array Value} {a b : String} (h : (Cond.not (.castable a b)).before args s = true) : va_Nc a b s := by
  have hv := Cond.holds_not_iff.mp h
  simp only [Cond.value] at hv
  cases ha : s.vm.findClass a with
  | none => simp [ha] at hv
  | some c =>
    cases hb : s.vm.findClass b with
    | none => simp [ha, hb] at hv
    | some t =>
      simp only [ha, hb] at hv
      exact ⟨c, t, ha, hb, Option.some.inj hv⟩
/-- what the Statement says of the start, part by part -/
def lw_fl : List Jvm.Cond := flatC (Jvm.Cond.and given_1 narrow_1)
set_option maxRecDepth 100000 in
theorem lw_f1 : Jvm.Cond.isRef (.static Bundle.tN "UNASSIGNED_STACK" Bundle.steD) ∈ lw_fl := by decide +kernel
set_option maxRecDepth 100000 in
theorem lw_f2 : Jvm.Cond.isRef (.static Bundle.tN "SUPPRESSED_SENTINEL" Bundle.listD) ∈ lw_fl := by decide +kernel
set_option maxRecDepth 100000 in
theorem lw_t1 : Jvm.Cond.laysStatic Bundle.tN "UNASSIGNED_STACK" Bundle.steD ∈ lw_tbl := by decide +kernel
set_option maxRecDepth 100000 in
theorem lw_t2 : Jvm.Cond.laysStatic Bundle.tN "SUPPRESSED_SENTINEL" Bundle.listD ∈ lw_tbl := by decide +kernel
set_option maxRecDepth 100000 in
theorem lw_t3 : (mm_sx.drop 4).all (fun w => decide (w ∈ lw_tbl)) = true := by decide +kernel
set_option maxRecDepth 100000 in
theorem lw_n01 : Jvm.Cond.not (.castable (pg_x 0) (pg_x 1)) ∈ lw_fl := by decide +kernel
set_option maxRecDepth 100000 in
theorem lw_n02 : Jvm.Cond.not (.castable (pg_x 0) (pg_x 2)) ∈ lw_fl := by decide +kernel
set_option maxRecDepth 100000 in
theorem lw_n10 : Jvm.Cond.not (.castable (pg_x 1) (pg_x 0)) ∈ lw_fl := by decide +kernel
set_option maxRecDepth 100000 in
theorem lw_n12 : Jvm.Cond.not (.castable (pg_x 1) (pg_x 2)) ∈ lw_fl := by decide +kernel
set_option maxRecDepth 100000 in
theorem lw_n20 : Jvm.Cond.not (.castable (pg_x 2) (pg_x 0)) ∈ lw_fl := by decide +kernel
set_option maxRecDepth 100000 in
theorem lw_n21 : Jvm.Cond.not (.castable (pg_x 2) (pg_x 1)) ∈ lw_fl := by decide +kernel
set_option maxRecDepth 100000 in
theorem lw_s1 : pg_thl.all (fun q => decide (Jvm.Cond.stringRef (pg_yn q.1).cls q.2.2.1 q.2.2.2.2 ∈ lw_tbl)) = true := by decide +kernel
set_option maxRecDepth 100000 in
theorem lw_s2 : pg_thl.all (fun q => decide (Jvm.Cond.exactly (.string (pg_yn q.1).cls q.2.2.1) "java/lang/String" ∈ lw_fl)) = true := by decide +kernel
theorem mm_kx0 {s : State} {args : Array Value} (hts : ∀ w ∈ lw_tbl, w.before args s = true) (hgv : (Jvm.Cond.and given_1 narrow_1).before args s = true) : mm_kx (fun q => s.heap.size ≤ q) s s.heap := by
  have hfl : ∀ w ∈ lw_fl, w.before args s = true := flat_of_before _ hgv
  refine ⟨fun U hW hsz hq w hw a' => ?_, fun q hq => ?_, fun x y hx hy hxy => ?_⟩
  · have hq' : ∀ q : Nat, q < s.heap.size → U.heap[q]? = s.heap[q]? := fun q h => hq q h (Nat.not_le.mpr h)
    have hl1 := hts _ lw_t1
    have hl2 := hts _ lw_t2
    have h4 : ∀ w ∈ mm_sx.drop 4, w.before args s = true := fun w hw => hts w (of_decide_eq_true (List.all_eq_true.mp lw_t3 w hw))
    have hcast : ∀ a b : String, Jvm.Cond.castable a b ∈ mm_sx.drop 4 → (Jvm.Cond.castable a b).before a' U = true := fun a b hm => mm_tb (u := s) (A := args) rfl (by rw [Cond.castable_setVm hW.alike]; exact h4 _ hm)
    have hdecl : ∀ y : MethodName, Jvm.Cond.declares y ∈ mm_sx.drop 4 → (Jvm.Cond.declares y).before a' U = true := fun y hm => mm_tb (u := s) (A := args) rfl (by rw [Cond.declares_setVm hW.alike]; exact h4 _ hm)
    have hsp : w ∈ mm_sx.take 4 ∨ w ∈ mm_sx.drop 4 := by
      rw [← List.mem_append, List.take_append_drop]
      exact hw
    rcases hsp with hw | hw
    · simp only [mm_sx, List.take_succ_cons, List.take_zero, List.mem_cons, List.not_mem_nil, or_false] at hw
      rcases hw with rfl | rfl | rfl | rfl
      · exact mm_rs hl1 (hfl _ lw_f1) hW hq'
      · exact mm_rs hl2 (hfl _ lw_f2) hW hq'
      · exact mm_ls hl1 hW hq'
      · exact mm_ls hl2 hW hq'
    · have hw' := hw
      simp only [mm_sx, List.drop_succ_cons, List.drop_zero, List.mem_cons, List.not_mem_nil, or_false] at hw'
      rcases hw' with rfl | rfl | rfl | rfl | rfl | rfl
      · exact hcast _ _ hw
      · exact hcast _ _ hw
      · exact hcast _ _ hw
      · exact hdecl _ hw
      · exact hdecl _ hw
      · exact hdecl _ hw
  · have h1 := hts _ (of_decide_eq_true (List.all_eq_true.mp lw_s1 q hq))
    have h2 := hfl _ (of_decide_eq_true (List.all_eq_true.mp lw_s2 q hq))
    obtain ⟨b', cB, cellB, kB, hb, -⟩ := Cond.exactly_spec h2
    exact ⟨b', vk_R.of h1 hb⟩
  · match x, y, hx, hy, hxy with
    | 0, 0, _, _, h => exact absurd rfl h
    | 0, 1, _, _, _ => exact mm_nc (hfl _ lw_n01)
    | 0, 2, _, _, _ => exact mm_nc (hfl _ lw_n02)
    | 1, 0, _, _, _ => exact mm_nc (hfl _ lw_n10)
    | 1, 1, _, _, h => exact absurd rfl h
    | 1, 2, _, _, _ => exact mm_nc (hfl _ lw_n12)
    | 2, 0, _, _, _ => exact mm_nc (hfl _ lw_n20)
    | 2, 1, _, _, _ => exact mm_nc (hfl _ lw_n21)
    | 2, 2, _, _, h => exact absurd rfl h
theorem mm_arc {s : State} {args : Array Value} {ty : FieldType} (h : (Cond.arrayClass ty).before args s = true) : ∃ cA : ClassId, ArrOfT s cA ty ∧ s.vm.findClass ("[" ++ ty.toString) = some cA := by
  simp only [Cond.before, Cond.holds, Cond.value] at h
  cases hc : s.vm.findClass ("[" ++ ty.toString) with
  | none => simp [hc] at h
  | some cA =>
    cases hk : s.vm.classes[cA]? with
    | none => simp [hc, hk] at h
    | some k =>
      cases hkk : k.kind with
      | array comp t =>
        simp [hc, hk, hkk] at h
        subst h
        exact ⟨cA, fun n z => ⟨fun k h => (by cases h), k, hk, comp, hkk⟩, rfl⟩
      | _ => simp [hc, hk, hkk] at h
set_option maxRecDepth 100000 in
theorem lw_i0 : mm_in (.instantiable "MovingHeap" 5) = true := by decide +kernel
set_option maxRecDepth 100000 in
theorem lw_i1 : mm_in (.instantiable "MovingHeap$Heap" 8) = true := by decide +kernel
set_option maxRecDepth 100000 in
theorem lw_i2 : mm_in (.instantiable "MovingHeap$Shapes" 4) = true := by decide +kernel
set_option maxRecDepth 100000 in
theorem lw_i3 : mm_in (.instantiable "MovingHeapModel" 25) = true := by decide +kernel
set_option maxRecDepth 100000 in
theorem lw_a0 : mm_in (.arrayClass .int) = true := by decide +kernel
set_option maxRecDepth 100000 in
theorem lw_a1 : mm_in (.arrayClass .long) = true := by decide +kernel
set_option maxRecDepth 100000 in
theorem lw_a2 : mm_in (.arrayClass .byte) = true := by decide +kernel
set_option maxRecDepth 100000 in
theorem lw_a3 : mm_in (.arrayClass .boolean) = true := by decide +kernel
theorem mm_vK {s : State} {args : Array Value} (hts : ∀ w ∈ pg_ws, w.before args s = true) : ∃ (D : va_G) (tc : Nat → ClassId), va_K D vwCl (mm_ty tc) s := by
  obtain ⟨c0, i0, h0⟩ := u_known (C := "MovingHeap") (T := TC0) (N := 5) hts (pg_cw 0 _ _ _ rfl) (hts _ (pg_in lw_i0))
  obtain ⟨c1, i1, h1⟩ := u_known (C := "MovingHeap$Heap") (T := TC1) (N := 8) hts (pg_cw 1 _ _ _ rfl) (hts _ (pg_in lw_i1))
  obtain ⟨c2, i2, h2⟩ := u_known (C := "MovingHeap$Shapes") (T := TC2) (N := 4) hts (pg_cw 2 _ _ _ rfl) (hts _ (pg_in lw_i2))
  obtain ⟨c3, i3, h3⟩ := u_known (C := "MovingHeapModel") (T := TC3) (N := 25) hts (pg_cw 3 _ _ _ rfl) (hts _ (pg_in lw_i3))
  obtain ⟨t0, x0, y0⟩ := mm_arc (hts _ (pg_in lw_a0))
  obtain ⟨t1, x1, y1⟩ := mm_arc (hts _ (pg_in lw_a1))
  obtain ⟨t2, x2, y2⟩ := mm_arc (hts _ (pg_in lw_a2))
  obtain ⟨t3, x3, y3⟩ := mm_arc (hts _ (pg_in lw_a3))
  refine ⟨(fun k => match k with | 0 => c0 | 1 => c1 | 2 => c2 | _ => c3, fun k => match k with | 0 => i0 | 1 => i1 | 2 => i2 | _ => i3), fun k => match k with | 0 => t0 | 1 => t1 | 2 => t2 | _ => t3, fun c q hq => ?_, fun k q hq => ?_⟩
  · match c, hq with
    | 0, hq => cases hq; exact h0
    | 1, hq => cases hq; exact h1
    | 2, hq => cases hq; exact h2
    | 3, hq => cases hq; exact h3
    | n + 4, hq => simp [vwCl] at hq
  · match k, hq with
    | 0, hq => cases hq; exact ⟨x0, y0⟩
    | 1, hq => cases hq; exact ⟨x1, y1⟩
    | 2, hq => cases hq; exact ⟨x2, y2⟩
    | 3, hq => cases hq; exact ⟨x3, y3⟩
    | n + 4, hq => simp [mm_ty] at hq
