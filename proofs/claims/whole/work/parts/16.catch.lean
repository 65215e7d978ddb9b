section
variable {Q : Handler → Pre} {E : CtlPost} {e : Env} {d : Bool} {acts : List Action} {S s : State} {f : JFrame} {q : Addr}
/-- one row of the table, whose name may have to be looked up yet: taken or passed by -/
theorem mm_row {x : ExceptionTableEntry} {t : List ExceptionTableEntry} {cA : ClassId} {cell : Cell} (hx : covers x f.pc = true) (h0 : x.catchType ≠ 0) (hl : S.vm.ClassLinks e.platform f.method.cls x.catchType cA) (hcell : S.heap[q]? = some cell) (hobj : ∀ k, cell.vm ≠ .statics k)
    (hk : ∃ k, S.vm.classes[cell.cls]? = some k) (hc : ∃ k, S.vm.classes[cA]? = some k) :
    wp (findHandler.go f q (x :: t)) Q E e d acts S ↔ if S.vm.assignable cell.cls cA = true then Q (.found x.handlerPc) d acts (S.setVm (S.vm.noted f.method.cls x.catchType (.cls cA))) else wp (findHandler.go f q t) Q E e d acts (S.setVm (S.vm.noted f.method.cls x.catchType (.cls cA))) := by
  have hal : S.vm.Alike (S.vm.noted f.method.cls x.catchType (.cls cA)) := (Vm.Alike.refl S.vm).noted _ _ _
  have hasg := hal.assignable cell.cls cA
  obtain ⟨hv1, hv2⟩ := (resolveClass_links e.toSetting hl).op (op := VmOp.resolveClass f.method.cls x.catchType) rfl
  obtain ⟨_, hk⟩ := hk
  obtain ⟨_, hc⟩ := hc
  obtain ⟨_, hk2, -⟩ := hal.2.2 _ _ hk
  obtain ⟨_, hc2, -⟩ := hal.2.2 _ _ hc
  simp only [covers] at hx
  cases hfit : S.vm.assignable cell.cls cA <;> rw [hfit] at hasg <;> simp [findHandler.go, hx, h0, hv1, hv2, hcell, hobj, hk2, hc2, hasg, VmOp.dirties, VmOp.acts]
theorem mm_scan {own : String} {x : Nat} {cell : Cell} (hpl : e.platform.magicAccessors = ({} : Platform).magicAccessors) (hown : s.vm.findClass own = some f.method.cls) (hobj : ∀ k, cell.vm ≠ .statics k) (hcl : s.vm.findClass (pg_x x) = some cell.cls) (hself : s.vm.assignable cell.cls cell.cls = true) (hx3 : x < 3)
    (hnc : ∀ y, y < 3 → x ≠ y → va_Nc (pg_x x) (pg_x y) s) : ∀ (L : List ExceptionTableEntry) (S : State) (hp : Nat), s.WarmedH S.vm → S.heap[q]? = some cell → mm_first f.pc x (L.map (fun h => (h.startPc, h.endPc, h.handlerPc, h.catchType))) = some hp →
      (∀ t ∈ L, t.catchType ≠ 0 ∧ pg_cn t.catchType < 3 ∧ ∃ av : Array Value, (Cond.classLink own t.catchType (pg_x (pg_cn t.catchType))).before av s = true) →
      ∃ vm', s.WarmedH vm' ∧ ∀ (Q : Handler → Pre) (E : CtlPost) (d : Bool) (acts : List Action), wp (findHandler.go f q L) Q E e d acts S ↔ Q (.found hp) d acts (S.setVm vm') := by
  obtain ⟨k0, hk0, -⟩ := Vm.findClass_spec hcl
  intro L
  induction L with
  | nil => intro S hp _ _ h _; simp [mm_first] at h
  | cons t r ih =>
    intro S hp hW hcell h hL
    obtain ⟨h0, h3, av, hlk⟩ := hL t List.mem_cons_self
    have hL' := fun z hz => hL z (List.mem_cons_of_mem _ hz)
    by_cases hcov : covers t f.pc = true
    · have hcov' : (Nat.ble t.startPc f.pc && Nat.blt f.pc t.endPc) = true := by
        simp only [covers, Bool.and_eq_true, decide_eq_true_eq] at hcov
        rw [Bool.and_eq_true]
        exact ⟨Nat.ble_eq_true_of_le hcov.1, Nat.ble_eq_true_of_le hcov.2⟩
      obtain ⟨cA, hcA, hln⟩ := Cond.classLink_spec hown hlk e.platform hpl
      obtain ⟨dk, _, _, kt, hdk, _, _, _, _, hkt, _, hopen⟩ := hln.here
      obtain ⟨_, hkt', -⟩ := hW.alike.2.2 _ _ hkt
      obtain ⟨_, hk0', -⟩ := hW.alike.2.2 _ _ hk0
      have hW' := hW.noted hdk hopen (State.rightAt_cls hln)
      have hrow := fun Q E d acts => mm_row (Q := Q) (E := E) (d := d) (acts := acts) (t := r) hcov h0 (hW.classLinks hln) hcell hobj ⟨_, hk0'⟩ ⟨_, hkt'⟩
      have hasg : S.vm.assignable cell.cls cA = s.vm.assignable cell.cls cA := hW.alike.assignable ..
      by_cases hxe : pg_cn t.catchType = x
      · rw [hxe] at hcA
        cases Option.some.inj (hcA.symm.trans hcl)
        have hh : hp = t.handlerPc := by
          unfold mm_first at h
          simp only [List.map_cons] at h
          rw [hcov', hxe] at h
          simp only [Nat.beq_refl, Bool.and_self] at h
          exact (Option.some.inj h).symm
        subst hh
        refine ⟨_, hW', fun Q E d acts => ?_⟩
        rw [hrow, if_pos (by rw [hasg]; exact hself)]
      · have hh : mm_first f.pc x (r.map (fun h => (h.startPc, h.endPc, h.handlerPc, h.catchType))) = some hp := by
          have hb : Nat.beq (pg_cn t.catchType) x = false := by
            cases hq : Nat.beq (pg_cn t.catchType) x with
            | false => rfl
            | true => exact absurd (mm_beq hq) hxe
          simp only [List.map_cons, mm_first, hb, Bool.and_false] at h
          exact h
        obtain ⟨vm', hw1, hq1⟩ := ih (S.setVm (S.vm.noted f.method.cls t.catchType (.cls cA))) hp hW' hcell hh hL'
        obtain ⟨c1, c2, n1, n2, n3⟩ := hnc _ h3 (fun h => hxe h.symm)
        cases Option.some.inj (n1.symm.trans hcl)
        cases Option.some.inj (n2.symm.trans hcA)
        refine ⟨vm', hw1, fun Q E d acts => ?_⟩
        rw [hrow, if_neg (by rw [hasg, n3]; exact Bool.false_ne_true)]
        exact hq1 Q E d acts
    · have hcf : covers t f.pc = false := by simpa using hcov
      have hh : mm_first f.pc x (r.map (fun h => (h.startPc, h.endPc, h.handlerPc, h.catchType))) = some hp := by
        have hb : (Nat.ble t.startPc f.pc && Nat.blt f.pc t.endPc) = false := by
          cases hq : (Nat.ble t.startPc f.pc && Nat.blt f.pc t.endPc) with
          | false => rfl
          | true =>
            exfalso
            apply hcov
            obtain ⟨z1, z2⟩ := mm_and hq
            simp only [covers, Bool.and_eq_true, decide_eq_true_eq]
            exact ⟨mm_ble z1, mm_ble z2⟩
        simp only [List.map_cons, mm_first, hb, Bool.false_and] at h
        exact h
      obtain ⟨vm', hw1, hq1⟩ := ih S hp hW hcell hh hL'
      exact ⟨vm', hw1, fun Q E d acts => by rw [W.findHandler_go_skip hcf]; exact hq1 Q E d acts⟩
end
