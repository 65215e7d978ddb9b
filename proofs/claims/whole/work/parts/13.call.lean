theorem mm_freeA {A : Nat → Prop} {w : va_W} {H0 H : Heap} {locs : List Loc} (hD : va_D A w) (hS : va_S A H0 H locs) (hA : ∀ q, H0.size ≤ q → A q) : ∀ q, va_A w H.size q → A q := by
  rintro q (⟨k, x, h⟩ | h)
  · exact hD.2 k _ h
  · exact hA q (Nat.le_trans hS.1 h)
theorem mm_dnm {a : Nat} {args : Array Value} {U : State} (h : (pg_d a).before args U = true) : ∃ mk, U.methodNamed? (pg_yn a) = some mk := by
  unfold pg_d at h
  split at h
  · exact Cond.code_named h
  · obtain ⟨m', _, _, h0, -⟩ := Cond.codeWith_spec h
    exact ⟨m', h0⟩
section
variable {p : Program} {l : Launch} {e : Env} {R : Room} {s : State} {m : MethodId} {args : Array Value} {below : List Frame} {meth : Method} {c : Code} {T : State} {H : Heap} {locs : List Loc} {k1 k2 pc : Nat} {Q : State → Prop} {D : va_G} {tc : Nat → ClassId} {A : Nat → Prop} {ad : Nat → Nat} {ls : Array Slot} {st0 rest : List Value}
/-- the invoking instruction has linked its callee -/
def mm_lnk (p : Program) (l : Launch) (e : Env) (R : Room) (s : State) (m : MethodId) (args : Array Value) (below : List Frame) (meth : Method) (c : Code) (T : State) (locs : List Loc) (k1 k2 : Nat) (y : MethodName) (g : JFrame) (rest : List Value) (av : Array Value) : Prop :=
  ∃ (vm1 : Vm) (mk : MethodId), Stand p l e R s m args below meth c (T.setVm vm1) locs k1 k2 ∧ (T.setVm vm1).methodNamed? y = some mk ∧
    ∀ target, (∀ acts, Steps p.tables e below (doInvoke e ((T.setVm vm1).setTop { g with stack := rest }) acts mk av).1 target) → Steps p.tables e below (T.setTop g) target
/-- a call, from the invoking instruction to what is behind it -/
theorem mm_cont {a d : Nat} {al : Bool} {As : List Value} {w : mm_W} {K : mm_K} (hM : mm_Met l d al a As w K) (hsize : ls.size = c.maxLocals) {ig : Instr} (hdg : decode c.code pc = .ok (ig, 3))
    (hlnk : ∀ T : State, T.heap = H → Stand p l e R s m args below meth c T locs k1 k2 → mm_lnk p l e R s m args below meth c T locs k1 k2 (pg_yn a) (F0 m pc ls st0) rest (As.map (mm_v ad)).toArray)
    (hW : (rest.map fun v => v.category).sum ≤ 8) (hws : ∀ w ∈ pg_w a, ∀ (a' : Array Value) (U : State), s.WarmedH U.vm → w.before a' U = true) (hini : ∀ (a' : Array Value) (U : State), s.WarmedH U.vm → (Cond.initialized (pg_yn a).cls).before a' U = true)
    (hR : (pg_rm d a).frames + 1 ≤ R.frames ∧ 8 + (pg_n a + 11) + (pg_rm d a).locals ≤ R.locals) (hf : k1 + (pg_c a).1 ≤ R.cells ∧ k2 + (pg_c a).2 ≤ R.slots)
    (hP : va_P D vwCl (mm_w tc ad w) H) (hK : va_K D vwCl (mm_ty tc) s) (hD : va_D A (mm_w tc ad w)) (hS : va_S A s.heap H locs) (hA : ∀ q, s.heap.size ≤ q → A q) (hkx : mm_kx A s s.heap)
    (kx : ∀ (x : Nat) (w' : mm_W) (ad' : Nat → Nat) (ce : Cell) (q9 : Addr) (H1 : Heap) (locs1 : List Loc), K (.inr x) w' → mm_X0 al w.length ad w'.length ad' → va_P D vwCl (mm_w tc ad' w') H1 → va_D A (mm_w tc ad' w') → va_S A s.heap H1 locs1 → H1[q9]? = some ce → ce.vm = .none → s.vm.findClass (pg_x x) = some ce.cls → mm_th p l e R s m args below meth c H1 locs1 (k1 + (pg_c a).1) (k2 + (pg_c a).2) Q (F0 m pc ls rest) q9)
    (kk : ∀ (v : Option Value) (w' : mm_W) (ad' : Nat → Nat) (H1 : Heap) (locs1 : List Loc), K (.inl v) w' → mm_X0 al w.length ad w'.length ad' → va_P D vwCl (mm_w tc ad' w') H1 → va_D A (mm_w tc ad' w') → va_S A s.heap H1 locs1 → W p l e R s m args below meth c H1 locs1 (k1 + (pg_c a).1) (k2 + (pg_c a).2) Q (F0 m (pc + 3) ls ((v.map (mm_v ad')).toList ++ rest))) :
    W p l e R s m args below meth c H locs k1 k2 Q (F0 m pc ls st0) := by
  intro T hT X
  obtain ⟨vm1, mk, X1, hn, hstep⟩ := hlnk T hT X
  have hH1 : (T.setVm vm1).heap = H := hT
  have hAA : ∀ q, va_A (mm_w tc ad w) H.size q → A q := mm_freeA hD hS hA
  have hWm : s.WarmedH (T.setVm vm1).vm := X1.warmed
  obtain ⟨o, t, hsteps, hend, oo, w1, ad1, L, hK1, hX1, hP1, hD1, hF1, hW1, hs1, hL1, hoc⟩ := mm_into (D := D) (tc := tc) (ad := ad) hM X1 (g := F0 m pc ls rest) rfl hsize hdg (by show 2 * 0 + _ ≤ 8; simpa using hW) hn hws (hini args _ hWm) hR hf (by rw [hH1]; exact hP) (va_K.moved hWm.alike hK) (hD.weaken fun _ _ _ _ => trivial) (by rw [hH1]; exact hkx.into hWm hH1 hS hAA)
  rw [hH1] at hD1 hF1 hL1
  have hz : H.size ≤ t.heap.size := by
    have := hF1.1
    rwa [show ((T.setVm vm1).calling (F0 m pc ls rest) mk (As.map (mm_v ad)).toArray).heap = H from hT] at this
  have hq : ∀ q : Nat, q < H.size → ¬ va_A (mm_w tc ad w) H.size q → t.heap[q]? = H[q]? := by
    have := hF1.2
    rwa [show ((T.setVm vm1).calling (F0 m pc ls rest) mk (As.map (mm_v ad)).toArray).heap = H from hT] at this
  have hS1 : va_S A s.heap t.heap (locs ++ L) := ⟨Nat.le_trans hS.1 hz, fun q h1 h2 => by rw [hq q (Nat.lt_of_lt_of_le h1 hS.1) (fun z => h2 (hAA q z))]; exact hS.2.1 q h1 h2, fun q h => by
    rcases List.mem_append.mp h with h | h
    · exact hS.2.2 q h
    · exact hAA _ (hL1 q h)⟩
  have hD2 : va_D A (mm_w tc ad1 w1) := hD1.weaken fun _ _ _ h => hAA _ h
  cases oo with
  | inl v =>
    have hoc : o = .returned (v.map (mm_v ad1)) := hoc
    subst hoc
    obtain ⟨T', X', -, -, ht⟩ := X1.outOf (g := F0 m pc ls rest) rfl hdg hend hW1 hs1
    have hh : T'.heap = t.heap := by rw [ht]; rfl
    obtain ⟨t2, a1, b1⟩ := kk v w1 ad1 t.heap (locs ++ L) hK1 hX1 hP1 hD2 hS1 T' hh X'
    refine ⟨t2, hstep t2 fun acts => ?_, b1⟩
    rw [doInvoke_state]
    refine hsteps.trans ?_
    rw [ht]
    exact a1
  | inr x =>
    obtain ⟨q, ce, ho, hce, hcv, hcl⟩ := hoc
    subst ho
    obtain ⟨T', X', -, -, ht⟩ := X1.outOfThrown (g := F0 m pc ls rest) rfl hend hW1 hs1
    have hh : T'.heap = t.heap := by rw [ht]; rfl
    have hcl : s.vm.findClass (pg_x x) = some ce.cls := by
      have h1 : (T.setVm vm1).vm.findClass (pg_x x) = some ce.cls := hcl
      rwa [hWm.alike.findClass] at h1
    obtain ⟨t2, a1, b1⟩ := kx x w1 ad1 ce q t.heap (locs ++ L) hK1 hX1 hP1 hD2 hS1 hce hcv hcl T' hh X'
    refine ⟨t2, hstep t2 fun acts => ?_, b1⟩
    rw [doInvoke_state]
    refine hsteps.trans ?_
    rw [ht]
    exact a1
theorem mm_lkS {a index : Nat} {own : String} {As : List Value} (X : Stand p l e R s m args below meth c T locs k1 k2) (hx : p.tables.exec = Jvm.exec) (hown : s.vm.findClass own = some m.cls) (hl : (Cond.methodLink own index (pg_yn a)).before args s = true) (hst : (Cond.static (pg_yn a)).before args s = true) (hini : (Cond.initialized (pg_yn a).cls).before args s = true) (hd : (pg_d a).before args s = true)
    (hy : mm_plain (pg_yn a) = true) (hpar : mm_par (pg_yn a) = some As.length) {g : JFrame} (hg : g.method = m) (hstack : g.stack = As.reverse ++ rest) (hdg : decode c.code g.pc = .ok (.invokestatic index, 3)) : mm_lnk p l e R s m args below meth c T locs k1 k2 (pg_yn a) g rest As.toArray := by
  obtain ⟨mk, hn⟩ := mm_dnm hd
  obtain ⟨methM, cM, hmM, -, -, -, -, -, hsig, -⟩ := mm_dsp hn hd
  obtain ⟨kP, hkP, -⟩ := className_of_methodNamed hn
  have hinP : kP.init = .initialized := Cond.initialized_spec (findClass_of_methodNamed hn) hkP hini
  have hlen : As.length = methM.sig.parameters.length := by
    unfold mm_par at hpar
    rw [hsig] at hpar
    exact (Option.some.inj hpar).symm
  obtain ⟨vm1, X1, hs1⟩ := X.invokestatic hx hown hl hn hmM (Cond.static_spec hn hmM hst) hkP hinP ⟨of_decide_eq_true (mm_and hy).1, of_decide_eq_true (mm_and hy).2⟩ (g := g) hg (argsL := As) (rest := rest) hlen hstack hdg
  exact ⟨vm1, mk, X1, X1.named hn, hs1⟩
theorem mm_lkV {a index : Nat} {own : String} {As : List Value} {b : Addr} {cellB : Cell} (X : Stand p l e R s m args below meth c T locs k1 k2) (hx : p.tables.exec = Jvm.exec) (hown : s.vm.findClass own = some m.cls) (hl : (Cond.methodLink own index (pg_yn a)).before args s = true) (hin : (Cond.instanceMethod (pg_yn a)).before args s = true) (hse : (Cond.selects (pg_yn a).cls (pg_yn a) (pg_yn a)).before args s = true) (hd : (pg_d a).before args s = true)
    (hy : mm_plain (pg_yn a) = true) (hpar : mm_par (pg_yn a) = some As.length) (hcell : T.heap[b]? = some cellB) (hobj : cellB.vm.isStatics = false) (hcls : s.vm.findClass (pg_yn a).cls = some cellB.cls) {g : JFrame} (hg : g.method = m) (hstack : g.stack = As.reverse ++ .ref b :: rest) (hdg : decode c.code g.pc = .ok (.invokevirtual index, 3)) : mm_lnk p l e R s m args below meth c T locs k1 k2 (pg_yn a) g rest (Value.ref b :: As).toArray := by
  have hy' : (pg_yn a).cls ≠ "java/lang/invoke/MethodHandle" ∧ (pg_yn a).cls ≠ "java/lang/invoke/VarHandle" := ⟨of_decide_eq_true (mm_and hy).1, of_decide_eq_true (mm_and hy).2⟩
  obtain ⟨mk, methM, hn, hmM, hstM, habM⟩ := Cond.instanceMethod_spec hin
  obtain ⟨methM', cM, hmM', -, -, -, -, -, hsig, -⟩ := mm_dsp hn hd
  cases hmM.symm.trans hmM'
  obtain ⟨c2, r2, m2, q1, q2, q3, q4, kP, hkP, hkPi⟩ := Cond.selects_spec hse
  cases hcls.symm.trans q1
  cases (State.methodFound?_of_named hn hy').symm.trans q2
  cases hn.symm.trans q3
  have hsel : selectMethod e.platform s.vm cellB.cls mk = .method mk := by rw [Launch.admits_selectMethod X.admits]; exact q4
  have hlen : As.length = methM.sig.parameters.length := by
    unfold mm_par at hpar
    rw [hsig] at hpar
    exact (Option.some.inj hpar).symm
  obtain ⟨vm1, X1, hs1⟩ := X.invokevirtual hx hown hl hn hmM hstM hkP hkPi hy' (a := b) (cell := cellB) hcell (fun z h => by rw [h] at hobj; cases hobj) hsel hmM habM hkP hkPi (g := g) hg (argsL := As) (rest := rest) hlen hstack hdg
  exact ⟨vm1, mk, X1, X1.named hn, hs1⟩
theorem mm_lkI {a index : Nat} {own : String} {As : List Value} {b : Addr} (X : Stand p l e R s m args below meth c T locs k1 k2) (hx : p.tables.exec = Jvm.exec) (hown : s.vm.findClass own = some m.cls) (hl : (Cond.methodLink own index (pg_yn a)).before args s = true) (hin : (Cond.instanceMethod (pg_yn a)).before args s = true) (hnm : (pg_yn a).name = "<init>") (hcode : (Cond.code (pg_yn a) (pg_b a) (pg_n a) none).before args s = true)
    (hy : mm_plain (pg_yn a) = true) (hpar : mm_par (pg_yn a) = some As.length) {g : JFrame} (hg : g.method = m) (hstack : g.stack = As.reverse ++ .ref b :: rest) (hdg : decode c.code g.pc = .ok (.invokespecial index, 3)) : mm_lnk p l e R s m args below meth c T locs k1 k2 (pg_yn a) g rest (Value.ref b :: As).toArray := by
  subst hg
  have hpl : e.platform.magicAccessors = ({} : Platform).magicAccessors := by rw [X.admits.platform]
  obtain ⟨mk, methM, cM, kP, vm1, hn, -, -, -, -, -, -, -, hW1, hs1⟩ := Steps.initColdArgs (e := e) X.here hx X.warmed hpl hown hnm ⟨of_decide_eq_true (mm_and hy).1, of_decide_eq_true (mm_and hy).2⟩ hl hin hcode (f := g) rfl (fun sig hsig => by
    unfold mm_par at hpar
    rw [hsig] at hpar
    exact (Option.some.inj hpar).symm) hstack hdg
  have X1 := X.noted hW1
  exact ⟨vm1, mk, X1, X1.named hn, hs1⟩
end
