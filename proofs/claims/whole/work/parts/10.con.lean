/-! contracts: what a call of a method of the mini machine means on the machine itself -/
/-- addresses of places: a method that makes no lasting cell leaves them; one that does, leaves those of the first n0 places, and the script's -/
def mm_X0 (al : Bool) (n0 : Nat) (ad0 : Nat → Nat) (n : Nat) (ad : Nat → Nat) : Prop := (al = false → ad = ad0) ∧ n0 ≤ n ∧ ∀ k, k < n0 ∨ k = 99 → ad k = ad0 k
theorem mm_X0.rf {al : Bool} {n : Nat} {ad : Nat → Nat} : mm_X0 al n ad n ad := ⟨fun _ => rfl, Nat.le_refl _, fun _ _ => rfl⟩
theorem mm_X0.tr {al bl : Bool} {n0 n1 n2 : Nat} {ad0 ad1 ad2 : Nat → Nat} (h1 : mm_X0 al n0 ad0 n1 ad1) (h2 : mm_X0 bl n1 ad1 n2 ad2) (hb : al = false → bl = false) : mm_X0 al n0 ad0 n2 ad2 :=
  ⟨fun h => (h2.1 (hb h)).trans (h1.1 h), Nat.le_trans h1.2.1 h2.2.1, fun k hk => by
    rw [h2.2.2 k (hk.elim (fun h => Or.inl (Nat.lt_of_lt_of_le h h1.2.1)) Or.inr)]
    exact h1.2.2 k hk⟩
theorem mm_fvh {k : Nat} {v : Value} {ad ad' : Nat → Nat} (h : mm_fv k v = true) (he : ∀ j, j < k ∨ j = 99 → ad' j = ad j) : mm_v ad' v = mm_v ad v := by
  cases v with
  | ref j =>
    show Value.ref (ad' j) = Value.ref (ad j)
    rcases (Bool.or_eq_true _ _).mp h with h | h
    · rw [he j (Or.inl (mm_blt h))]
    · rw [he j (Or.inr (mm_beq h))]
  | _ => rfl
theorem mm_fvs {k : Nat} {st : List Value} {ad ad' : Nat → Nat} (h : st.all (mm_fv k) = true) (he : ∀ j, j < k ∨ j = 99 → ad' j = ad j) : st.map (mm_v ad') = st.map (mm_v ad) :=
  List.map_congr_left fun v hv => mm_fvh (List.all_eq_true.mp h v hv) he
theorem mm_fvl {k : Nat} {lv : mm_L} {ad ad' : Nat → Nat} (h : lv.all (fun q => mm_fv k q.2) = true) (he : ∀ j, j < k ∨ j = 99 → ad' j = ad j) : mm_l ad' lv = mm_l ad lv :=
  List.map_congr_left fun q hq => by rw [mm_fvh (List.all_eq_true.mp h q hq) he]
theorem mm_fvw {k : Nat} {w : mm_W} {tc : Nat → ClassId} {ad ad' : Nat → Nat} (h : w.all (fun q => Nat.blt q.1 k && mm_fe k q.2) = true) (he : ∀ j, j < k ∨ j = 99 → ad' j = ad j) : mm_w tc ad' w = mm_w tc ad w :=
  List.map_congr_left fun q hq => by
    obtain ⟨h1, h2⟩ := mm_and (List.all_eq_true.mp h q hq)
    rw [he q.1 (Or.inl (mm_blt h1))]
    obtain ⟨q1, q2⟩ := q
    cases q2 with
    | inl y => rfl
    | inr y =>
      show (ad q1, (Sum.inr (y.1, y.2.map (mm_v ad')) : va_E)) = (ad q1, Sum.inr (y.1, y.2.map (mm_v ad)))
      rw [mm_fvs h2 he]
section
variable {p : Program} {l : Launch} {e : Env} {R : Room} {s : State} {m : MethodId} {args : Array Value} {below : List Frame} {meth : Method} {c : Code} {H : Heap} {locs : List Loc} {k1 k2 : Nat} {Q Q' : State → Prop}
theorem mm_post {g : JFrame} (k : W p l e R s m args below meth c H locs k1 k2 Q g) (h : ∀ t, Q t → Q' t) : W p l e R s m args below meth c H locs k1 k2 Q' g := fun T hT X => by
  obtain ⟨t, a, b⟩ := k T hT X
  exact ⟨t, a, h t b⟩
/-- the frame g, with q thrown over it, comes to Q -/
def mm_th (p : Program) (l : Launch) (e : Env) (R : Room) (s : State) (m : MethodId) (args : Array Value) (below : List Frame) (meth : Method) (c : Code) (H : Heap) (locs : List Loc) (k1 k2 : Nat) (Q : State → Prop) (g : JFrame) (q : Addr) : Prop :=
  ∀ T : State, T.heap = H → Stand p l e R s m args below meth c T locs k1 k2 → ∃ t, Steps p.tables e below ((T.setTop g).pushFrame (.throwing q)) t ∧ Q t
end
/-- an outcome of the machine is that of the mini machine -/
def mm_oc (st t : State) (ad : Nat → Nat) (o : Outcome) (oo : mm_O) : Prop := match oo with
  | .inl v => o = .returned (v.map (mm_v ad))
  | .inr x => ∃ (q : Addr) (ce : Cell), o = .threw q ∧ t.heap[q]? = some ce ∧ ce.vm = .none ∧ st.vm.findClass (pg_x x) = some ce.cls
/-- a method's end: outcome and world in K, nothing else changed -/
def mm_out (D : va_G) (tc : Nat → ClassId) (ad0 : Nat → Nat) (A : Nat → Prop) (al : Bool) (n0 : Nat) (K : mm_K) (mc ms : Nat) : Array Value → State → Outcome → State → Prop := fun _ st o t =>
  ∃ (oo : mm_O) (w : mm_W) (ad : Nat → Nat) (L : List Loc), K oo w ∧ mm_X0 al n0 ad0 w.length ad ∧ va_P D vwCl (mm_w tc ad w) t.heap ∧ va_D A (mm_w tc ad w) ∧ va_F A st t ∧ st.WarmedH t.vm ∧ st.sameButNew ({ t with vm := st.vm } : State) L mc ms ∧ (∀ q ∈ L, A q.base) ∧ mm_oc st t ad o oo
def mm_Ez (below : List Frame) (D : va_G) (tc : Nat → ClassId) (ad0 : Nat → Nat) (A : Nat → Prop) (al : Bool) (n0 : Nat) (K : mm_K) (mc ms : Nat) (args : Array Value) (s : State) : State → Prop := fun t =>
  ∃ o, t.status = .running ∧ Ended t below o ∧ mm_out D tc ad0 A al n0 K mc ms args s o t
/-- what stays true while only cells in A are written: the statics that a new exception reads, the texts -/
def mm_sx : List Jvm.Cond := [.isRef (.static Bundle.tN "UNASSIGNED_STACK" Bundle.steD), .isRef (.static Bundle.tN "SUPPRESSED_SENTINEL" Bundle.listD), .laysStatic Bundle.tN "UNASSIGNED_STACK" Bundle.steD, .laysStatic Bundle.tN "SUPPRESSED_SENTINEL" Bundle.listD,
  .castable "java/lang/IllegalArgumentException" "java/lang/IllegalArgumentException", .castable "java/lang/IllegalStateException" "java/lang/IllegalStateException", .castable "java/lang/IndexOutOfBoundsException" "java/lang/IndexOutOfBoundsException",
  .declares (Bundle.initS "java/lang/RuntimeException"), .declares (Bundle.initS "java/lang/Exception"), .declares (Bundle.initS Bundle.tN)]
def mm_kx (A : Nat → Prop) (U : State) (H : Heap) : Prop :=
  (∀ U' : State, U.WarmedH U'.vm → H.size ≤ U'.heap.size → (∀ q : Nat, q < H.size → ¬ A q → U'.heap[q]? = H[q]?) → ∀ w ∈ mm_sx, ∀ a' : Array Value, w.before a' U' = true) ∧
  (∀ q ∈ pg_thl, ∃ a, vk_R (pg_yn q.1).cls q.2.2.1 q.2.2.2.2 a U) ∧ ∀ x y : Nat, x < 3 → y < 3 → x ≠ y → va_Nc (pg_x x) (pg_x y) U
theorem mm_kx.into {A A' : Nat → Prop} {s U : State} {H : Heap} {locs : List Loc} (h : mm_kx A s s.heap) (hW : s.WarmedH U.vm) (hU : U.heap = H) (hS : va_S A s.heap H locs) (hA : ∀ q, A' q → A q) : mm_kx A' U H :=
  ⟨fun U' w1 w2 w3 => h.1 U' (State.WarmedH.trans hW w1) (Nat.le_trans hS.1 w2) (fun q h1 h2 => by rw [w3 q (Nat.lt_of_lt_of_le h1 hS.1) (fun z => h2 (hA q z))]; exact hS.2.1 q h1 h2),
    fun q hq => by
      obtain ⟨a, ha⟩ := h.2.1 q hq
      exact ⟨a, ha.warm hW⟩,
    fun x y hx hy hxy => by
      obtain ⟨c, t, h1, h2, h3⟩ := h.2.2 x y hx hy hxy
      exact ⟨c, t, by rw [hW.alike.findClass]; exact h1, by rw [hW.alike.findClass]; exact h2, by rw [hW.alike.assignable]; exact h3⟩⟩
def mm_Pc (D : va_G) (tc : Nat → ClassId) (ad : Nat → Nat) (av : List Value) (w : mm_W) (sz : Nat) : Array Value → State → Prop :=
  va_Pc (av.map (mm_v ad)) (fun U => U.heap.size = sz ∧ va_P D vwCl (mm_w tc ad w) U.heap ∧ va_K D vwCl (mm_ty tc) U ∧ va_D (fun _ => True) (mm_w tc ad w) ∧ mm_kx (va_A (mm_w tc ad w) sz) U U.heap)
/-- the contract of a method at these arguments and this world -/
def mm_Met (l : Launch) (d : Nat) (al : Bool) (mi : Nat) (av : List Value) (w : mm_W) (K : mm_K) : Prop :=
  ∀ (D : va_G) (tc : Nat → ClassId) (ad : Nat → Nat) (sz : Nat), MetFree l (pg_yn mi) (headSpec (pg_w mi) (pg_rm d mi)) (mm_Pc D tc ad av w sz) (fun _ _ _ _ _ => True) (mm_out D tc ad (va_A (mm_w tc ad w) sz) al w.length K (pg_c mi).1 (pg_c mi).2)
/-- the word of a method's code gives its code -/
theorem mm_dsp {mi : Nat} {args : Array Value} {U : State} {mk : MethodId} (hn : U.methodNamed? (pg_yn mi) = some mk) (h : (pg_d mi).before args U = true) :
    ∃ meth c, U.vm.method? mk = some meth ∧ meth.code = some c ∧ c.code = pg_b mi ∧ c.maxLocals = pg_n mi ∧ meth.sig.returnType = pg_r mi ∧ meth.locks = false ∧ parseMethodDescriptor (pg_yn mi).desc = some meth.sig ∧ c.exceptionTable.toList.map (fun h => (h.startPc, h.endPc, h.handlerPc, h.catchType)) = pg_hh mi := by
  unfold pg_d at h
  split at h
  · next he =>
    obtain ⟨meth, c, h1, h2, h3, h4, h5, h6, h7, h8⟩ := Cond.code_spec hn h
    refine ⟨meth, c, h1, h2, h3, h4, h5, h6, h8, ?_⟩
    have h9 : c.exceptionTable = #[] := Array.isEmpty_iff.mp h7
    rw [he, h9]
    rfl
  · next q r he =>
    obtain ⟨m', meth, c, h0, h1, h2, h3, h4, h5, h6, h7, h8⟩ := Cond.codeWith_spec h
    cases hn.symm.trans h0
    exact ⟨meth, c, h1, h2, h3, h4, h6, h7, h8, by rw [he]; exact h5⟩
section
variable {p : Program} {l : Launch} {e : Env} {R : Room} {s : State} {m : MethodId} {args : Array Value} {below : List Frame} {meth : Method} {c : Code} {T : State} {H : Heap} {locs : List Loc} {k1 k2 : Nat} {Q : State → Prop} {D : va_G} {tc : Nat → ClassId} {A : Nat → Prop} {ad : Nat → Nat}
/-- a callee is entered, and comes back or throws -/
theorem mm_into {a d : Nat} {al : Bool} {As : List Value} {w : mm_W} {K : mm_K} (hM : mm_Met l d al a As w K) (X : Stand p l e R s m args below meth c T locs k1 k2) {g : JFrame} (hg : g.method = m) (hsize : g.locals.size = c.maxLocals) {ig : Instr} {len : Nat} (hdg : decode c.code g.pc = .ok (ig, len))
    (hW : 2 * g.monitorRoom + (g.stack.map fun v => v.category).sum ≤ 8) {mk : MethodId} (hn : T.methodNamed? (pg_yn a) = some mk) (hws : ∀ w ∈ pg_w a, ∀ (a' : Array Value) (U : State), s.WarmedH U.vm → w.before a' U = true) (hini : (Cond.initialized (pg_yn a).cls).before args T = true)
    (hR : (pg_rm d a).frames + 1 ≤ R.frames ∧ 8 + (pg_n a + 11) + (pg_rm d a).locals ≤ R.locals) (hf : k1 + (pg_c a).1 ≤ R.cells ∧ k2 + (pg_c a).2 ≤ R.slots)
    (hP : va_P D vwCl (mm_w tc ad w) T.heap) (hK : va_K D vwCl (mm_ty tc) T) (hD : va_D (fun _ => True) (mm_w tc ad w)) (hx : mm_kx (va_A (mm_w tc ad w) T.heap.size) T T.heap) :
    ∃ (o : Outcome) (t : State), Steps p.tables e below (doInvoke e (T.setTop g) [] mk (As.map (mm_v ad)).toArray).1 t ∧ Ended t (.java g :: below) o ∧ mm_out D tc ad (va_A (mm_w tc ad w) T.heap.size) al w.length K (pg_c a).1 (pg_c a).2 (As.map (mm_v ad)).toArray (T.calling g mk (As.map (mm_v ad)).toArray) o t := by
  obtain ⟨methY, cY, hmY, hcY, -, hlY, -, -, -, -⟩ := mm_dsp hn (hws _ List.mem_cons_self args T X.warmed)
  obtain ⟨kY, hkY, -⟩ := className_of_methodNamed hn
  have hinitY : kY.init = .initialized := Cond.initialized_spec (findClass_of_methodNamed hn) hkY hini
  have h : At T g.method c below := by rw [hg]; exact X.here
  have happ : (headSpec (pg_w a) (pg_rm d a)).appliesLoose (pg_yn a) e.platform (T.calling g mk (As.map (mm_v ad)).toArray) = true :=
    Spec.appliesLoose_calling (g := g) h hdg hn hkY hinitY (X.room_calling (g := g) (R' := pg_rm d a) hsize hmY hcY hR.1 (by rw [hlY]; have := hR.2; omega) hf.1 hf.2) (atoms_intro fun w hw => hws w hw _ _ X.warmed)
  have hfr : (T.setTop g).frames = [.java g] ++ below := by rw [State.frames_setTop' g h.top, X.tail]; rfl
  obtain ⟨o, t, hsteps, -, hend, hq⟩ := Steps.callFree (hM D tc ad T.heap.size) p X.admits X.cas X.clock (acts := []) hfr happ ⟨rfl, rfl, hP, va_K.moved (u := T) (U := T.calling g mk (As.map (mm_v ad)).toArray) (Vm.Alike.refl T.vm) hK, hD, hx⟩ trivial
  rw [hfr] at hend
  exact ⟨o, t, hsteps, hend, hq⟩
end
