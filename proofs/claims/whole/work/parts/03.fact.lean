def mm_find (pc : Nat) : List mm_I → Option mm_I
  | [] => none
  | e :: r => match Nat.beq e.1 pc with
    | true => some e
    | false => mm_find pc r
def mm_at (tb : List (List mm_I)) (pc : Nat) : Option mm_I := match tb[pc / 16]? with
  | none => none
  | some b => mm_find pc b
theorem mm_and {a b : Bool} (h : (a && b) = true) : a = true ∧ b = true := by
  rw [Bool.and_eq_true] at h
  exact h
theorem mm_beq {a b : Nat} (h : Nat.beq a b = true) : a = b := Nat.eq_of_beq_eq_true h
theorem mm_ble {a b : Nat} (h : Nat.ble a b = true) : a ≤ b := Nat.le_of_ble_eq_true h
theorem mm_blt {a b : Nat} (h : Nat.blt a b = true) : a < b := Nat.le_of_ble_eq_true h
/-! what the rows of the mini machine stand on -/
def mm_ty (tc : Nat → ClassId) : List (ClassId × FieldType) := [(tc 0, .int), (tc 1, .long), (tc 2, .byte), (tc 3, .boolean)]
/-- a word is among those of the tables, and holds on in every later state -/
def mm_in (w : Jvm.Cond) : Bool := decide (w ∈ lw_tbl) && goodWord w
/-- the word of entry z of the pool of method mi's owner -/
def mm_lw (mi z : Nat) (w : Jvm.Cond) : Bool := match pg_lif (pg_cu mi) z pg_li with
  | none => false
  | some i => decide (lw_tbl[i]? = some w) && goodWord w
theorem mm_lwh {mi z : Nat} {w : Jvm.Cond} (h : mm_lw mi z w = true) : w ∈ pg_ws := by
  unfold mm_lw at h
  split at h
  · simp at h
  · rw [Bool.and_eq_true] at h
    exact List.mem_filter.mpr ⟨List.mem_of_getElem? (of_decide_eq_true h.1), h.2⟩
/-- field b of kind a of the list, by this constant of the pool -/
def mm_fl (mi z a b : Nat) : Bool := match vwCl[a]? with
  | none => false
  | some (Cn, T, N) => Nat.blt b N && (decide ((T b).1 = Cn) && mm_lw mi z (.fieldLink (pg_yn mi).cls z Cn (T b).2.1 (T b).2.2.1))
def mm_fk (f : Nat) (ty : Option FieldType) : Bool := match ty with
  | some .int => Nat.beq f 0
  | some (.object _) => Nat.beq f 1
  | some (.array _) => Nat.beq f 1
  | _ => false
def mm_fp (mi z a b f : Nat) : Bool := match vwCl[a]? with
  | none => false
  | some (Cn, T, N) => Nat.blt b N && (decide ((T b).1 = Cn) && (mm_lw mi z (.fieldLink (pg_yn mi).cls z Cn (T b).2.1 (T b).2.2.1) && (mm_fk f (parseFieldDescriptor (T b).2.2.1) && (decide ((T b).2.2.2 = false) || (decide ((T b).2.2.2 = true) && (decide ((pg_yn mi).name = "<init>") && decide ((T b).1 = (pg_yn mi).cls)))))))
/-- the keys and targets of a table switch, one behind the other from key j on -/
def mm_tabk (pc : Int) : Int → List Int → List (Int32 × Nat) → Bool
  | _, [], [] => true
  | j, o :: os, (k, t) :: ks => decide (k.toInt = j) && (decide (pc + o = (t : Int)) && mm_tabk pc (j + 1) os ks)
  | _, _, _ => false
def mm_tab (pc d lo hi : Int) (offs : List Int) (a : Int) (ks : List (Int32 × Nat)) : Bool := decide (pc + d = a) && (decide (hi = lo + (offs.length : Int) - 1) && mm_tabk pc lo offs ks)
def mm_lkk (pc : Int) : List (Int × Int) → List (Int32 × Nat) → Bool
  | [], [] => true
  | (v, o) :: os, (k, t) :: ks => decide (k.toInt = v) && (decide (pc + o = (t : Int)) && mm_lkk pc os ks)
  | _, _ => false
def mm_lku (pc d : Int) (ps : List (Int × Int)) (a : Int) (ks : List (Int32 × Nat)) : Bool := decide (pc + d = a) && ((ps.zip (ps.drop 1)).all (fun (a, next) => a.1 < next.1) && mm_lkk pc ps ks)
def mm_par (y : MethodName) : Option Nat := (parseMethodDescriptor y.desc).map (fun d => d.parameters.length)
def mm_plain (y : MethodName) : Bool := decide (y.cls ≠ "java/lang/invoke/MethodHandle") && decide (y.cls ≠ "java/lang/invoke/VarHandle")
def mm_nm (a : Nat) (C : String) : Bool := match vwCl[a]? with
  | none => false
  | some (Cn, _, _) => decide (Cn = C)
/-- place i of the tables holds w -/
def mm_wi (i : Nat) (w : Jvm.Cond) : Bool := decide (lw_tbl[i]? = some w) && goodWord w
theorem mm_wih {i : Nat} {w : Jvm.Cond} (h : mm_wi i w = true) : w ∈ pg_ws := by
  unfold mm_wi at h
  rw [Bool.and_eq_true] at h
  exact List.mem_filter.mpr ⟨List.mem_of_getElem? (of_decide_eq_true h.1), h.2⟩
/-- what the tables say of a method that is called -/
def mm_kok (a : Nat) : Bool := match pg_kd a with
  | 0 => mm_wi ((pg_ki a).getD 0 0) (.static (pg_yn a)) && (mm_wi ((pg_ki a).getD 1 0) (.initialized (pg_yn a).cls) && (mm_wi ((pg_ki a).getD 2 0) (pg_d a) && (mm_plain (pg_yn a) && Nat.ble (pg_n a) 40)))
  | 1 => mm_wi ((pg_ki a).getD 0 0) (.instanceMethod (pg_yn a)) && (mm_wi ((pg_ki a).getD 1 0) (.selects (pg_yn a).cls (pg_yn a) (pg_yn a)) && (mm_wi ((pg_ki a).getD 2 0) (.initialized (pg_yn a).cls) && (mm_wi ((pg_ki a).getD 3 0) (pg_d a) && (mm_plain (pg_yn a) && (Nat.ble (pg_n a) 40 && mm_nm (pg_o a) (pg_yn a).cls)))))
  | 2 => mm_wi ((pg_ki a).getD 0 0) (.instanceMethod (pg_yn a)) && (mm_wi ((pg_ki a).getD 1 0) (.initialized (pg_yn a).cls) && (mm_wi ((pg_ki a).getD 2 0) (pg_d a) && (mm_plain (pg_yn a) && (Nat.ble (pg_n a) 40 && (decide ((pg_yn a).name = "<init>") && (decide (pg_hh a = []) && decide (pg_r a = none)))))))
  | _ => true
/-- a static call; with the mark 1: System.arraycopy -/
def mm_is0 (mi z a b f : Nat) : Bool := match f with
  | 0 => mm_lw mi z (.methodLink (pg_yn mi).cls z (pg_yn a)) && (Nat.beq (pg_kd a) 0 && decide (mm_par (pg_yn a) = some b))
  | _ => mm_lw mi z (.methodLink (pg_yn mi).cls z arraycopyName)
theorem mm_acp : Jvm.Cond.native arraycopyName ∈ pg_ws ∧ Jvm.Cond.static arraycopyName ∈ pg_ws ∧ Jvm.Cond.initialized "java/lang/System" ∈ pg_ws :=
  ⟨mm_wih (i := pg_ai.getD 0 0) (by decide +kernel), mm_wih (i := pg_ai.getD 1 0) (by decide +kernel), mm_wih (i := pg_ai.getD 2 0) (by decide +kernel)⟩
def mm_iv0 (mi z a b : Nat) : Bool := mm_lw mi z (.methodLink (pg_yn mi).cls z (pg_yn a)) && (Nat.beq (pg_kd a) 1 && decide ((mm_par (pg_yn a)).map (· + 1) = some b))
/-- a constructor; with the mark 1: that of Object -/
def mm_ii0 (mi z a b f : Nat) : Bool := match f with
  | 0 => mm_lw mi z (.methodLink (pg_yn mi).cls z (pg_yn a)) && (Nat.beq (pg_kd a) 2 && decide ((mm_par (pg_yn a)).map (· + 1) = some b))
  | _ => mm_lw mi z (.methodLink (pg_yn mi).cls z objectInit)
theorem mm_obi : Jvm.Cond.instanceMethod objectInit ∈ pg_ws ∧ Jvm.Cond.code objectInit ⟨#[0xb1]⟩ 1 none ∈ pg_ws :=
  ⟨mm_wih (i := pg_ai.getD 3 0) (by decide +kernel), mm_wih (i := pg_ai.getD 4 0) (by decide +kernel)⟩
def mm_tyOf (a : Nat) : FieldType := match a with
  | 0 => .int
  | 1 => .long
  | 2 => .byte
  | _ => .boolean
def mm_nwa (t : ArrayType) (a b : Nat) (c : Int32) : Bool := decide (newarray.typeOf t = mm_tyOf a) && (Nat.blt a 4 && (mm_in (.arrayClass (mm_tyOf a)) && (decide (¬ c < 0) && (decide (c.toNatClampNeg = b) && decide (b * componentBytes (mm_tyOf a) ≤ 536870912)))))
/-- where an exception is thrown: five instructions as one -/
def mm_thr (mi pc z a : Nat) : Bool := match pg_th mi pc with
  | none => false
  | some (is, ic, tx) => decide (decode (pg_b mi) (pc + 3) = .ok (.dup, 1)) && (decide (decode (pg_b mi) (pc + 4) = .ok (.ldc is, 2)) && (decide (decode (pg_b mi) (pc + 6) = .ok (.invokespecial ic, 3)) && (decide (decode (pg_b mi) (pc + 9) = .ok (.athrow, 1)) && (mm_lw mi z (.classLink (pg_yn mi).cls z (pg_x a)) && (mm_in (.initialized (pg_x a)) && (decide (pg_hh mi = []) && (decide ((pg_yn mi).cls = "MovingHeap") && (Nat.beq ic 31 && Nat.beq a 0 || (Nat.beq ic 46 && Nat.beq a 1 || Nat.beq ic 84 && Nat.beq a 2)))))))))
def mm_nw (mi pc z a b f : Nat) : Bool := match f with
  | 0 => match vwCl[a]? with
    | none => false
    | some (Cn, _, N) => Nat.beq b N && (mm_lw mi z (.classLink (pg_yn mi).cls z Cn) && (mm_in (.instantiable Cn N) && mm_in (.initialized Cn)))
  | _ => mm_thr mi pc z a
/-- a row of the table is right: its bytes, its length, its numbers, its links -/
def mm_fact (mi : Nat) (q : mm_I) : Bool := match q with
  | (pc, i, nx, a, b, f, c, cl) => decide (decode (pg_b mi) pc = .ok (i, nx - pc)) && match i with
    | .iconst z => Nat.beq nx (pc + 1) && decide (Int32.ofInt z = c)
    | .bipush z => Nat.beq nx (pc + 2) && decide ((Int8.ofInt z).toInt32 = c)
    | .sipush z => Nat.beq nx (pc + 3) && decide ((Int16.ofInt z).toInt32 = c)
    | .lconst z => Nat.beq nx (pc + 1) && decide (Int64.ofNat (z : Nat) = cl)
    | .ldc z => Nat.beq nx (pc + 2) && mm_lw mi z (.constant (pg_yn mi).cls z c)
    | .ldc2_w z => Nat.beq nx (pc + 3) && mm_lw mi z (.constantLong (pg_yn mi).cls z cl)
    | .iload_n _ => Nat.beq nx (pc + 1)
    | .lload_n _ => Nat.beq nx (pc + 1)
    | .aload_n _ => Nat.beq nx (pc + 1)
    | .iload _ => Nat.beq nx (pc + 2)
    | .lload _ => Nat.beq nx (pc + 2)
    | .aload _ => Nat.beq nx (pc + 2)
    | .istore_n z => Nat.beq nx (pc + 1) && Nat.blt z.val (pg_n mi)
    | .astore_n z => Nat.beq nx (pc + 1) && Nat.blt z.val (pg_n mi)
    | .lstore_n z => Nat.beq nx (pc + 1) && Nat.blt (z.val + 1) (pg_n mi)
    | .istore z => Nat.beq nx (pc + 2) && Nat.blt z (pg_n mi)
    | .astore z => Nat.beq nx (pc + 2) && Nat.blt z (pg_n mi)
    | .lstore z => Nat.beq nx (pc + 2) && Nat.blt (z + 1) (pg_n mi)
    | .iinc z y => Nat.beq nx (pc + 3) && (Nat.blt z (pg_n mi) && decide (Int32.ofInt y = c))
    | .getfield z => Nat.beq nx (pc + 3) && mm_fl mi z a b
    | .putfield z => Nat.beq nx (pc + 3) && mm_fp mi z a b f
    | .goto z => Nat.beq nx (pc + 3) && decide ((pc : Int) + z = (a : Int))
    | .ifCond _ z => Nat.beq nx (pc + 3) && decide ((pc : Int) + z = (a : Int))
    | .if_icmp _ z => Nat.beq nx (pc + 3) && decide ((pc : Int) + z = (a : Int))
    | .tableswitch d lo hi offs => mm_tab (pc : Int) d lo hi offs.toList (a : Int) (pg_s mi pc)
    | .lookupswitch d ps => mm_lku (pc : Int) d ps.toList (a : Int) (pg_s mi pc)
    | .newarray t => Nat.beq nx (pc + 2) && mm_nwa t a b c
    | .new z => Nat.beq nx (pc + 3) && mm_nw mi pc z a b f
    | .invokestatic z => Nat.beq nx (pc + 3) && mm_is0 mi z a b f
    | .invokevirtual z => Nat.beq nx (pc + 3) && mm_iv0 mi z a b
    | .invokespecial z => Nat.beq nx (pc + 3) && mm_ii0 mi z a b f
    | .ireturn => Nat.beq nx (pc + 1) && decide (pg_r mi = match a with | 0 => some .int | _ => some .boolean)
    | .lreturn => Nat.beq nx (pc + 1) && decide (pg_r mi = some .long)
    | .return_ => Nat.beq nx (pc + 1) && decide (pg_r mi = none)
    | _ => Nat.beq nx (pc + 1)
