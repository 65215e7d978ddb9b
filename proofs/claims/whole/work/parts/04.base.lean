/-! what the rows of the mini machine stand on -/
def mm_ty (tc : Nat → ClassId) : List (ClassId × FieldType) := [(tc 0, .int), (tc 1, .long), (tc 2, .byte), (tc 3, .boolean)]
/-- a word is among those of the tables, and holds on in every later state -/
def mm_in (w : Jvm.Cond) : Bool := decide (w ∈ lw_tbl) && goodWord w
/-- the word of entry z of the pool of method mi's owner -/
def mm_lw (mi z : Nat) (w : Jvm.Cond) : Bool := match pg_lif (pg_cu mi) z pg_li with
  | none => false
  | some i => decide (lw_tbl[i]? = some w) && goodWord w
theorem mm_lwh {mi z : Nat} {w : Jvm.Cond} (h : mm_lw mi z w = true) : w ∈ pg_ws := by
  unfold mm_lw at h
  split at h
  · simp at h
  · rw [Bool.and_eq_true] at h
    exact List.mem_filter.mpr ⟨List.mem_of_getElem? (of_decide_eq_true h.1), h.2⟩
/-- field b of kind a of the list, by this constant of the pool -/
def mm_fl (mi z a b : Nat) : Bool := match vwCl[a]? with
  | none => false
  | some (Cn, T, N) => Nat.blt b N && (decide ((T b).1 = Cn) && mm_lw mi z (.fieldLink (pg_yn mi).cls z Cn (T b).2.1 (T b).2.2.1))
def mm_fk (f : Nat) (ty : Option FieldType) : Bool := match ty with
  | some .int => Nat.beq f 0
  | some (.object _) => Nat.beq f 1
  | some (.array _) => Nat.beq f 1
  | _ => false
def mm_fp (mi z a b f : Nat) : Bool := match vwCl[a]? with
  | none => false
  | some (Cn, T, N) => Nat.blt b N && (decide ((T b).1 = Cn) && (mm_lw mi z (.fieldLink (pg_yn mi).cls z Cn (T b).2.1 (T b).2.2.1) && (mm_fk f (parseFieldDescriptor (T b).2.2.1) && (decide ((T b).2.2.2 = false) || (decide ((T b).2.2.2 = true) && (decide ((pg_yn mi).name = "<init>") && decide ((T b).1 = (pg_yn mi).cls)))))))
/-- the keys and targets of a table switch, one behind the other from key j on -/
def mm_tabk (pc : Int) : Int → List Int → List (Int32 × Nat) → Bool
  | _, [], [] => true
  | j, o :: os, (k, t) :: ks => decide (k.toInt = j) && (decide (pc + o = (t : Int)) && mm_tabk pc (j + 1) os ks)
  | _, _, _ => false
def mm_tab (pc d lo hi : Int) (offs : List Int) (a : Int) (ks : List (Int32 × Nat)) : Bool := decide (pc + d = a) && (decide (hi = lo + (offs.length : Int) - 1) && mm_tabk pc lo offs ks)
def mm_lkk (pc : Int) : List (Int × Int) → List (Int32 × Nat) → Bool
  | [], [] => true
  | (v, o) :: os, (k, t) :: ks => decide (k.toInt = v) && (decide (pc + o = (t : Int)) && mm_lkk pc os ks)
  | _, _ => false
def mm_lku (pc d : Int) (ps : List (Int × Int)) (a : Int) (ks : List (Int32 × Nat)) : Bool := decide (pc + d = a) && ((ps.zip (ps.drop 1)).all (fun (a, next) => a.1 < next.1) && mm_lkk pc ps ks)
def mm_par (y : MethodName) : Option Nat := (parseMethodDescriptor y.desc).map (fun d => d.parameters.length)
def mm_plain (y : MethodName) : Bool := decide (y.cls ≠ "java/lang/invoke/MethodHandle") && decide (y.cls ≠ "java/lang/invoke/VarHandle")
def mm_nm (a : Nat) (C : String) : Bool := match vwCl[a]? with
  | none => false
  | some (Cn, _, _) => decide (Cn = C)
/-- place i of the tables holds w -/
def mm_wi (i : Nat) (w : Jvm.Cond) : Bool := decide (lw_tbl[i]? = some w) && goodWord w
theorem mm_wih {i : Nat} {w : Jvm.Cond} (h : mm_wi i w = true) : w ∈ pg_ws := by
  unfold mm_wi at h
  rw [Bool.and_eq_true] at h
  exact List.mem_filter.mpr ⟨List.mem_of_getElem? (of_decide_eq_true h.1), h.2⟩
/-- what the tables say of a method that is called -/
def mm_kok (a : Nat) : Bool := match pg_kd a with
  | 0 => mm_wi ((pg_ki a).getD 0 0) (.static (pg_yn a)) && (mm_wi ((pg_ki a).getD 1 0) (.initialized (pg_yn a).cls) && (mm_wi ((pg_ki a).getD 2 0) (pg_d a) && (mm_plain (pg_yn a) && Nat.ble (pg_n a) 40)))
  | 1 => mm_wi ((pg_ki a).getD 0 0) (.instanceMethod (pg_yn a)) && (mm_wi ((pg_ki a).getD 1 0) (.selects (pg_yn a).cls (pg_yn a) (pg_yn a)) && (mm_wi ((pg_ki a).getD 2 0) (.initialized (pg_yn a).cls) && (mm_wi ((pg_ki a).getD 3 0) (pg_d a) && (mm_plain (pg_yn a) && (Nat.ble (pg_n a) 40 && mm_nm (pg_o a) (pg_yn a).cls)))))
  | 2 => mm_wi ((pg_ki a).getD 0 0) (.instanceMethod (pg_yn a)) && (mm_wi ((pg_ki a).getD 1 0) (.initialized (pg_yn a).cls) && (mm_wi ((pg_ki a).getD 2 0) (pg_d a) && (mm_plain (pg_yn a) && (Nat.ble (pg_n a) 40 && (decide ((pg_yn a).name = "<init>") && (decide (pg_hh a = []) && decide (pg_r a = none)))))))
  | _ => true
/-- a static call; with the mark 1: System.arraycopy -/
def mm_is0 (mi z a b f : Nat) : Bool := match f with
  | 0 => mm_lw mi z (.methodLink (pg_yn mi).cls z (pg_yn a)) && (Nat.beq (pg_kd a) 0 && decide (mm_par (pg_yn a) = some b))
  | _ => mm_lw mi z (.methodLink (pg_yn mi).cls z arraycopyName)
theorem mm_acp : Jvm.Cond.native arraycopyName ∈ pg_ws ∧ Jvm.Cond.static arraycopyName ∈ pg_ws ∧ Jvm.Cond.initialized "java/lang/System" ∈ pg_ws :=
  ⟨mm_wih (i := pg_ai.getD 0 0) (by decide +kernel), mm_wih (i := pg_ai.getD 1 0) (by decide +kernel), mm_wih (i := pg_ai.getD 2 0) (by decide +kernel)⟩
def mm_iv0 (mi z a b : Nat) : Bool := mm_lw mi z (.methodLink (pg_yn mi).cls z (pg_yn a)) && (Nat.beq (pg_kd a) 1 && decide ((mm_par (pg_yn a)).map (· + 1) = some b))
/-- a constructor; with the mark 1: that of Object -/
def mm_ii0 (mi z a b f : Nat) : Bool := match f with
  | 0 => mm_lw mi z (.methodLink (pg_yn mi).cls z (pg_yn a)) && (Nat.beq (pg_kd a) 2 && decide ((mm_par (pg_yn a)).map (· + 1) = some b))
  | _ => mm_lw mi z (.methodLink (pg_yn mi).cls z objectInit)
theorem mm_obi : Jvm.Cond.instanceMethod objectInit ∈ pg_ws ∧ Jvm.Cond.code objectInit ⟨#[0xb1]⟩ 1 none ∈ pg_ws :=
  ⟨mm_wih (i := pg_ai.getD 3 0) (by decide +kernel), mm_wih (i := pg_ai.getD 4 0) (by decide +kernel)⟩
def mm_tyOf (a : Nat) : FieldType := match a with
  | 0 => .int
  | 1 => .long
  | 2 => .byte
  | _ => .boolean
def mm_nwa (t : ArrayType) (a b : Nat) (c : Int32) : Bool := decide (newarray.typeOf t = mm_tyOf a) && (Nat.blt a 4 && (mm_in (.arrayClass (mm_tyOf a)) && (decide (¬ c < 0) && (decide (c.toNatClampNeg = b) && decide (b * componentBytes (mm_tyOf a) ≤ 536870912)))))
/-- where an exception is thrown: five instructions as one -/
def mm_thr (mi pc z a : Nat) : Bool := match pg_th mi pc with
  | none => false
  | some (is, ic, tx) => decide (decode (pg_b mi) (pc + 3) = .ok (.dup, 1)) && (decide (decode (pg_b mi) (pc + 4) = .ok (.ldc is, 2)) && (decide (decode (pg_b mi) (pc + 6) = .ok (.invokespecial ic, 3)) && (decide (decode (pg_b mi) (pc + 9) = .ok (.athrow, 1)) && (mm_lw mi z (.classLink (pg_yn mi).cls z (pg_x a)) && (mm_in (.initialized (pg_x a)) && (decide (pg_hh mi = []) && (decide ((pg_yn mi).cls = "MovingHeap") && (Nat.beq ic 31 && Nat.beq a 0 || (Nat.beq ic 46 && Nat.beq a 1 || Nat.beq ic 84 && Nat.beq a 2)))))))))
def mm_nw (mi pc z a b f : Nat) : Bool := match f with
  | 0 => match vwCl[a]? with
    | none => false
    | some (Cn, _, N) => Nat.beq b N && (mm_lw mi z (.classLink (pg_yn mi).cls z Cn) && (mm_in (.instantiable Cn N) && mm_in (.initialized Cn)))
  | _ => mm_thr mi pc z a
/-- a row of the table is right: its bytes, its length, its numbers, its links -/
def mm_fact (mi : Nat) (q : mm_I) : Bool := match q with
  | (pc, i, nx, a, b, f, c, cl) => decide (decode (pg_b mi) pc = .ok (i, nx - pc)) && match i with
    | .iconst z => Nat.beq nx (pc + 1) && decide (Int32.ofInt z = c)
    | .bipush z => Nat.beq nx (pc + 2) && decide ((Int8.ofInt z).toInt32 = c)
    | .sipush z => Nat.beq nx (pc + 3) && decide ((Int16.ofInt z).toInt32 = c)
    | .lconst z => Nat.beq nx (pc + 1) && decide (Int64.ofNat (z : Nat) = cl)
    | .ldc z => Nat.beq nx (pc + 2) && mm_lw mi z (.constant (pg_yn mi).cls z c)
    | .ldc2_w z => Nat.beq nx (pc + 3) && mm_lw mi z (.constantLong (pg_yn mi).cls z cl)
    | .iload_n _ => Nat.beq nx (pc + 1)
    | .lload_n _ => Nat.beq nx (pc + 1)
    | .aload_n _ => Nat.beq nx (pc + 1)
    | .iload _ => Nat.beq nx (pc + 2)
    | .lload _ => Nat.beq nx (pc + 2)
    | .aload _ => Nat.beq nx (pc + 2)
    | .istore_n z => Nat.beq nx (pc + 1) && Nat.blt z.val (pg_n mi)
    | .astore_n z => Nat.beq nx (pc + 1) && Nat.blt z.val (pg_n mi)
    | .lstore_n z => Nat.beq nx (pc + 1) && Nat.blt (z.val + 1) (pg_n mi)
    | .istore z => Nat.beq nx (pc + 2) && Nat.blt z (pg_n mi)
    | .astore z => Nat.beq nx (pc + 2) && Nat.blt z (pg_n mi)
    | .lstore z => Nat.beq nx (pc + 2) && Nat.blt (z + 1) (pg_n mi)
    | .iinc z y => Nat.beq nx (pc + 3) && (Nat.blt z (pg_n mi) && decide (Int32.ofInt y = c))
    | .getfield z => Nat.beq nx (pc + 3) && mm_fl mi z a b
    | .putfield z => Nat.beq nx (pc + 3) && mm_fp mi z a b f
    | .goto z => Nat.beq nx (pc + 3) && decide ((pc : Int) + z = (a : Int))
    | .ifCond _ z => Nat.beq nx (pc + 3) && decide ((pc : Int) + z = (a : Int))
    | .if_icmp _ z => Nat.beq nx (pc + 3) && decide ((pc : Int) + z = (a : Int))
    | .tableswitch d lo hi offs => mm_tab (pc : Int) d lo hi offs.toList (a : Int) (pg_s mi pc)
    | .lookupswitch d ps => mm_lku (pc : Int) d ps.toList (a : Int) (pg_s mi pc)
    | .newarray t => Nat.beq nx (pc + 2) && mm_nwa t a b c
    | .new z => Nat.beq nx (pc + 3) && mm_nw mi pc z a b f
    | .invokestatic z => Nat.beq nx (pc + 3) && mm_is0 mi z a b f
    | .invokevirtual z => Nat.beq nx (pc + 3) && mm_iv0 mi z a b
    | .invokespecial z => Nat.beq nx (pc + 3) && mm_ii0 mi z a b f
    | .ireturn => Nat.beq nx (pc + 1) && decide (pg_r mi = match a with | 0 => some .int | _ => some .boolean)
    | .lreturn => Nat.beq nx (pc + 1) && decide (pg_r mi = some .long)
    | .return_ => Nat.beq nx (pc + 1) && decide (pg_r mi = none)
    | _ => Nat.beq nx (pc + 1)
theorem mm_and {a b : Bool} (h : (a && b) = true) : a = true ∧ b = true := by
  rw [Bool.and_eq_true] at h
  exact h
theorem mm_beq {a b : Nat} (h : Nat.beq a b = true) : a = b := Nat.eq_of_beq_eq_true h
theorem mm_ble {a b : Nat} (h : Nat.ble a b = true) : a ≤ b := Nat.le_of_ble_eq_true h
theorem mm_blt {a b : Nat} (h : Nat.blt a b = true) : a < b := Nat.le_of_ble_eq_true h
theorem mm_d1 {cc : ByteArray} {pc nx n : Nat} {i : Instr} (h : (decide (decode cc pc = .ok (i, nx - pc)) && Nat.beq nx (pc + n)) = true) : nx = pc + n ∧ decode cc pc = .ok (i, n) := by
  obtain ⟨h1, h2⟩ := mm_and h
  have h2 := mm_beq h2
  have h1 := of_decide_eq_true h1
  subst h2
  rw [Nat.add_sub_cancel_left] at h1
  exact ⟨rfl, h1⟩
theorem mm_d2 {cc : ByteArray} {pc nx n : Nat} {i : Instr} {x : Bool} (h : (decide (decode cc pc = .ok (i, nx - pc)) && (Nat.beq nx (pc + n) && x)) = true) : nx = pc + n ∧ decode cc pc = .ok (i, n) ∧ x = true := by
  obtain ⟨h1, h2⟩ := mm_and h
  obtain ⟨h2, h3⟩ := mm_and h2
  have h2 := mm_beq h2
  have h1 := of_decide_eq_true h1
  subst h2
  rw [Nat.add_sub_cancel_left] at h1
  exact ⟨rfl, h1, h3⟩
theorem mm_cat {ad : Nat → Nat} {v : Value} {n : Nat} (h : v.category = n) : (mm_v ad v).category = n := by
  rw [← h]
  cases v <;> rfl
theorem mm_lkm : ∀ {lv : mm_L} {i : Nat} {v : Value}, mm_lk lv i = some v → (i, v) ∈ lv := by
  intro lv
  induction lv with
  | nil => intro i v h; simp [mm_lk] at h
  | cons q r ih =>
    intro i v h
    unfold mm_lk at h
    split at h
    · next hq =>
      have hq := mm_beq hq
      cases h
      subst hq
      exact List.mem_cons_self
    · exact List.mem_cons_of_mem _ (ih h)
theorem mm_lkh {ad : Nat → Nat} {ls : Array Slot} {n i : Nat} {lv : mm_L} {v : Value} (hl : lv_has ls n (mm_l ad lv)) (h : mm_lk lv i = some v) : ls[i]? = some (.val (mm_v ad v)) :=
  hl.2.2 (i, mm_v ad v) (List.mem_map.mpr ⟨(i, v), mm_lkm h, rfl⟩)
theorem mm_lkp {ad : Nat → Nat} {i : Nat} {lv : mm_L} {v : Value} (h : mm_lk lv i = some v) : ∃ j : Nat, (mm_l ad lv)[j]? = some (i, mm_v ad v) :=
  List.getElem?_of_mem (List.mem_map.mpr ⟨(i, v), mm_lkm h, rfl⟩)
theorem mm_insm {x q : Nat × Value} : ∀ {l : mm_L}, q ∈ mm_ins x l → q = x ∨ q ∈ l := by
  intro l
  induction l with
  | nil => intro h; exact Or.inl (List.mem_singleton.mp h)
  | cons y r ih =>
    intro h
    unfold mm_ins at h
    split at h
    · rcases List.mem_cons.mp h with h | h
      · exact Or.inl h
      · exact Or.inr h
    · rcases List.mem_cons.mp h with h | h
      · exact Or.inr (h ▸ List.mem_cons_self)
      · rcases ih h with h | h
        · exact Or.inl h
        · exact Or.inr (List.mem_cons_of_mem _ h)
theorem mm_catv (ad : Nat → Nat) (v : Value) : (mm_v ad v).category = v.category := by
  cases v <;> rfl
theorem mm_s1h {ad : Nat → Nat} {ls : Array Slot} {n i : Nat} {lv : mm_L} {v : Value} (h : lv_has ls n ((i, mm_v ad v) :: (mm_l ad lv).filter (fun q => !(q.1 == i) && !(q.1 + 1 == i && q.2.category == 2)))) : lv_has ls n (mm_l ad (mm_s1 lv i v)) := by
  refine ⟨h.1, h.2.1, fun q hq => h.2.2 q ?_⟩
  obtain ⟨y, hy, rfl⟩ := List.mem_map.mp hq
  rcases mm_insm hy with rfl | hy
  · exact List.mem_cons_self
  · obtain ⟨h1, h2⟩ := List.mem_filter.mp hy
    refine List.mem_cons_of_mem _ (List.mem_filter.mpr ⟨List.mem_map.mpr ⟨y, h1, rfl⟩, ?_⟩)
    rw [mm_catv]
    exact h2
theorem mm_s2h {ad : Nat → Nat} {ls : Array Slot} {n i : Nat} {lv : mm_L} {v : Value} (h : lv_has ls n ((i, mm_v ad v) :: (mm_l ad lv).filter (fun q => !(q.1 == i) && (!(q.1 == i + 1) && !(q.1 + 1 == i && q.2.category == 2))))) : lv_has ls n (mm_l ad (mm_s2 lv i v)) := by
  refine ⟨h.1, h.2.1, fun q hq => h.2.2 q ?_⟩
  obtain ⟨y, hy, rfl⟩ := List.mem_map.mp hq
  rcases mm_insm hy with rfl | hy
  · exact List.mem_cons_self
  · obtain ⟨h1, h2⟩ := List.mem_filter.mp hy
    refine List.mem_cons_of_mem _ (List.mem_filter.mpr ⟨List.mem_map.mpr ⟨y, h1, rfl⟩, ?_⟩)
    rw [mm_catv]
    exact h2
theorem mm_fm : ∀ {w : mm_W} {k j : Nat} {x : mm_E}, mm_f w k = some (j, x) → w[j]? = some (k, x) := by
  intro w
  induction w with
  | nil => intro k j x h; simp [mm_f] at h
  | cons q r ih =>
    intro k j x h
    unfold mm_f at h
    split at h
    · next hq =>
      have hq := mm_beq hq
      simp only [Option.some.injEq, Prod.mk.injEq] at h
      obtain ⟨rfl, rfl⟩ := h
      subst hq
      rfl
    · split at h
      · simp at h
      · next y hy =>
        simp only [Option.some.injEq, Prod.mk.injEq] at h
        obtain ⟨rfl, rfl⟩ := h
        rw [List.getElem?_cons_succ]
        exact ih (by rw [hy])
theorem mm_um : ∀ {w : mm_W} {k j : Nat} {x y : mm_E}, mm_f w k = some (j, x) → mm_u w k y = w.set j (k, y) := by
  intro w
  induction w with
  | nil => intro k j x y h; simp [mm_f] at h
  | cons q r ih =>
    intro k j x y h
    unfold mm_f at h
    unfold mm_u
    split at h
    · simp only [Option.some.injEq, Prod.mk.injEq] at h
      obtain ⟨rfl, rfl⟩ := h
      rfl
    · split at h
      · simp at h
      · rename_i z hz
        simp only [Option.some.injEq, Prod.mk.injEq] at h
        obtain ⟨rfl, rfl⟩ := h
        rw [List.set_cons_succ, ← ih (x := z.2) (y := y) (by rw [hz])]
theorem mm_fh {tc : Nat → ClassId} {ad : Nat → Nat} {w : mm_W} {k j : Nat} {x : mm_E} (h : mm_f w k = some (j, x)) : (mm_w tc ad w)[j]? = some (ad k, mm_e tc ad x) := by
  unfold mm_w
  rw [List.getElem?_map, mm_fm h]
  rfl
theorem mm_uh {tc : Nat → ClassId} {ad : Nat → Nat} {w : mm_W} {k j : Nat} {x y : mm_E} (h : mm_f w k = some (j, x)) : mm_w tc ad (mm_u w k y) = (mm_w tc ad w).set j (ad k, mm_e tc ad y) := by
  rw [mm_um h]
  unfold mm_w
  rw [List.map_set]
theorem mm_uP {D : va_G} {tc : Nat → ClassId} {ad : Nat → Nat} {w : mm_W} {k j : Nat} {x y : mm_E} {z : va_E} {H : Heap} (hz : mm_e tc ad y = z) (h : mm_f w k = some (j, x)) (hP : va_P D vwCl ((mm_w tc ad w).set j (ad k, z)) H) : va_P D vwCl (mm_w tc ad (mm_u w k y)) H := by
  rw [mm_uh h, hz]
  exact hP
theorem mm_uD {A : Nat → Prop} {tc : Nat → ClassId} {ad : Nat → Nat} {w : mm_W} {k j : Nat} {x y : mm_E} {z : va_E} (hz : mm_e tc ad y = z) (h : mm_f w k = some (j, x)) (hD : va_D A ((mm_w tc ad w).set j (ad k, z))) : va_D A (mm_w tc ad (mm_u w k y)) := by
  rw [mm_uh h, hz]
  exact hD
theorem mm_ul : ∀ (w : mm_W) (k : Nat) (y : mm_E), (mm_u w k y).length = w.length := by
  intro w
  induction w with
  | nil => intro k y; rfl
  | cons q r ih =>
    intro k y
    unfold mm_u
    split
    · rfl
    · rw [List.length_cons, List.length_cons, ih]
theorem mm_uX {X : Nat → (Nat → Nat) → Prop} {ad : Nat → Nat} {w : mm_W} {k : Nat} {y : mm_E} (h : X w.length ad) : X (mm_u w k y).length ad := by
  rw [mm_ul]
  exact h
theorem mm_set1 {tc : Nat → ClassId} {ad : Nat → Nat} {ci : Nat} (fs : List Value) (b : Nat) (v : Value) : mm_e tc ad (.inr (ci, fs.set b v)) = .inr (ci, (fs.map (mm_v ad)).set b (mm_v ad v)) := by
  unfold mm_e
  simp only [List.map_set]
theorem mm_tyh {tc : Nat → ClassId} {t : Nat} (h : t < 4) : ∃ ty, (mm_ty tc)[t]? = some (tc t, ty) := by
  match t, h with
  | 0, _ => exact ⟨_, rfl⟩
  | 1, _ => exact ⟨_, rfl⟩
  | 2, _ => exact ⟨_, rfl⟩
  | 3, _ => exact ⟨_, rfl⟩
theorem mm_flh {mi z a b : Nat} (h : mm_fl mi z a b = true) : ∃ (Cn : String) (T : u_T) (N : Nat), vwCl[a]? = some (Cn, T, N) ∧ b < N ∧ (∀ w ∈ u_ws Cn T N, w ∈ pg_ws) ∧ (T b).1 = Cn ∧ Jvm.Cond.fieldLink (pg_yn mi).cls z Cn (T b).2.1 (T b).2.2.1 ∈ pg_ws := by
  unfold mm_fl at h
  split at h
  · simp at h
  · next Cn T N hc =>
    obtain ⟨h1, h2⟩ := mm_and h
    obtain ⟨h2, h3⟩ := mm_and h2
    exact ⟨Cn, T, N, hc, mm_blt h1, pg_cw _ _ _ _ hc, of_decide_eq_true h2, mm_lwh h3⟩
theorem mm_fkh {f : Nat} {ty : Option FieldType} (h : mm_fk f ty = true) : ∃ t, ty = some t ∧ (f = 0 → ∀ x : Int32, narrow t (.int x) = .int x ∧ fits t (.int x) = true) ∧ (f = 1 → ∀ x : Nat, narrow t (.ref x) = .ref x ∧ fits t (.ref x) = true) := by
  unfold mm_fk at h
  split at h
  · have h := mm_beq h
    exact ⟨_, rfl, fun _ _ => ⟨rfl, rfl⟩, fun h1 => by rw [h] at h1; exact absurd h1 (by decide)⟩
  · have h := mm_beq h
    exact ⟨_, rfl, fun h1 => by rw [h] at h1; exact absurd h1 (by decide), fun _ _ => ⟨rfl, rfl⟩⟩
  · have h := mm_beq h
    exact ⟨_, rfl, fun h1 => by rw [h] at h1; exact absurd h1 (by decide), fun _ _ => ⟨rfl, rfl⟩⟩
  · simp at h
theorem mm_fph {mi z a b f : Nat} (h : mm_fp mi z a b f = true) : ∃ (Cn : String) (T : u_T) (N : Nat) (ty0 : Nat → FieldType) (ty : FieldType), vwCl[a]? = some (Cn, T, N) ∧ b < N ∧ (∀ w ∈ u_ws Cn T N, w ∈ pg_ws) ∧ (T b).1 = Cn ∧ Jvm.Cond.fieldLink (pg_yn mi).cls z Cn (T b).2.1 (T b).2.2.1 ∈ pg_ws ∧
    (∀ k, k < N → parseFieldDescriptor (T k).2.2.1 = some (ty0 k)) ∧ (∀ a, a < N → ∀ b, b < N → a ≠ b → (T a).2.1 ≠ (T b).2.1) ∧ parseFieldDescriptor (T b).2.2.1 = some ty ∧ ((T b).2.2.2 = false ∨ ((T b).2.2.2 = true ∧ (pg_yn mi).name = "<init>" ∧ (T b).1 = (pg_yn mi).cls)) ∧
    (f = 0 → ∀ x : Int32, narrow ty (.int x) = .int x ∧ fits ty (.int x) = true) ∧ (f = 1 → ∀ x : Nat, narrow ty (.ref x) = .ref x ∧ fits ty (.ref x) = true) := by
  unfold mm_fp at h
  split at h
  · simp at h
  · next Cn T N hc =>
    obtain ⟨h1, h2⟩ := mm_and h
    obtain ⟨h2, h3⟩ := mm_and h2
    obtain ⟨h3, h4⟩ := mm_and h3
    obtain ⟨h4, h5⟩ := mm_and h4
    obtain ⟨ty, e1, e2, e3⟩ := mm_fkh h4
    obtain ⟨ty0, f1, f2⟩ := pg_ct _ _ _ _ hc
    refine ⟨Cn, T, N, ty0, ty, hc, mm_blt h1, pg_cw _ _ _ _ hc, of_decide_eq_true h2, mm_lwh h3, f1, f2, e1, ?_, e2, e3⟩
    rcases (Bool.or_eq_true _ _).mp h5 with h5 | h5
    · exact Or.inl (of_decide_eq_true h5)
    · obtain ⟨h6, h7⟩ := mm_and h5
      obtain ⟨h7, h8⟩ := mm_and h7
      exact Or.inr ⟨of_decide_eq_true h6, of_decide_eq_true h7, of_decide_eq_true h8⟩
/-- what holds in a method's body, at every row: the machine, its code, its words, the classes; what may be written; the script, where there is one -/
def mm_cx (p : Program) (R : Room) (s : State) (m : MethodId) (args : Array Value) (meth : Method) (c : Code) (D : va_G) (tc : Nat → ClassId) (A : Nat → Prop) (X : Nat → (Nat → Nat) → Prop) (scr : Option (Nat × (Nat → Int32))) (mi : Nat) : Prop :=
  p.tables.exec = Jvm.exec ∧ c.code = pg_b mi ∧ c.maxLocals = pg_n mi ∧ s.vm.findClass (pg_yn mi).cls = some m.cls ∧ (∀ w ∈ pg_w mi, w.before args s = true) ∧ va_K D vwCl (mm_ty tc) s ∧ meth.name = (pg_yn mi).name ∧ (∀ q, s.heap.size ≤ q → A q) ∧
  ∀ n xs, scr = some (n, xs) → ∃ b, va_X b n xs s s.heap ∧ b < s.heap.size ∧ ¬ A b ∧ ∀ n ad, X n ad → ad 99 = b
/-- a state of the mini machine goes through, at whatever addresses its places lie -/
def mm_MW (p : Program) (l : Launch) (e : Env) (R : Room) (s : State) (m : MethodId) (args : Array Value) (below : List Frame) (meth : Method) (c : Code) (Q : State → Prop) (D : va_G) (tc : Nat → ClassId) (A : Nat → Prop) (nL : Nat) (X : Nat → (Nat → Nat) → Prop) : mm_M := fun k1 k2 pc lv st w =>
  ∀ (ad : Nat → Nat) (H : Heap) (locs : List Loc) (ls : Array Slot), X w.length ad → va_P D vwCl (mm_w tc ad w) H → va_D A (mm_w tc ad w) → va_S A s.heap H locs → lv_has ls nL (mm_l ad lv) → W p l e R s m args below meth c H locs k1 k2 Q (F0 m pc ls (st.map (mm_v ad)))
