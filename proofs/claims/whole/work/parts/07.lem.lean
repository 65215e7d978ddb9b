theorem mm_d1 {cc : ByteArray} {pc nx n : Nat} {i : Instr} (h : (decide (decode cc pc = .ok (i, nx - pc)) && Nat.beq nx (pc + n)) = true) : nx = pc + n ∧ decode cc pc = .ok (i, n) := by
  obtain ⟨h1, h2⟩ := mm_and h
  have h2 := mm_beq h2
  have h1 := of_decide_eq_true h1
  subst h2
  rw [Nat.add_sub_cancel_left] at h1
  exact ⟨rfl, h1⟩
theorem mm_d2 {cc : ByteArray} {pc nx n : Nat} {i : Instr} {x : Bool} (h : (decide (decode cc pc = .ok (i, nx - pc)) && (Nat.beq nx (pc + n) && x)) = true) : nx = pc + n ∧ decode cc pc = .ok (i, n) ∧ x = true := by
  obtain ⟨h1, h2⟩ := mm_and h
  obtain ⟨h2, h3⟩ := mm_and h2
  have h2 := mm_beq h2
  have h1 := of_decide_eq_true h1
  subst h2
  rw [Nat.add_sub_cancel_left] at h1
  exact ⟨rfl, h1, h3⟩
theorem mm_cat {ad : Nat → Nat} {v : Value} {n : Nat} (h : v.category = n) : (mm_v ad v).category = n := by
  rw [← h]
  cases v <;> rfl
theorem mm_lkm : ∀ {lv : mm_L} {i : Nat} {v : Value}, mm_lk lv i = some v → (i, v) ∈ lv := by
  intro lv
  induction lv with
  | nil => intro i v h; simp [mm_lk] at h
  | cons q r ih =>
    intro i v h
    unfold mm_lk at h
    split at h
    · next hq =>
      have hq := mm_beq hq
      cases h
      subst hq
      exact List.mem_cons_self
    · exact List.mem_cons_of_mem _ (ih h)
theorem mm_lkh {ad : Nat → Nat} {ls : Array Slot} {n i : Nat} {lv : mm_L} {v : Value} (hl : lv_has ls n (mm_l ad lv)) (h : mm_lk lv i = some v) : ls[i]? = some (.val (mm_v ad v)) :=
  hl.2.2 (i, mm_v ad v) (List.mem_map.mpr ⟨(i, v), mm_lkm h, rfl⟩)
theorem mm_lkp {ad : Nat → Nat} {i : Nat} {lv : mm_L} {v : Value} (h : mm_lk lv i = some v) : ∃ j : Nat, (mm_l ad lv)[j]? = some (i, mm_v ad v) :=
  List.getElem?_of_mem (List.mem_map.mpr ⟨(i, v), mm_lkm h, rfl⟩)
theorem mm_insm {x q : Nat × Value} : ∀ {l : mm_L}, q ∈ mm_ins x l → q = x ∨ q ∈ l := by
  intro l
  induction l with
  | nil => intro h; exact Or.inl (List.mem_singleton.mp h)
  | cons y r ih =>
    intro h
    unfold mm_ins at h
    split at h
    · rcases List.mem_cons.mp h with h | h
      · exact Or.inl h
      · exact Or.inr h
    · rcases List.mem_cons.mp h with h | h
      · exact Or.inr (h ▸ List.mem_cons_self)
      · rcases ih h with h | h
        · exact Or.inl h
        · exact Or.inr (List.mem_cons_of_mem _ h)
theorem mm_catv (ad : Nat → Nat) (v : Value) : (mm_v ad v).category = v.category := by
  cases v <;> rfl
theorem mm_s1h {ad : Nat → Nat} {ls : Array Slot} {n i : Nat} {lv : mm_L} {v : Value} (h : lv_has ls n ((i, mm_v ad v) :: (mm_l ad lv).filter (fun q => !(q.1 == i) && !(q.1 + 1 == i && q.2.category == 2)))) : lv_has ls n (mm_l ad (mm_s1 lv i v)) := by
  refine ⟨h.1, h.2.1, fun q hq => h.2.2 q ?_⟩
  obtain ⟨y, hy, rfl⟩ := List.mem_map.mp hq
  rcases mm_insm hy with rfl | hy
  · exact List.mem_cons_self
  · obtain ⟨h1, h2⟩ := List.mem_filter.mp hy
    refine List.mem_cons_of_mem _ (List.mem_filter.mpr ⟨List.mem_map.mpr ⟨y, h1, rfl⟩, ?_⟩)
    rw [mm_catv]
    exact h2
theorem mm_s2h {ad : Nat → Nat} {ls : Array Slot} {n i : Nat} {lv : mm_L} {v : Value} (h : lv_has ls n ((i, mm_v ad v) :: (mm_l ad lv).filter (fun q => !(q.1 == i) && (!(q.1 == i + 1) && !(q.1 + 1 == i && q.2.category == 2))))) : lv_has ls n (mm_l ad (mm_s2 lv i v)) := by
  refine ⟨h.1, h.2.1, fun q hq => h.2.2 q ?_⟩
  obtain ⟨y, hy, rfl⟩ := List.mem_map.mp hq
  rcases mm_insm hy with rfl | hy
  · exact List.mem_cons_self
  · obtain ⟨h1, h2⟩ := List.mem_filter.mp hy
    refine List.mem_cons_of_mem _ (List.mem_filter.mpr ⟨List.mem_map.mpr ⟨y, h1, rfl⟩, ?_⟩)
    rw [mm_catv]
    exact h2
theorem mm_fm : ∀ {w : mm_W} {k j : Nat} {x : mm_E}, mm_f w k = some (j, x) → w[j]? = some (k, x) := by
  intro w
  induction w with
  | nil => intro k j x h; simp [mm_f] at h
  | cons q r ih =>
    intro k j x h
    unfold mm_f at h
    split at h
    · next hq =>
      have hq := mm_beq hq
      simp only [Option.some.injEq, Prod.mk.injEq] at h
      obtain ⟨rfl, rfl⟩ := h
      subst hq
      rfl
    · split at h
      · simp at h
      · next y hy =>
        simp only [Option.some.injEq, Prod.mk.injEq] at h
        obtain ⟨rfl, rfl⟩ := h
        rw [List.getElem?_cons_succ]
        exact ih (by rw [hy])
theorem mm_um : ∀ {w : mm_W} {k j : Nat} {x y : mm_E}, mm_f w k = some (j, x) → mm_u w k y = w.set j (k, y) := by
  intro w
  induction w with
  | nil => intro k j x y h; simp [mm_f] at h
  | cons q r ih =>
    intro k j x y h
    unfold mm_f at h
    unfold mm_u
    split at h
    · simp only [Option.some.injEq, Prod.mk.injEq] at h
      obtain ⟨rfl, rfl⟩ := h
      rfl
    · split at h
      · simp at h
      · rename_i z hz
        simp only [Option.some.injEq, Prod.mk.injEq] at h
        obtain ⟨rfl, rfl⟩ := h
        rw [List.set_cons_succ, ← ih (x := z.2) (y := y) (by rw [hz])]
theorem mm_fh {tc : Nat → ClassId} {ad : Nat → Nat} {w : mm_W} {k j : Nat} {x : mm_E} (h : mm_f w k = some (j, x)) : (mm_w tc ad w)[j]? = some (ad k, mm_e tc ad x) := by
  unfold mm_w
  rw [List.getElem?_map, mm_fm h]
  rfl
theorem mm_uh {tc : Nat → ClassId} {ad : Nat → Nat} {w : mm_W} {k j : Nat} {x y : mm_E} (h : mm_f w k = some (j, x)) : mm_w tc ad (mm_u w k y) = (mm_w tc ad w).set j (ad k, mm_e tc ad y) := by
  rw [mm_um h]
  unfold mm_w
  rw [List.map_set]
theorem mm_uP {D : va_G} {tc : Nat → ClassId} {ad : Nat → Nat} {w : mm_W} {k j : Nat} {x y : mm_E} {z : va_E} {H : Heap} (hz : mm_e tc ad y = z) (h : mm_f w k = some (j, x)) (hP : va_P D vwCl ((mm_w tc ad w).set j (ad k, z)) H) : va_P D vwCl (mm_w tc ad (mm_u w k y)) H := by
  rw [mm_uh h, hz]
  exact hP
theorem mm_uD {A : Nat → Prop} {tc : Nat → ClassId} {ad : Nat → Nat} {w : mm_W} {k j : Nat} {x y : mm_E} {z : va_E} (hz : mm_e tc ad y = z) (h : mm_f w k = some (j, x)) (hD : va_D A ((mm_w tc ad w).set j (ad k, z))) : va_D A (mm_w tc ad (mm_u w k y)) := by
  rw [mm_uh h, hz]
  exact hD
theorem mm_ul : ∀ (w : mm_W) (k : Nat) (y : mm_E), (mm_u w k y).length = w.length := by
  intro w
  induction w with
  | nil => intro k y; rfl
  | cons q r ih =>
    intro k y
    unfold mm_u
    split
    · rfl
    · rw [List.length_cons, List.length_cons, ih]
theorem mm_uX {X : Nat → (Nat → Nat) → Prop} {ad : Nat → Nat} {w : mm_W} {k : Nat} {y : mm_E} (h : X w.length ad) : X (mm_u w k y).length ad := by
  rw [mm_ul]
  exact h
theorem mm_set1 {tc : Nat → ClassId} {ad : Nat → Nat} {ci : Nat} (fs : List Value) (b : Nat) (v : Value) : mm_e tc ad (.inr (ci, fs.set b v)) = .inr (ci, (fs.map (mm_v ad)).set b (mm_v ad v)) := by
  unfold mm_e
  simp only [List.map_set]
theorem mm_tyh {tc : Nat → ClassId} {t : Nat} (h : t < 4) : ∃ ty, (mm_ty tc)[t]? = some (tc t, ty) := by
  match t, h with
  | 0, _ => exact ⟨_, rfl⟩
  | 1, _ => exact ⟨_, rfl⟩
  | 2, _ => exact ⟨_, rfl⟩
  | 3, _ => exact ⟨_, rfl⟩
theorem mm_flh {mi z a b : Nat} (h : mm_fl mi z a b = true) : ∃ (Cn : String) (T : u_T) (N : Nat), vwCl[a]? = some (Cn, T, N) ∧ b < N ∧ (∀ w ∈ u_ws Cn T N, w ∈ pg_ws) ∧ (T b).1 = Cn ∧ Jvm.Cond.fieldLink (pg_yn mi).cls z Cn (T b).2.1 (T b).2.2.1 ∈ pg_ws := by
  unfold mm_fl at h
  split at h
  · simp at h
  · next Cn T N hc =>
    obtain ⟨h1, h2⟩ := mm_and h
    obtain ⟨h2, h3⟩ := mm_and h2
    exact ⟨Cn, T, N, hc, mm_blt h1, pg_cw _ _ _ _ hc, of_decide_eq_true h2, mm_lwh h3⟩
theorem mm_fkh {f : Nat} {ty : Option FieldType} (h : mm_fk f ty = true) : ∃ t, ty = some t ∧ (f = 0 → ∀ x : Int32, narrow t (.int x) = .int x ∧ fits t (.int x) = true) ∧ (f = 1 → ∀ x : Nat, narrow t (.ref x) = .ref x ∧ fits t (.ref x) = true) := by
  unfold mm_fk at h
  split at h
  · have h := mm_beq h
    exact ⟨_, rfl, fun _ _ => ⟨rfl, rfl⟩, fun h1 => by rw [h] at h1; exact absurd h1 (by decide)⟩
  · have h := mm_beq h
    exact ⟨_, rfl, fun h1 => by rw [h] at h1; exact absurd h1 (by decide), fun _ _ => ⟨rfl, rfl⟩⟩
  · have h := mm_beq h
    exact ⟨_, rfl, fun h1 => by rw [h] at h1; exact absurd h1 (by decide), fun _ _ => ⟨rfl, rfl⟩⟩
  · simp at h
theorem mm_fph {mi z a b f : Nat} (h : mm_fp mi z a b f = true) : ∃ (Cn : String) (T : u_T) (N : Nat) (ty0 : Nat → FieldType) (ty : FieldType), vwCl[a]? = some (Cn, T, N) ∧ b < N ∧ (∀ w ∈ u_ws Cn T N, w ∈ pg_ws) ∧ (T b).1 = Cn ∧ Jvm.Cond.fieldLink (pg_yn mi).cls z Cn (T b).2.1 (T b).2.2.1 ∈ pg_ws ∧
    (∀ k, k < N → parseFieldDescriptor (T k).2.2.1 = some (ty0 k)) ∧ (∀ a, a < N → ∀ b, b < N → a ≠ b → (T a).2.1 ≠ (T b).2.1) ∧ parseFieldDescriptor (T b).2.2.1 = some ty ∧ ((T b).2.2.2 = false ∨ ((T b).2.2.2 = true ∧ (pg_yn mi).name = "<init>" ∧ (T b).1 = (pg_yn mi).cls)) ∧
    (f = 0 → ∀ x : Int32, narrow ty (.int x) = .int x ∧ fits ty (.int x) = true) ∧ (f = 1 → ∀ x : Nat, narrow ty (.ref x) = .ref x ∧ fits ty (.ref x) = true) := by
  unfold mm_fp at h
  split at h
  · simp at h
  · next Cn T N hc =>
    obtain ⟨h1, h2⟩ := mm_and h
    obtain ⟨h2, h3⟩ := mm_and h2
    obtain ⟨h3, h4⟩ := mm_and h3
    obtain ⟨h4, h5⟩ := mm_and h4
    obtain ⟨ty, e1, e2, e3⟩ := mm_fkh h4
    obtain ⟨ty0, f1, f2⟩ := pg_ct _ _ _ _ hc
    refine ⟨Cn, T, N, ty0, ty, hc, mm_blt h1, pg_cw _ _ _ _ hc, of_decide_eq_true h2, mm_lwh h3, f1, f2, e1, ?_, e2, e3⟩
    rcases (Bool.or_eq_true _ _).mp h5 with h5 | h5
    · exact Or.inl (of_decide_eq_true h5)
    · obtain ⟨h6, h7⟩ := mm_and h5
      obtain ⟨h7, h8⟩ := mm_and h7
      exact Or.inr ⟨of_decide_eq_true h6, of_decide_eq_true h7, of_decide_eq_true h8⟩
/-- what holds in a method's body, at every row: the machine, its code, its words, the classes; what may be written; the script, where there is one -/
def mm_cx (p : Program) (R : Room) (s : State) (m : MethodId) (args : Array Value) (meth : Method) (c : Code) (D : va_G) (tc : Nat → ClassId) (A : Nat → Prop) (X : Nat → (Nat → Nat) → Prop) (scr : Option (Nat × (Nat → Int32))) (mi : Nat) : Prop :=
  p.tables.exec = Jvm.exec ∧ c.code = pg_b mi ∧ c.maxLocals = pg_n mi ∧ s.vm.findClass (pg_yn mi).cls = some m.cls ∧ (∀ w ∈ pg_w mi, w.before args s = true) ∧ va_K D vwCl (mm_ty tc) s ∧ meth.name = (pg_yn mi).name ∧ (∀ q, s.heap.size ≤ q → A q) ∧
  ∀ n xs, scr = some (n, xs) → ∃ b, va_X b n xs s s.heap ∧ b < s.heap.size ∧ ¬ A b ∧ ∀ n ad, X n ad → ad 99 = b
/-- a state of the mini machine goes through, at whatever addresses its places lie -/
def mm_MW (p : Program) (l : Launch) (e : Env) (R : Room) (s : State) (m : MethodId) (args : Array Value) (below : List Frame) (meth : Method) (c : Code) (Q : State → Prop) (D : va_G) (tc : Nat → ClassId) (A : Nat → Prop) (nL : Nat) (X : Nat → (Nat → Nat) → Prop) : mm_M := fun k1 k2 pc lv st w =>
  ∀ (ad : Nat → Nat) (H : Heap) (locs : List Loc) (ls : Array Slot), X w.length ad → va_P D vwCl (mm_w tc ad w) H → va_D A (mm_w tc ad w) → va_S A s.heap H locs → lv_has ls nL (mm_l ad lv) → W p l e R s m args below meth c H locs k1 k2 Q (F0 m pc ls (st.map (mm_v ad)))
