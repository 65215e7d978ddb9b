theorem mm_toI {x y : Int32} (h : x.toInt = y.toInt) : x = y := Int32.toInt_inj.mp h
theorem mm_tabh {pc : Int} {x : Int32} {P : Nat → Prop} {a : Nat} : ∀ {os : List Int} {ks : List (Int32 × Nat)} {j : Int}, mm_tabk pc j os ks = true → mm_sw x P a ks →
    (∃ (i : Nat) (o : Int) (t : Nat), i < os.length ∧ os[i]? = some o ∧ x.toInt = j + i ∧ pc + o = (t : Int) ∧ P t) ∨ ((∀ i : Nat, i < os.length → ¬ x.toInt = j + i) ∧ P a) := by
  intro os
  induction os with
  | nil =>
    intro ks j h hp
    cases ks with
    | nil => exact Or.inr ⟨fun i hi => absurd hi (Nat.not_lt_zero _), hp⟩
    | cons q r => exact absurd h (by simp [mm_tabk])
  | cons o os ih =>
    intro ks j h hp
    cases ks with
    | nil => exact absurd h (by simp [mm_tabk])
    | cons q r =>
      obtain ⟨k, t⟩ := q
      obtain ⟨h1, h2⟩ := mm_and h
      obtain ⟨h2, h3⟩ := mm_and h2
      have h1 := of_decide_eq_true h1
      have h2 := of_decide_eq_true h2
      by_cases hx : x = k
      · exact Or.inl ⟨0, o, t, Nat.succ_pos _, rfl, by rw [hx, h1]; simp, h2, hp.1 hx⟩
      · rcases ih h3 (hp.2 hx) with ⟨i, o', t', e1, e2, e3, e4, e5⟩ | ⟨e1, e2⟩
        · exact Or.inl ⟨i + 1, o', t', Nat.succ_lt_succ e1, e2, by rw [e3]; omega, e4, e5⟩
        · refine Or.inr ⟨fun i hi => ?_, e2⟩
          cases i with
          | zero =>
            intro h9
            exact hx (mm_toI (by rw [h9, h1]; simp))
          | succ i =>
            intro h9
            exact e1 i (Nat.lt_of_succ_lt_succ hi) (by rw [h9]; omega)
theorem mm_lkhh {pc d : Int} {x : Int32} {P : Nat → Prop} {a : Nat} (hd : pc + d = (a : Int)) : ∀ {ps : List (Int × Int)} {ks : List (Int32 × Nat)}, mm_lkk pc ps ks = true → mm_sw x P a ks →
    ∃ t : Nat, pc + Op.lookupswitch.offset ps d x.toInt = (t : Int) ∧ P t := by
  intro ps
  induction ps with
  | nil =>
    intro ks h hp
    cases ks with
    | nil => exact ⟨a, hd, hp⟩
    | cons q r => exact absurd h (by simp [mm_lkk])
  | cons o os ih =>
    intro ks h hp
    obtain ⟨v, o⟩ := o
    cases ks with
    | nil => exact absurd h (by simp [mm_lkk])
    | cons q r =>
      obtain ⟨k, t⟩ := q
      obtain ⟨h1, h2⟩ := mm_and h
      obtain ⟨h2, h3⟩ := mm_and h2
      have h1 := of_decide_eq_true h1
      have h2 := of_decide_eq_true h2
      by_cases hx : x = k
      · refine ⟨t, ?_, hp.1 hx⟩
        rw [hx, h1]
        simp only [Op.lookupswitch.offset, if_true]
        exact h2
      · obtain ⟨t', e1, e2⟩ := ih h3 (hp.2 hx)
        exact ⟨t', by rw [lv_osw hx h1]; exact e1, e2⟩
section
variable {p : Program} {l : Launch} {e : Env} {R : Room} {s : State} {m : MethodId} {args : Array Value} {below : List Frame} {meth : Method} {c : Code} {Q : State → Prop} {D : va_G} {tc : Nat → ClassId} {A : Nat → Prop} {X : Nat → (Nat → Nat) → Prop} {mi : Nat} {scr : Option (Nat × (Nat → Int32))} {k1 k2 pc nx a b f : Nat} {cI : Int32} {cL : Int64} {lv lv' : mm_L} {st st' : List Value} {w w' : mm_W} {ob : mm_B} {K : mm_K} {N : mm_M} {cal : Bool → Nat → List Value → mm_W → mm_K → Prop} {al : Bool}
theorem so_goto {z : Int} (C : mm_cx p R s m args meth c D tc A X scr mi) (hN : ∀ k1 k2 pc lv st w, N k1 k2 pc lv st w → mm_MW p l e R s m args below meth c Q D tc A (pg_n mi) X k1 k2 pc lv st w) (hf : mm_fact mi (pc, .goto z, nx, a, b, f, cI, cL) = true) (h : mm_oth cal al mi K N k1 k2 pc lv st w (pc, .goto z, nx, a, b, f, cI, cL)) : mm_MW p l e R s m args below meth c Q D tc A (pg_n mi) X k1 k2 pc lv st w := by
  obtain ⟨rfl, hd, hq⟩ := mm_d2 (n := 3) hf
  have h : N k1 k2 a lv st w := h
  intro ad H locs ls hX hP hD hS hl
  exact lv_goto C.1 C.2.1 hd (of_decide_eq_true hq) (hN _ _ _ _ _ _ h ad H locs ls hX hP hD hS hl)
theorem so_ifCond {cd : Jvm.ClassFile.Cond} {z : Int} (C : mm_cx p R s m args meth c D tc A X scr mi) (hN : ∀ k1 k2 pc lv st w, N k1 k2 pc lv st w → mm_MW p l e R s m args below meth c Q D tc A (pg_n mi) X k1 k2 pc lv st w) (hf : mm_fact mi (pc, .ifCond cd z, nx, a, b, f, cI, cL) = true) (h : mm_oth cal al mi K N k1 k2 pc lv st w (pc, .ifCond cd z, nx, a, b, f, cI, cL)) : mm_MW p l e R s m args below meth c Q D tc A (pg_n mi) X k1 k2 pc lv st w := by
  obtain ⟨rfl, hd, hq⟩ := mm_d2 (n := 3) hf
  have hq := of_decide_eq_true hq
  simp only [mm_oth] at h
  split at h
  · obtain ⟨h1, h2⟩ := h
    intro ad H locs ls hX hP hD hS hl
    cases cd with
    | eq => exact lv_if_eq C.1 C.2.1 hd hq (fun t => hN _ _ _ _ _ _ (h1 t) ad H locs ls hX hP hD hS hl) (fun t => hN _ _ _ _ _ _ (h2 t) ad H locs ls hX hP hD hS hl)
    | lt => exact lv_if_lt C.1 C.2.1 hd hq (fun t => hN _ _ _ _ _ _ (h1 t) ad H locs ls hX hP hD hS hl) (fun t => hN _ _ _ _ _ _ (h2 t) ad H locs ls hX hP hD hS hl)
    | ge => exact lv_if_ge C.1 C.2.1 hd hq (fun t => hN _ _ _ _ _ _ (h1 t) ad H locs ls hX hP hD hS hl) (fun t => hN _ _ _ _ _ _ (h2 t) ad H locs ls hX hP hD hS hl)
    | gt => exact lv_if_gt C.1 C.2.1 hd hq (fun t => hN _ _ _ _ _ _ (h1 t) ad H locs ls hX hP hD hS hl) (fun t => hN _ _ _ _ _ _ (h2 t) ad H locs ls hX hP hD hS hl)
    | le => exact lv_if_le C.1 C.2.1 hd hq (fun t => hN _ _ _ _ _ _ (h1 t) ad H locs ls hX hP hD hS hl) (fun t => hN _ _ _ _ _ _ (h2 t) ad H locs ls hX hP hD hS hl)
    | ne => exact lv_if_ne C.1 C.2.1 hd hq (fun t => hN _ _ _ _ _ _ (h1 t) ad H locs ls hX hP hD hS hl) (fun t => hN _ _ _ _ _ _ (h2 (fun u => u t)) ad H locs ls hX hP hD hS hl)
  · exact h.elim
theorem so_if_icmp {cd : Jvm.ClassFile.Cond} {z : Int} (C : mm_cx p R s m args meth c D tc A X scr mi) (hN : ∀ k1 k2 pc lv st w, N k1 k2 pc lv st w → mm_MW p l e R s m args below meth c Q D tc A (pg_n mi) X k1 k2 pc lv st w) (hf : mm_fact mi (pc, .if_icmp cd z, nx, a, b, f, cI, cL) = true) (h : mm_oth cal al mi K N k1 k2 pc lv st w (pc, .if_icmp cd z, nx, a, b, f, cI, cL)) : mm_MW p l e R s m args below meth c Q D tc A (pg_n mi) X k1 k2 pc lv st w := by
  obtain ⟨rfl, hd, hq⟩ := mm_d2 (n := 3) hf
  have hq := of_decide_eq_true hq
  simp only [mm_oth] at h
  split at h
  · obtain ⟨h1, h2⟩ := h
    intro ad H locs ls hX hP hD hS hl
    cases cd with
    | eq => exact lv_icmp_eq C.1 C.2.1 hd hq (fun t => hN _ _ _ _ _ _ (h1 t) ad H locs ls hX hP hD hS hl) (fun t => hN _ _ _ _ _ _ (h2 t) ad H locs ls hX hP hD hS hl)
    | lt => exact lv_icmp_lt C.1 C.2.1 hd hq (fun t => hN _ _ _ _ _ _ (h1 t) ad H locs ls hX hP hD hS hl) (fun t => hN _ _ _ _ _ _ (h2 t) ad H locs ls hX hP hD hS hl)
    | ge => exact lv_icmp_ge C.1 C.2.1 hd hq (fun t => hN _ _ _ _ _ _ (h1 t) ad H locs ls hX hP hD hS hl) (fun t => hN _ _ _ _ _ _ (h2 t) ad H locs ls hX hP hD hS hl)
    | gt => exact lv_icmp_gt C.1 C.2.1 hd hq (fun t => hN _ _ _ _ _ _ (h1 t) ad H locs ls hX hP hD hS hl) (fun t => hN _ _ _ _ _ _ (h2 t) ad H locs ls hX hP hD hS hl)
    | le => exact lv_icmp_le C.1 C.2.1 hd hq (fun t => hN _ _ _ _ _ _ (h1 t) ad H locs ls hX hP hD hS hl) (fun t => hN _ _ _ _ _ _ (h2 t) ad H locs ls hX hP hD hS hl)
    | ne => exact lv_icmp_ne C.1 C.2.1 hd hq (fun t => hN _ _ _ _ _ _ (h1 t) ad H locs ls hX hP hD hS hl) (fun t => hN _ _ _ _ _ _ (h2 (fun u => u t)) ad H locs ls hX hP hD hS hl)
  · exact h.elim
theorem so_tableswitch {d lo hi : Int} {offs : Array Int} (C : mm_cx p R s m args meth c D tc A X scr mi) (hN : ∀ k1 k2 pc lv st w, N k1 k2 pc lv st w → mm_MW p l e R s m args below meth c Q D tc A (pg_n mi) X k1 k2 pc lv st w) (hf : mm_fact mi (pc, .tableswitch d lo hi offs, nx, a, b, f, cI, cL) = true) (h : mm_oth cal al mi K N k1 k2 pc lv st w (pc, .tableswitch d lo hi offs, nx, a, b, f, cI, cL)) : mm_MW p l e R s m args below meth c Q D tc A (pg_n mi) X k1 k2 pc lv st w := by
  have hf : (decide (decode (pg_b mi) pc = .ok (.tableswitch d lo hi offs, nx - pc)) && mm_tab (pc : Int) d lo hi offs.toList (a : Int) (pg_s mi pc)) = true := hf
  obtain ⟨hd, hq⟩ := mm_and hf
  have hd := of_decide_eq_true hd
  obtain ⟨q1, q2⟩ := mm_and hq
  obtain ⟨q2, q3⟩ := mm_and q2
  have q1 := of_decide_eq_true q1
  have q2 := of_decide_eq_true q2
  simp only [mm_oth] at h
  split at h
  · next x r =>
    intro ad H locs ls hX hP hD hS hl
    rcases mm_tabh q3 h with ⟨i, o, t, e1, e2, e3, e4, e5⟩ | ⟨e1, e2⟩
    · refine lv_tableIn C.1 C.2.1 hd (by omega) (by omega) (off := o) ?_ e4 (hN _ _ _ _ _ _ e5 ad H locs ls hX hP hD hS hl)
      have : (x.toInt - lo).toNat = i := by omega
      rw [this, ← Array.getElem?_toList]
      exact e2
    · refine lv_tableOut C.1 C.2.1 hd ?_ q1 (hN _ _ _ _ _ _ e2 ad H locs ls hX hP hD hS hl)
      by_cases hlo : x.toInt < lo
      · exact Or.inl hlo
      · refine Or.inr ?_
        have := e1 (x.toInt - lo).toNat
        omega
  · exact h.elim
theorem so_lookupswitch {d : Int} {ps : Array (Int × Int)} (C : mm_cx p R s m args meth c D tc A X scr mi) (hN : ∀ k1 k2 pc lv st w, N k1 k2 pc lv st w → mm_MW p l e R s m args below meth c Q D tc A (pg_n mi) X k1 k2 pc lv st w) (hf : mm_fact mi (pc, .lookupswitch d ps, nx, a, b, f, cI, cL) = true) (h : mm_oth cal al mi K N k1 k2 pc lv st w (pc, .lookupswitch d ps, nx, a, b, f, cI, cL)) : mm_MW p l e R s m args below meth c Q D tc A (pg_n mi) X k1 k2 pc lv st w := by
  have hf : (decide (decode (pg_b mi) pc = .ok (.lookupswitch d ps, nx - pc)) && mm_lku (pc : Int) d ps.toList (a : Int) (pg_s mi pc)) = true := hf
  obtain ⟨hd, hq⟩ := mm_and hf
  have hd := of_decide_eq_true hd
  obtain ⟨q1, q2⟩ := mm_and hq
  obtain ⟨q2, q3⟩ := mm_and q2
  have q1 := of_decide_eq_true q1
  simp only [mm_oth] at h
  split at h
  · intro ad H locs ls hX hP hD hS hl
    obtain ⟨t, e1, e2⟩ := mm_lkhh q1 q3 h
    exact lv_lookup C.1 C.2.1 hd q2 rfl e1 (hN _ _ _ _ _ _ e2 ad H locs ls hX hP hD hS hl)
  · exact h.elim
end
