section
variable {p : Program} {l : Launch} {e : Env} {R : Room} {s : State} {m : MethodId} {args : Array Value} {below : List Frame} {meth : Method} {c : Code} {Q : State → Prop} {D : va_G} {tc : Nat → ClassId} {A : Nat → Prop} {X : Nat → (Nat → Nat) → Prop} {mi : Nat} {scr : Option (Nat × (Nat → Int32))} {k1 k2 pc nx a b f : Nat} {cI : Int32} {cL : Int64} {lv lv' : mm_L} {st st' : List Value} {w w' : mm_W} {ob : mm_B}
theorem sm_iconst {z : Int} (C : mm_cx p R s m args meth c D tc A X scr mi) (hf : mm_fact mi (pc, .iconst z, nx, a, b, f, cI, cL) = true) (h : mm_smp scr (pc, .iconst z, nx, a, b, f, cI, cL) lv st w = some (lv', st', w', ob)) (ho : mm_ob ob)
    (k : mm_MW p l e R s m args below meth c Q D tc A (pg_n mi) X k1 k2 nx lv' st' w') : mm_MW p l e R s m args below meth c Q D tc A (pg_n mi) X k1 k2 pc lv st w := by
  obtain ⟨rfl, hd, hv⟩ := mm_d2 (n := 1) hf
  have hv := of_decide_eq_true hv
  simp only [mm_smp] at h
  simp only [Option.some.injEq, Prod.mk.injEq] at h
  obtain ⟨rfl, rfl, rfl, rfl⟩ := h
  intro ad H locs ls hX hP hD hS hl
  exact lv_iconst C.1 C.2.1 hd hv (k ad H locs ls hX hP hD hS hl)
theorem sm_bipush {z : Int} (C : mm_cx p R s m args meth c D tc A X scr mi) (hf : mm_fact mi (pc, .bipush z, nx, a, b, f, cI, cL) = true) (h : mm_smp scr (pc, .bipush z, nx, a, b, f, cI, cL) lv st w = some (lv', st', w', ob)) (ho : mm_ob ob)
    (k : mm_MW p l e R s m args below meth c Q D tc A (pg_n mi) X k1 k2 nx lv' st' w') : mm_MW p l e R s m args below meth c Q D tc A (pg_n mi) X k1 k2 pc lv st w := by
  obtain ⟨rfl, hd, hv⟩ := mm_d2 (n := 2) hf
  have hv := of_decide_eq_true hv
  simp only [mm_smp] at h
  simp only [Option.some.injEq, Prod.mk.injEq] at h
  obtain ⟨rfl, rfl, rfl, rfl⟩ := h
  intro ad H locs ls hX hP hD hS hl
  exact lv_bipush C.1 C.2.1 hd hv (k ad H locs ls hX hP hD hS hl)
theorem sm_sipush {z : Int} (C : mm_cx p R s m args meth c D tc A X scr mi) (hf : mm_fact mi (pc, .sipush z, nx, a, b, f, cI, cL) = true) (h : mm_smp scr (pc, .sipush z, nx, a, b, f, cI, cL) lv st w = some (lv', st', w', ob)) (ho : mm_ob ob)
    (k : mm_MW p l e R s m args below meth c Q D tc A (pg_n mi) X k1 k2 nx lv' st' w') : mm_MW p l e R s m args below meth c Q D tc A (pg_n mi) X k1 k2 pc lv st w := by
  obtain ⟨rfl, hd, hv⟩ := mm_d2 (n := 3) hf
  have hv := of_decide_eq_true hv
  simp only [mm_smp] at h
  simp only [Option.some.injEq, Prod.mk.injEq] at h
  obtain ⟨rfl, rfl, rfl, rfl⟩ := h
  intro ad H locs ls hX hP hD hS hl
  exact lv_sipush C.1 C.2.1 hd hv (k ad H locs ls hX hP hD hS hl)
theorem sm_lconst {z : Fin 2} (C : mm_cx p R s m args meth c D tc A X scr mi) (hf : mm_fact mi (pc, .lconst z, nx, a, b, f, cI, cL) = true) (h : mm_smp scr (pc, .lconst z, nx, a, b, f, cI, cL) lv st w = some (lv', st', w', ob)) (ho : mm_ob ob)
    (k : mm_MW p l e R s m args below meth c Q D tc A (pg_n mi) X k1 k2 nx lv' st' w') : mm_MW p l e R s m args below meth c Q D tc A (pg_n mi) X k1 k2 pc lv st w := by
  obtain ⟨rfl, hd, hv⟩ := mm_d2 (n := 1) hf
  have hv := of_decide_eq_true hv
  simp only [mm_smp] at h
  simp only [Option.some.injEq, Prod.mk.injEq] at h
  obtain ⟨rfl, rfl, rfl, rfl⟩ := h
  intro ad H locs ls hX hP hD hS hl
  exact lv_lconst C.1 C.2.1 hd hv (k ad H locs ls hX hP hD hS hl)
theorem sm_ldc {z : Nat} (C : mm_cx p R s m args meth c D tc A X scr mi) (hf : mm_fact mi (pc, .ldc z, nx, a, b, f, cI, cL) = true) (h : mm_smp scr (pc, .ldc z, nx, a, b, f, cI, cL) lv st w = some (lv', st', w', ob)) (ho : mm_ob ob)
    (k : mm_MW p l e R s m args below meth c Q D tc A (pg_n mi) X k1 k2 nx lv' st' w') : mm_MW p l e R s m args below meth c Q D tc A (pg_n mi) X k1 k2 pc lv st w := by
  obtain ⟨rfl, hd, hv⟩ := mm_d2 (n := 2) hf
  have hv := mm_lwh hv
  simp only [mm_smp] at h
  simp only [Option.some.injEq, Prod.mk.injEq] at h
  obtain ⟨rfl, rfl, rfl, rfl⟩ := h
  intro ad H locs ls hX hP hD hS hl
  exact lv_ldc C.1 C.2.1 C.2.2.2.1 (C.2.2.2.2.1 _ (List.mem_cons_of_mem _ hv)) hd (k ad H locs ls hX hP hD hS hl)
theorem sm_ldc2_w {z : Nat} (C : mm_cx p R s m args meth c D tc A X scr mi) (hf : mm_fact mi (pc, .ldc2_w z, nx, a, b, f, cI, cL) = true) (h : mm_smp scr (pc, .ldc2_w z, nx, a, b, f, cI, cL) lv st w = some (lv', st', w', ob)) (ho : mm_ob ob)
    (k : mm_MW p l e R s m args below meth c Q D tc A (pg_n mi) X k1 k2 nx lv' st' w') : mm_MW p l e R s m args below meth c Q D tc A (pg_n mi) X k1 k2 pc lv st w := by
  obtain ⟨rfl, hd, hv⟩ := mm_d2 (n := 3) hf
  have hv := mm_lwh hv
  simp only [mm_smp] at h
  simp only [Option.some.injEq, Prod.mk.injEq] at h
  obtain ⟨rfl, rfl, rfl, rfl⟩ := h
  intro ad H locs ls hX hP hD hS hl
  exact lv_ldc2 C.1 C.2.1 C.2.2.2.1 (C.2.2.2.2.1 _ (List.mem_cons_of_mem _ hv)) hd (k ad H locs ls hX hP hD hS hl)
theorem sm_iload_n {z : Fin 4} (C : mm_cx p R s m args meth c D tc A X scr mi) (hf : mm_fact mi (pc, .iload_n z, nx, a, b, f, cI, cL) = true) (h : mm_smp scr (pc, .iload_n z, nx, a, b, f, cI, cL) lv st w = some (lv', st', w', ob)) (ho : mm_ob ob)
    (k : mm_MW p l e R s m args below meth c Q D tc A (pg_n mi) X k1 k2 nx lv' st' w') : mm_MW p l e R s m args below meth c Q D tc A (pg_n mi) X k1 k2 pc lv st w := by
  obtain ⟨rfl, hd⟩ := mm_d1 (n := 1) hf
  simp only [mm_smp] at h
  split at h
  · next x heq =>
    simp only [Option.some.injEq, Prod.mk.injEq] at h
    obtain ⟨rfl, rfl, rfl, rfl⟩ := h
    intro ad H locs ls hX hP hD hS hl
    exact lv_iload_n C.1 C.2.1 hd rfl (mm_lkh hl heq) (k ad H locs ls hX hP hD hS hl)
  · simp at h
theorem sm_iload {z : Nat} (C : mm_cx p R s m args meth c D tc A X scr mi) (hf : mm_fact mi (pc, .iload z, nx, a, b, f, cI, cL) = true) (h : mm_smp scr (pc, .iload z, nx, a, b, f, cI, cL) lv st w = some (lv', st', w', ob)) (ho : mm_ob ob)
    (k : mm_MW p l e R s m args below meth c Q D tc A (pg_n mi) X k1 k2 nx lv' st' w') : mm_MW p l e R s m args below meth c Q D tc A (pg_n mi) X k1 k2 pc lv st w := by
  obtain ⟨rfl, hd⟩ := mm_d1 (n := 2) hf
  simp only [mm_smp] at h
  split at h
  · next x heq =>
    simp only [Option.some.injEq, Prod.mk.injEq] at h
    obtain ⟨rfl, rfl, rfl, rfl⟩ := h
    intro ad H locs ls hX hP hD hS hl
    exact lv_iload C.1 C.2.1 hd (mm_lkh hl heq) (k ad H locs ls hX hP hD hS hl)
  · simp at h
theorem sm_lload_n {z : Fin 4} (C : mm_cx p R s m args meth c D tc A X scr mi) (hf : mm_fact mi (pc, .lload_n z, nx, a, b, f, cI, cL) = true) (h : mm_smp scr (pc, .lload_n z, nx, a, b, f, cI, cL) lv st w = some (lv', st', w', ob)) (ho : mm_ob ob)
    (k : mm_MW p l e R s m args below meth c Q D tc A (pg_n mi) X k1 k2 nx lv' st' w') : mm_MW p l e R s m args below meth c Q D tc A (pg_n mi) X k1 k2 pc lv st w := by
  obtain ⟨rfl, hd⟩ := mm_d1 (n := 1) hf
  simp only [mm_smp] at h
  split at h
  · next x heq =>
    simp only [Option.some.injEq, Prod.mk.injEq] at h
    obtain ⟨rfl, rfl, rfl, rfl⟩ := h
    intro ad H locs ls hX hP hD hS hl
    exact lv_lload_n C.1 C.2.1 hd rfl (mm_lkh hl heq) (k ad H locs ls hX hP hD hS hl)
  · simp at h
theorem sm_lload {z : Nat} (C : mm_cx p R s m args meth c D tc A X scr mi) (hf : mm_fact mi (pc, .lload z, nx, a, b, f, cI, cL) = true) (h : mm_smp scr (pc, .lload z, nx, a, b, f, cI, cL) lv st w = some (lv', st', w', ob)) (ho : mm_ob ob)
    (k : mm_MW p l e R s m args below meth c Q D tc A (pg_n mi) X k1 k2 nx lv' st' w') : mm_MW p l e R s m args below meth c Q D tc A (pg_n mi) X k1 k2 pc lv st w := by
  obtain ⟨rfl, hd⟩ := mm_d1 (n := 2) hf
  simp only [mm_smp] at h
  split at h
  · next x heq =>
    simp only [Option.some.injEq, Prod.mk.injEq] at h
    obtain ⟨rfl, rfl, rfl, rfl⟩ := h
    intro ad H locs ls hX hP hD hS hl
    exact lv_lload C.1 C.2.1 hd (mm_lkh hl heq) (k ad H locs ls hX hP hD hS hl)
  · simp at h
theorem sm_aload_n {z : Fin 4} (C : mm_cx p R s m args meth c D tc A X scr mi) (hf : mm_fact mi (pc, .aload_n z, nx, a, b, f, cI, cL) = true) (h : mm_smp scr (pc, .aload_n z, nx, a, b, f, cI, cL) lv st w = some (lv', st', w', ob)) (ho : mm_ob ob)
    (k : mm_MW p l e R s m args below meth c Q D tc A (pg_n mi) X k1 k2 nx lv' st' w') : mm_MW p l e R s m args below meth c Q D tc A (pg_n mi) X k1 k2 pc lv st w := by
  obtain ⟨rfl, hd⟩ := mm_d1 (n := 1) hf
  simp only [mm_smp] at h
  split at h
  · next x heq =>
    simp only [Option.some.injEq, Prod.mk.injEq] at h
    obtain ⟨rfl, rfl, rfl, rfl⟩ := h
    intro ad H locs ls hX hP hD hS hl
    exact lv_aload_n C.1 C.2.1 hd rfl (mm_lkh hl heq) (k ad H locs ls hX hP hD hS hl)
  · simp at h
theorem sm_aload {z : Nat} (C : mm_cx p R s m args meth c D tc A X scr mi) (hf : mm_fact mi (pc, .aload z, nx, a, b, f, cI, cL) = true) (h : mm_smp scr (pc, .aload z, nx, a, b, f, cI, cL) lv st w = some (lv', st', w', ob)) (ho : mm_ob ob)
    (k : mm_MW p l e R s m args below meth c Q D tc A (pg_n mi) X k1 k2 nx lv' st' w') : mm_MW p l e R s m args below meth c Q D tc A (pg_n mi) X k1 k2 pc lv st w := by
  obtain ⟨rfl, hd⟩ := mm_d1 (n := 2) hf
  simp only [mm_smp] at h
  split at h
  · next x heq =>
    simp only [Option.some.injEq, Prod.mk.injEq] at h
    obtain ⟨rfl, rfl, rfl, rfl⟩ := h
    intro ad H locs ls hX hP hD hS hl
    exact lv_aload C.1 C.2.1 hd (mm_lkh hl heq) (k ad H locs ls hX hP hD hS hl)
  · simp at h
theorem sm_istore_n {z : Fin 4} (C : mm_cx p R s m args meth c D tc A X scr mi) (hf : mm_fact mi (pc, .istore_n z, nx, a, b, f, cI, cL) = true) (h : mm_smp scr (pc, .istore_n z, nx, a, b, f, cI, cL) lv st w = some (lv', st', w', ob)) (ho : mm_ob ob)
    (k : mm_MW p l e R s m args below meth c Q D tc A (pg_n mi) X k1 k2 nx lv' st' w') : mm_MW p l e R s m args below meth c Q D tc A (pg_n mi) X k1 k2 pc lv st w := by
  obtain ⟨rfl, hd, hn⟩ := mm_d2 (n := 1) hf
  have hn := mm_blt hn
  simp only [mm_smp] at h
  split at h
  ·
    simp only [Option.some.injEq, Prod.mk.injEq] at h
    obtain ⟨rfl, rfl, rfl, rfl⟩ := h
    intro ad H locs ls hX hP hD hS hl
    exact lv_istore_n C.1 C.2.1 hd rfl hl hn rfl (fun ls' hl' => k ad H locs ls' hX hP hD hS (mm_s1h hl'))
  · simp at h
theorem sm_istore {z : Nat} (C : mm_cx p R s m args meth c D tc A X scr mi) (hf : mm_fact mi (pc, .istore z, nx, a, b, f, cI, cL) = true) (h : mm_smp scr (pc, .istore z, nx, a, b, f, cI, cL) lv st w = some (lv', st', w', ob)) (ho : mm_ob ob)
    (k : mm_MW p l e R s m args below meth c Q D tc A (pg_n mi) X k1 k2 nx lv' st' w') : mm_MW p l e R s m args below meth c Q D tc A (pg_n mi) X k1 k2 pc lv st w := by
  obtain ⟨rfl, hd, hn⟩ := mm_d2 (n := 2) hf
  have hn := mm_blt hn
  simp only [mm_smp] at h
  split at h
  ·
    simp only [Option.some.injEq, Prod.mk.injEq] at h
    obtain ⟨rfl, rfl, rfl, rfl⟩ := h
    intro ad H locs ls hX hP hD hS hl
    exact lv_istore C.1 C.2.1 hd hl hn rfl (fun ls' hl' => k ad H locs ls' hX hP hD hS (mm_s1h hl'))
  · simp at h
theorem sm_astore_n {z : Fin 4} (C : mm_cx p R s m args meth c D tc A X scr mi) (hf : mm_fact mi (pc, .astore_n z, nx, a, b, f, cI, cL) = true) (h : mm_smp scr (pc, .astore_n z, nx, a, b, f, cI, cL) lv st w = some (lv', st', w', ob)) (ho : mm_ob ob)
    (k : mm_MW p l e R s m args below meth c Q D tc A (pg_n mi) X k1 k2 nx lv' st' w') : mm_MW p l e R s m args below meth c Q D tc A (pg_n mi) X k1 k2 pc lv st w := by
  obtain ⟨rfl, hd, hn⟩ := mm_d2 (n := 1) hf
  have hn := mm_blt hn
  simp only [mm_smp] at h
  split at h
  ·
    simp only [Option.some.injEq, Prod.mk.injEq] at h
    obtain ⟨rfl, rfl, rfl, rfl⟩ := h
    intro ad H locs ls hX hP hD hS hl
    exact lv_astore_n C.1 C.2.1 hd rfl hl hn rfl (fun ls' hl' => k ad H locs ls' hX hP hD hS (mm_s1h hl'))
  · simp at h
theorem sm_astore {z : Nat} (C : mm_cx p R s m args meth c D tc A X scr mi) (hf : mm_fact mi (pc, .astore z, nx, a, b, f, cI, cL) = true) (h : mm_smp scr (pc, .astore z, nx, a, b, f, cI, cL) lv st w = some (lv', st', w', ob)) (ho : mm_ob ob)
    (k : mm_MW p l e R s m args below meth c Q D tc A (pg_n mi) X k1 k2 nx lv' st' w') : mm_MW p l e R s m args below meth c Q D tc A (pg_n mi) X k1 k2 pc lv st w := by
  obtain ⟨rfl, hd, hn⟩ := mm_d2 (n := 2) hf
  have hn := mm_blt hn
  simp only [mm_smp] at h
  split at h
  ·
    simp only [Option.some.injEq, Prod.mk.injEq] at h
    obtain ⟨rfl, rfl, rfl, rfl⟩ := h
    intro ad H locs ls hX hP hD hS hl
    exact lv_astore C.1 C.2.1 hd hl hn rfl (fun ls' hl' => k ad H locs ls' hX hP hD hS (mm_s1h hl'))
  · simp at h
theorem sm_lstore_n {z : Fin 4} (C : mm_cx p R s m args meth c D tc A X scr mi) (hf : mm_fact mi (pc, .lstore_n z, nx, a, b, f, cI, cL) = true) (h : mm_smp scr (pc, .lstore_n z, nx, a, b, f, cI, cL) lv st w = some (lv', st', w', ob)) (ho : mm_ob ob)
    (k : mm_MW p l e R s m args below meth c Q D tc A (pg_n mi) X k1 k2 nx lv' st' w') : mm_MW p l e R s m args below meth c Q D tc A (pg_n mi) X k1 k2 pc lv st w := by
  obtain ⟨rfl, hd, hn⟩ := mm_d2 (n := 1) hf
  have hn := mm_blt hn
  simp only [mm_smp] at h
  split at h
  ·
    simp only [Option.some.injEq, Prod.mk.injEq] at h
    obtain ⟨rfl, rfl, rfl, rfl⟩ := h
    intro ad H locs ls hX hP hD hS hl
    exact lv_lstore_n C.1 C.2.1 hd rfl hl hn rfl (fun ls' hl' => k ad H locs ls' hX hP hD hS (mm_s2h hl'))
  · simp at h
theorem sm_lstore {z : Nat} (C : mm_cx p R s m args meth c D tc A X scr mi) (hf : mm_fact mi (pc, .lstore z, nx, a, b, f, cI, cL) = true) (h : mm_smp scr (pc, .lstore z, nx, a, b, f, cI, cL) lv st w = some (lv', st', w', ob)) (ho : mm_ob ob)
    (k : mm_MW p l e R s m args below meth c Q D tc A (pg_n mi) X k1 k2 nx lv' st' w') : mm_MW p l e R s m args below meth c Q D tc A (pg_n mi) X k1 k2 pc lv st w := by
  obtain ⟨rfl, hd, hn⟩ := mm_d2 (n := 2) hf
  have hn := mm_blt hn
  simp only [mm_smp] at h
  split at h
  ·
    simp only [Option.some.injEq, Prod.mk.injEq] at h
    obtain ⟨rfl, rfl, rfl, rfl⟩ := h
    intro ad H locs ls hX hP hD hS hl
    exact lv_lstore C.1 C.2.1 hd hl hn rfl (fun ls' hl' => k ad H locs ls' hX hP hD hS (mm_s2h hl'))
  · simp at h
theorem sm_iinc {z : Nat} {y : Int} (C : mm_cx p R s m args meth c D tc A X scr mi) (hf : mm_fact mi (pc, .iinc z y, nx, a, b, f, cI, cL) = true) (h : mm_smp scr (pc, .iinc z y, nx, a, b, f, cI, cL) lv st w = some (lv', st', w', ob)) (ho : mm_ob ob)
    (k : mm_MW p l e R s m args below meth c Q D tc A (pg_n mi) X k1 k2 nx lv' st' w') : mm_MW p l e R s m args below meth c Q D tc A (pg_n mi) X k1 k2 pc lv st w := by
  obtain ⟨rfl, hd, hn⟩ := mm_d2 (n := 3) hf
  rw [Bool.and_eq_true] at hn
  have hn1 := mm_blt hn.1
  have hn2 := of_decide_eq_true hn.2
  simp only [mm_smp] at h
  split at h
  · next x heq =>
    simp only [Option.some.injEq, Prod.mk.injEq] at h
    obtain ⟨rfl, rfl, rfl, rfl⟩ := h
    intro ad H locs ls hX hP hD hS hl
    obtain ⟨j, hj⟩ := mm_lkp (ad := ad) heq
    exact lv_iinc C.1 C.2.1 hd hl hj (congrArg _ hn2) hn1 rfl (fun ls' hl' => k ad H locs ls' hX hP hD hS (mm_s1h hl'))
  · simp at h
theorem sm_iadd (C : mm_cx p R s m args meth c D tc A X scr mi) (hf : mm_fact mi (pc, .iadd, nx, a, b, f, cI, cL) = true) (h : mm_smp scr (pc, .iadd, nx, a, b, f, cI, cL) lv st w = some (lv', st', w', ob)) (ho : mm_ob ob)
    (k : mm_MW p l e R s m args below meth c Q D tc A (pg_n mi) X k1 k2 nx lv' st' w') : mm_MW p l e R s m args below meth c Q D tc A (pg_n mi) X k1 k2 pc lv st w := by
  obtain ⟨rfl, hd⟩ := mm_d1 (n := 1) hf
  simp only [mm_smp] at h
  split at h
  ·
    simp only [Option.some.injEq, Prod.mk.injEq] at h
    obtain ⟨rfl, rfl, rfl, rfl⟩ := h
    intro ad H locs ls hX hP hD hS hl
    exact lv_iadd C.1 C.2.1 hd (k ad H locs ls hX hP hD hS hl)
  · simp at h
theorem sm_isub (C : mm_cx p R s m args meth c D tc A X scr mi) (hf : mm_fact mi (pc, .isub, nx, a, b, f, cI, cL) = true) (h : mm_smp scr (pc, .isub, nx, a, b, f, cI, cL) lv st w = some (lv', st', w', ob)) (ho : mm_ob ob)
    (k : mm_MW p l e R s m args below meth c Q D tc A (pg_n mi) X k1 k2 nx lv' st' w') : mm_MW p l e R s m args below meth c Q D tc A (pg_n mi) X k1 k2 pc lv st w := by
  obtain ⟨rfl, hd⟩ := mm_d1 (n := 1) hf
  simp only [mm_smp] at h
  split at h
  ·
    simp only [Option.some.injEq, Prod.mk.injEq] at h
    obtain ⟨rfl, rfl, rfl, rfl⟩ := h
    intro ad H locs ls hX hP hD hS hl
    exact lv_isub C.1 C.2.1 hd (k ad H locs ls hX hP hD hS hl)
  · simp at h
theorem sm_imul (C : mm_cx p R s m args meth c D tc A X scr mi) (hf : mm_fact mi (pc, .imul, nx, a, b, f, cI, cL) = true) (h : mm_smp scr (pc, .imul, nx, a, b, f, cI, cL) lv st w = some (lv', st', w', ob)) (ho : mm_ob ob)
    (k : mm_MW p l e R s m args below meth c Q D tc A (pg_n mi) X k1 k2 nx lv' st' w') : mm_MW p l e R s m args below meth c Q D tc A (pg_n mi) X k1 k2 pc lv st w := by
  obtain ⟨rfl, hd⟩ := mm_d1 (n := 1) hf
  simp only [mm_smp] at h
  split at h
  ·
    simp only [Option.some.injEq, Prod.mk.injEq] at h
    obtain ⟨rfl, rfl, rfl, rfl⟩ := h
    intro ad H locs ls hX hP hD hS hl
    exact lv_imul C.1 C.2.1 hd (k ad H locs ls hX hP hD hS hl)
  · simp at h
theorem sm_iand (C : mm_cx p R s m args meth c D tc A X scr mi) (hf : mm_fact mi (pc, .iand, nx, a, b, f, cI, cL) = true) (h : mm_smp scr (pc, .iand, nx, a, b, f, cI, cL) lv st w = some (lv', st', w', ob)) (ho : mm_ob ob)
    (k : mm_MW p l e R s m args below meth c Q D tc A (pg_n mi) X k1 k2 nx lv' st' w') : mm_MW p l e R s m args below meth c Q D tc A (pg_n mi) X k1 k2 pc lv st w := by
  obtain ⟨rfl, hd⟩ := mm_d1 (n := 1) hf
  simp only [mm_smp] at h
  split at h
  ·
    simp only [Option.some.injEq, Prod.mk.injEq] at h
    obtain ⟨rfl, rfl, rfl, rfl⟩ := h
    intro ad H locs ls hX hP hD hS hl
    exact lv_iand C.1 C.2.1 hd (k ad H locs ls hX hP hD hS hl)
  · simp at h
theorem sm_ior (C : mm_cx p R s m args meth c D tc A X scr mi) (hf : mm_fact mi (pc, .ior, nx, a, b, f, cI, cL) = true) (h : mm_smp scr (pc, .ior, nx, a, b, f, cI, cL) lv st w = some (lv', st', w', ob)) (ho : mm_ob ob)
    (k : mm_MW p l e R s m args below meth c Q D tc A (pg_n mi) X k1 k2 nx lv' st' w') : mm_MW p l e R s m args below meth c Q D tc A (pg_n mi) X k1 k2 pc lv st w := by
  obtain ⟨rfl, hd⟩ := mm_d1 (n := 1) hf
  simp only [mm_smp] at h
  split at h
  ·
    simp only [Option.some.injEq, Prod.mk.injEq] at h
    obtain ⟨rfl, rfl, rfl, rfl⟩ := h
    intro ad H locs ls hX hP hD hS hl
    exact lv_ior C.1 C.2.1 hd (k ad H locs ls hX hP hD hS hl)
  · simp at h
theorem sm_ishl (C : mm_cx p R s m args meth c D tc A X scr mi) (hf : mm_fact mi (pc, .ishl, nx, a, b, f, cI, cL) = true) (h : mm_smp scr (pc, .ishl, nx, a, b, f, cI, cL) lv st w = some (lv', st', w', ob)) (ho : mm_ob ob)
    (k : mm_MW p l e R s m args below meth c Q D tc A (pg_n mi) X k1 k2 nx lv' st' w') : mm_MW p l e R s m args below meth c Q D tc A (pg_n mi) X k1 k2 pc lv st w := by
  obtain ⟨rfl, hd⟩ := mm_d1 (n := 1) hf
  simp only [mm_smp] at h
  split at h
  ·
    simp only [Option.some.injEq, Prod.mk.injEq] at h
    obtain ⟨rfl, rfl, rfl, rfl⟩ := h
    intro ad H locs ls hX hP hD hS hl
    exact lv_ishl C.1 C.2.1 hd (k ad H locs ls hX hP hD hS hl)
  · simp at h
theorem sm_ishr (C : mm_cx p R s m args meth c D tc A X scr mi) (hf : mm_fact mi (pc, .ishr, nx, a, b, f, cI, cL) = true) (h : mm_smp scr (pc, .ishr, nx, a, b, f, cI, cL) lv st w = some (lv', st', w', ob)) (ho : mm_ob ob)
    (k : mm_MW p l e R s m args below meth c Q D tc A (pg_n mi) X k1 k2 nx lv' st' w') : mm_MW p l e R s m args below meth c Q D tc A (pg_n mi) X k1 k2 pc lv st w := by
  obtain ⟨rfl, hd⟩ := mm_d1 (n := 1) hf
  simp only [mm_smp] at h
  split at h
  ·
    simp only [Option.some.injEq, Prod.mk.injEq] at h
    obtain ⟨rfl, rfl, rfl, rfl⟩ := h
    intro ad H locs ls hX hP hD hS hl
    exact lv_ishr C.1 C.2.1 hd (k ad H locs ls hX hP hD hS hl)
  · simp at h
theorem sm_ladd (C : mm_cx p R s m args meth c D tc A X scr mi) (hf : mm_fact mi (pc, .ladd, nx, a, b, f, cI, cL) = true) (h : mm_smp scr (pc, .ladd, nx, a, b, f, cI, cL) lv st w = some (lv', st', w', ob)) (ho : mm_ob ob)
    (k : mm_MW p l e R s m args below meth c Q D tc A (pg_n mi) X k1 k2 nx lv' st' w') : mm_MW p l e R s m args below meth c Q D tc A (pg_n mi) X k1 k2 pc lv st w := by
  obtain ⟨rfl, hd⟩ := mm_d1 (n := 1) hf
  simp only [mm_smp] at h
  split at h
  ·
    simp only [Option.some.injEq, Prod.mk.injEq] at h
    obtain ⟨rfl, rfl, rfl, rfl⟩ := h
    intro ad H locs ls hX hP hD hS hl
    exact lv_ladd C.1 C.2.1 hd (k ad H locs ls hX hP hD hS hl)
  · simp at h
theorem sm_lsub (C : mm_cx p R s m args meth c D tc A X scr mi) (hf : mm_fact mi (pc, .lsub, nx, a, b, f, cI, cL) = true) (h : mm_smp scr (pc, .lsub, nx, a, b, f, cI, cL) lv st w = some (lv', st', w', ob)) (ho : mm_ob ob)
    (k : mm_MW p l e R s m args below meth c Q D tc A (pg_n mi) X k1 k2 nx lv' st' w') : mm_MW p l e R s m args below meth c Q D tc A (pg_n mi) X k1 k2 pc lv st w := by
  obtain ⟨rfl, hd⟩ := mm_d1 (n := 1) hf
  simp only [mm_smp] at h
  split at h
  ·
    simp only [Option.some.injEq, Prod.mk.injEq] at h
    obtain ⟨rfl, rfl, rfl, rfl⟩ := h
    intro ad H locs ls hX hP hD hS hl
    exact lv_lsub C.1 C.2.1 hd (k ad H locs ls hX hP hD hS hl)
  · simp at h
theorem sm_land (C : mm_cx p R s m args meth c D tc A X scr mi) (hf : mm_fact mi (pc, .land, nx, a, b, f, cI, cL) = true) (h : mm_smp scr (pc, .land, nx, a, b, f, cI, cL) lv st w = some (lv', st', w', ob)) (ho : mm_ob ob)
    (k : mm_MW p l e R s m args below meth c Q D tc A (pg_n mi) X k1 k2 nx lv' st' w') : mm_MW p l e R s m args below meth c Q D tc A (pg_n mi) X k1 k2 pc lv st w := by
  obtain ⟨rfl, hd⟩ := mm_d1 (n := 1) hf
  simp only [mm_smp] at h
  split at h
  ·
    simp only [Option.some.injEq, Prod.mk.injEq] at h
    obtain ⟨rfl, rfl, rfl, rfl⟩ := h
    intro ad H locs ls hX hP hD hS hl
    exact lv_land C.1 C.2.1 hd (k ad H locs ls hX hP hD hS hl)
  · simp at h
theorem sm_lor (C : mm_cx p R s m args meth c D tc A X scr mi) (hf : mm_fact mi (pc, .lor, nx, a, b, f, cI, cL) = true) (h : mm_smp scr (pc, .lor, nx, a, b, f, cI, cL) lv st w = some (lv', st', w', ob)) (ho : mm_ob ob)
    (k : mm_MW p l e R s m args below meth c Q D tc A (pg_n mi) X k1 k2 nx lv' st' w') : mm_MW p l e R s m args below meth c Q D tc A (pg_n mi) X k1 k2 pc lv st w := by
  obtain ⟨rfl, hd⟩ := mm_d1 (n := 1) hf
  simp only [mm_smp] at h
  split at h
  ·
    simp only [Option.some.injEq, Prod.mk.injEq] at h
    obtain ⟨rfl, rfl, rfl, rfl⟩ := h
    intro ad H locs ls hX hP hD hS hl
    exact lv_lor C.1 C.2.1 hd (k ad H locs ls hX hP hD hS hl)
  · simp at h
theorem sm_lxor (C : mm_cx p R s m args meth c D tc A X scr mi) (hf : mm_fact mi (pc, .lxor, nx, a, b, f, cI, cL) = true) (h : mm_smp scr (pc, .lxor, nx, a, b, f, cI, cL) lv st w = some (lv', st', w', ob)) (ho : mm_ob ob)
    (k : mm_MW p l e R s m args below meth c Q D tc A (pg_n mi) X k1 k2 nx lv' st' w') : mm_MW p l e R s m args below meth c Q D tc A (pg_n mi) X k1 k2 pc lv st w := by
  obtain ⟨rfl, hd⟩ := mm_d1 (n := 1) hf
  simp only [mm_smp] at h
  split at h
  ·
    simp only [Option.some.injEq, Prod.mk.injEq] at h
    obtain ⟨rfl, rfl, rfl, rfl⟩ := h
    intro ad H locs ls hX hP hD hS hl
    exact lv_lxor C.1 C.2.1 hd (k ad H locs ls hX hP hD hS hl)
  · simp at h
theorem sm_ineg (C : mm_cx p R s m args meth c D tc A X scr mi) (hf : mm_fact mi (pc, .ineg, nx, a, b, f, cI, cL) = true) (h : mm_smp scr (pc, .ineg, nx, a, b, f, cI, cL) lv st w = some (lv', st', w', ob)) (ho : mm_ob ob)
    (k : mm_MW p l e R s m args below meth c Q D tc A (pg_n mi) X k1 k2 nx lv' st' w') : mm_MW p l e R s m args below meth c Q D tc A (pg_n mi) X k1 k2 pc lv st w := by
  obtain ⟨rfl, hd⟩ := mm_d1 (n := 1) hf
  simp only [mm_smp] at h
  split at h
  ·
    simp only [Option.some.injEq, Prod.mk.injEq] at h
    obtain ⟨rfl, rfl, rfl, rfl⟩ := h
    intro ad H locs ls hX hP hD hS hl
    exact lv_ineg C.1 C.2.1 hd (k ad H locs ls hX hP hD hS hl)
  · simp at h
theorem sm_lneg (C : mm_cx p R s m args meth c D tc A X scr mi) (hf : mm_fact mi (pc, .lneg, nx, a, b, f, cI, cL) = true) (h : mm_smp scr (pc, .lneg, nx, a, b, f, cI, cL) lv st w = some (lv', st', w', ob)) (ho : mm_ob ob)
    (k : mm_MW p l e R s m args below meth c Q D tc A (pg_n mi) X k1 k2 nx lv' st' w') : mm_MW p l e R s m args below meth c Q D tc A (pg_n mi) X k1 k2 pc lv st w := by
  obtain ⟨rfl, hd⟩ := mm_d1 (n := 1) hf
  simp only [mm_smp] at h
  split at h
  ·
    simp only [Option.some.injEq, Prod.mk.injEq] at h
    obtain ⟨rfl, rfl, rfl, rfl⟩ := h
    intro ad H locs ls hX hP hD hS hl
    exact lv_lneg C.1 C.2.1 hd (k ad H locs ls hX hP hD hS hl)
  · simp at h
theorem sm_iushr (C : mm_cx p R s m args meth c D tc A X scr mi) (hf : mm_fact mi (pc, .iushr, nx, a, b, f, cI, cL) = true) (h : mm_smp scr (pc, .iushr, nx, a, b, f, cI, cL) lv st w = some (lv', st', w', ob)) (ho : mm_ob ob)
    (k : mm_MW p l e R s m args below meth c Q D tc A (pg_n mi) X k1 k2 nx lv' st' w') : mm_MW p l e R s m args below meth c Q D tc A (pg_n mi) X k1 k2 pc lv st w := by
  obtain ⟨rfl, hd⟩ := mm_d1 (n := 1) hf
  simp only [mm_smp] at h
  split at h
  ·
    simp only [Option.some.injEq, Prod.mk.injEq] at h
    obtain ⟨rfl, rfl, rfl, rfl⟩ := h
    intro ad H locs ls hX hP hD hS hl
    exact lv_iushr C.1 C.2.1 hd rfl (k ad H locs ls hX hP hD hS hl)
  · simp at h
theorem sm_lushr (C : mm_cx p R s m args meth c D tc A X scr mi) (hf : mm_fact mi (pc, .lushr, nx, a, b, f, cI, cL) = true) (h : mm_smp scr (pc, .lushr, nx, a, b, f, cI, cL) lv st w = some (lv', st', w', ob)) (ho : mm_ob ob)
    (k : mm_MW p l e R s m args below meth c Q D tc A (pg_n mi) X k1 k2 nx lv' st' w') : mm_MW p l e R s m args below meth c Q D tc A (pg_n mi) X k1 k2 pc lv st w := by
  obtain ⟨rfl, hd⟩ := mm_d1 (n := 1) hf
  simp only [mm_smp] at h
  split at h
  ·
    simp only [Option.some.injEq, Prod.mk.injEq] at h
    obtain ⟨rfl, rfl, rfl, rfl⟩ := h
    intro ad H locs ls hX hP hD hS hl
    exact lv_lushr C.1 C.2.1 hd rfl (k ad H locs ls hX hP hD hS hl)
  · simp at h
theorem sm_lshl (C : mm_cx p R s m args meth c D tc A X scr mi) (hf : mm_fact mi (pc, .lshl, nx, a, b, f, cI, cL) = true) (h : mm_smp scr (pc, .lshl, nx, a, b, f, cI, cL) lv st w = some (lv', st', w', ob)) (ho : mm_ob ob)
    (k : mm_MW p l e R s m args below meth c Q D tc A (pg_n mi) X k1 k2 nx lv' st' w') : mm_MW p l e R s m args below meth c Q D tc A (pg_n mi) X k1 k2 pc lv st w := by
  obtain ⟨rfl, hd⟩ := mm_d1 (n := 1) hf
  simp only [mm_smp] at h
  split at h
  ·
    simp only [Option.some.injEq, Prod.mk.injEq] at h
    obtain ⟨rfl, rfl, rfl, rfl⟩ := h
    intro ad H locs ls hX hP hD hS hl
    exact lv_lshl C.1 C.2.1 hd rfl (k ad H locs ls hX hP hD hS hl)
  · simp at h
theorem sm_lshr (C : mm_cx p R s m args meth c D tc A X scr mi) (hf : mm_fact mi (pc, .lshr, nx, a, b, f, cI, cL) = true) (h : mm_smp scr (pc, .lshr, nx, a, b, f, cI, cL) lv st w = some (lv', st', w', ob)) (ho : mm_ob ob)
    (k : mm_MW p l e R s m args below meth c Q D tc A (pg_n mi) X k1 k2 nx lv' st' w') : mm_MW p l e R s m args below meth c Q D tc A (pg_n mi) X k1 k2 pc lv st w := by
  obtain ⟨rfl, hd⟩ := mm_d1 (n := 1) hf
  simp only [mm_smp] at h
  split at h
  ·
    simp only [Option.some.injEq, Prod.mk.injEq] at h
    obtain ⟨rfl, rfl, rfl, rfl⟩ := h
    intro ad H locs ls hX hP hD hS hl
    exact lv_lshr C.1 C.2.1 hd rfl (k ad H locs ls hX hP hD hS hl)
  · simp at h
theorem sm_i2l (C : mm_cx p R s m args meth c D tc A X scr mi) (hf : mm_fact mi (pc, .i2l, nx, a, b, f, cI, cL) = true) (h : mm_smp scr (pc, .i2l, nx, a, b, f, cI, cL) lv st w = some (lv', st', w', ob)) (ho : mm_ob ob)
    (k : mm_MW p l e R s m args below meth c Q D tc A (pg_n mi) X k1 k2 nx lv' st' w') : mm_MW p l e R s m args below meth c Q D tc A (pg_n mi) X k1 k2 pc lv st w := by
  obtain ⟨rfl, hd⟩ := mm_d1 (n := 1) hf
  simp only [mm_smp] at h
  split at h
  ·
    simp only [Option.some.injEq, Prod.mk.injEq] at h
    obtain ⟨rfl, rfl, rfl, rfl⟩ := h
    intro ad H locs ls hX hP hD hS hl
    exact lv_i2l C.1 C.2.1 hd rfl (k ad H locs ls hX hP hD hS hl)
  · simp at h
theorem sm_l2i (C : mm_cx p R s m args meth c D tc A X scr mi) (hf : mm_fact mi (pc, .l2i, nx, a, b, f, cI, cL) = true) (h : mm_smp scr (pc, .l2i, nx, a, b, f, cI, cL) lv st w = some (lv', st', w', ob)) (ho : mm_ob ob)
    (k : mm_MW p l e R s m args below meth c Q D tc A (pg_n mi) X k1 k2 nx lv' st' w') : mm_MW p l e R s m args below meth c Q D tc A (pg_n mi) X k1 k2 pc lv st w := by
  obtain ⟨rfl, hd⟩ := mm_d1 (n := 1) hf
  simp only [mm_smp] at h
  split at h
  ·
    simp only [Option.some.injEq, Prod.mk.injEq] at h
    obtain ⟨rfl, rfl, rfl, rfl⟩ := h
    intro ad H locs ls hX hP hD hS hl
    exact lv_l2i C.1 C.2.1 hd rfl (k ad H locs ls hX hP hD hS hl)
  · simp at h
theorem sm_i2b (C : mm_cx p R s m args meth c D tc A X scr mi) (hf : mm_fact mi (pc, .i2b, nx, a, b, f, cI, cL) = true) (h : mm_smp scr (pc, .i2b, nx, a, b, f, cI, cL) lv st w = some (lv', st', w', ob)) (ho : mm_ob ob)
    (k : mm_MW p l e R s m args below meth c Q D tc A (pg_n mi) X k1 k2 nx lv' st' w') : mm_MW p l e R s m args below meth c Q D tc A (pg_n mi) X k1 k2 pc lv st w := by
  obtain ⟨rfl, hd⟩ := mm_d1 (n := 1) hf
  simp only [mm_smp] at h
  split at h
  ·
    simp only [Option.some.injEq, Prod.mk.injEq] at h
    obtain ⟨rfl, rfl, rfl, rfl⟩ := h
    intro ad H locs ls hX hP hD hS hl
    exact lv_i2b C.1 C.2.1 hd rfl (k ad H locs ls hX hP hD hS hl)
  · simp at h
theorem sm_lcmp (C : mm_cx p R s m args meth c D tc A X scr mi) (hf : mm_fact mi (pc, .lcmp, nx, a, b, f, cI, cL) = true) (h : mm_smp scr (pc, .lcmp, nx, a, b, f, cI, cL) lv st w = some (lv', st', w', ob)) (ho : mm_ob ob)
    (k : mm_MW p l e R s m args below meth c Q D tc A (pg_n mi) X k1 k2 nx lv' st' w') : mm_MW p l e R s m args below meth c Q D tc A (pg_n mi) X k1 k2 pc lv st w := by
  obtain ⟨rfl, hd⟩ := mm_d1 (n := 1) hf
  simp only [mm_smp] at h
  split at h
  ·
    simp only [Option.some.injEq, Prod.mk.injEq] at h
    obtain ⟨rfl, rfl, rfl, rfl⟩ := h
    intro ad H locs ls hX hP hD hS hl
    exact W.lcmp C.1 C.2.1 hd (k ad H locs ls hX hP hD hS hl)
  · simp at h
theorem sm_idiv (C : mm_cx p R s m args meth c D tc A X scr mi) (hf : mm_fact mi (pc, .idiv, nx, a, b, f, cI, cL) = true) (h : mm_smp scr (pc, .idiv, nx, a, b, f, cI, cL) lv st w = some (lv', st', w', ob)) (ho : mm_ob ob)
    (k : mm_MW p l e R s m args below meth c Q D tc A (pg_n mi) X k1 k2 nx lv' st' w') : mm_MW p l e R s m args below meth c Q D tc A (pg_n mi) X k1 k2 pc lv st w := by
  obtain ⟨rfl, hd⟩ := mm_d1 (n := 1) hf
  simp only [mm_smp] at h
  split at h
  · split at h
    · simp at h
    · next hne =>
      simp only [Option.some.injEq, Prod.mk.injEq] at h
      obtain ⟨rfl, rfl, rfl, rfl⟩ := h
      intro ad H locs ls hX hP hD hS hl
      exact lv_idiv C.1 C.2.1 hd (of_decide_eq_false hne) (k ad H locs ls hX hP hD hS hl)
  · simp at h
theorem sm_irem (C : mm_cx p R s m args meth c D tc A X scr mi) (hf : mm_fact mi (pc, .irem, nx, a, b, f, cI, cL) = true) (h : mm_smp scr (pc, .irem, nx, a, b, f, cI, cL) lv st w = some (lv', st', w', ob)) (ho : mm_ob ob)
    (k : mm_MW p l e R s m args below meth c Q D tc A (pg_n mi) X k1 k2 nx lv' st' w') : mm_MW p l e R s m args below meth c Q D tc A (pg_n mi) X k1 k2 pc lv st w := by
  obtain ⟨rfl, hd⟩ := mm_d1 (n := 1) hf
  simp only [mm_smp] at h
  split at h
  · split at h
    · simp at h
    · next hne =>
      simp only [Option.some.injEq, Prod.mk.injEq] at h
      obtain ⟨rfl, rfl, rfl, rfl⟩ := h
      intro ad H locs ls hX hP hD hS hl
      exact lv_irem C.1 C.2.1 hd (of_decide_eq_false hne) (k ad H locs ls hX hP hD hS hl)
  · simp at h
theorem sm_dup (C : mm_cx p R s m args meth c D tc A X scr mi) (hf : mm_fact mi (pc, .dup, nx, a, b, f, cI, cL) = true) (h : mm_smp scr (pc, .dup, nx, a, b, f, cI, cL) lv st w = some (lv', st', w', ob)) (ho : mm_ob ob)
    (k : mm_MW p l e R s m args below meth c Q D tc A (pg_n mi) X k1 k2 nx lv' st' w') : mm_MW p l e R s m args below meth c Q D tc A (pg_n mi) X k1 k2 pc lv st w := by
  obtain ⟨rfl, hd⟩ := mm_d1 (n := 1) hf
  simp only [mm_smp] at h
  split at h
  · split at h
    · next hq =>
      simp only [Option.some.injEq, Prod.mk.injEq] at h
      obtain ⟨rfl, rfl, rfl, rfl⟩ := h
      intro ad H locs ls hX hP hD hS hl
      exact lv_dup C.1 C.2.1 hd (mm_cat (mm_beq hq)) (k ad H locs ls hX hP hD hS hl)
    · simp at h
  · simp at h
theorem sm_pop (C : mm_cx p R s m args meth c D tc A X scr mi) (hf : mm_fact mi (pc, .pop, nx, a, b, f, cI, cL) = true) (h : mm_smp scr (pc, .pop, nx, a, b, f, cI, cL) lv st w = some (lv', st', w', ob)) (ho : mm_ob ob)
    (k : mm_MW p l e R s m args below meth c Q D tc A (pg_n mi) X k1 k2 nx lv' st' w') : mm_MW p l e R s m args below meth c Q D tc A (pg_n mi) X k1 k2 pc lv st w := by
  obtain ⟨rfl, hd⟩ := mm_d1 (n := 1) hf
  simp only [mm_smp] at h
  split at h
  · split at h
    · next hq =>
      simp only [Option.some.injEq, Prod.mk.injEq] at h
      obtain ⟨rfl, rfl, rfl, rfl⟩ := h
      intro ad H locs ls hX hP hD hS hl
      exact lv_pop C.1 C.2.1 hd (mm_cat (mm_beq hq)) (k ad H locs ls hX hP hD hS hl)
    · simp at h
  · simp at h
theorem sm_dup_x1 (C : mm_cx p R s m args meth c D tc A X scr mi) (hf : mm_fact mi (pc, .dup_x1, nx, a, b, f, cI, cL) = true) (h : mm_smp scr (pc, .dup_x1, nx, a, b, f, cI, cL) lv st w = some (lv', st', w', ob)) (ho : mm_ob ob)
    (k : mm_MW p l e R s m args below meth c Q D tc A (pg_n mi) X k1 k2 nx lv' st' w') : mm_MW p l e R s m args below meth c Q D tc A (pg_n mi) X k1 k2 pc lv st w := by
  obtain ⟨rfl, hd⟩ := mm_d1 (n := 1) hf
  simp only [mm_smp] at h
  split at h
  · split at h
    · next hq =>
      simp only [Option.some.injEq, Prod.mk.injEq] at h
      obtain ⟨rfl, rfl, rfl, rfl⟩ := h
      intro ad H locs ls hX hP hD hS hl
      exact lv_dup_x1 C.1 C.2.1 hd (mm_cat (mm_beq (mm_and hq).1)) (mm_cat (mm_beq (mm_and hq).2)) (k ad H locs ls hX hP hD hS hl)
    · simp at h
  · simp at h
theorem sm_dup_x2 (C : mm_cx p R s m args meth c D tc A X scr mi) (hf : mm_fact mi (pc, .dup_x2, nx, a, b, f, cI, cL) = true) (h : mm_smp scr (pc, .dup_x2, nx, a, b, f, cI, cL) lv st w = some (lv', st', w', ob)) (ho : mm_ob ob)
    (k : mm_MW p l e R s m args below meth c Q D tc A (pg_n mi) X k1 k2 nx lv' st' w') : mm_MW p l e R s m args below meth c Q D tc A (pg_n mi) X k1 k2 pc lv st w := by
  obtain ⟨rfl, hd⟩ := mm_d1 (n := 1) hf
  simp only [mm_smp] at h
  split at h
  · split at h
    · next hq =>
      simp only [Option.some.injEq, Prod.mk.injEq] at h
      obtain ⟨rfl, rfl, rfl, rfl⟩ := h
      intro ad H locs ls hX hP hD hS hl
      exact lv_dup_x2 C.1 C.2.1 hd (mm_cat (mm_beq (mm_and hq).1)) (mm_cat (mm_beq (mm_and (mm_and hq).2).1)) (mm_cat (mm_beq (mm_and (mm_and hq).2).2)) (k ad H locs ls hX hP hD hS hl)
    · simp at h
  · simp at h
theorem sm_dup2 (C : mm_cx p R s m args meth c D tc A X scr mi) (hf : mm_fact mi (pc, .dup2, nx, a, b, f, cI, cL) = true) (h : mm_smp scr (pc, .dup2, nx, a, b, f, cI, cL) lv st w = some (lv', st', w', ob)) (ho : mm_ob ob)
    (k : mm_MW p l e R s m args below meth c Q D tc A (pg_n mi) X k1 k2 nx lv' st' w') : mm_MW p l e R s m args below meth c Q D tc A (pg_n mi) X k1 k2 pc lv st w := by
  obtain ⟨rfl, hd⟩ := mm_d1 (n := 1) hf
  simp only [mm_smp] at h
  split at h
  · split at h
    · next hq =>
      simp only [Option.some.injEq, Prod.mk.injEq] at h
      obtain ⟨rfl, rfl, rfl, rfl⟩ := h
      intro ad H locs ls hX hP hD hS hl
      exact lv_dup2_11 C.1 C.2.1 hd (mm_cat (mm_beq (mm_and hq).1)) (mm_cat (mm_beq (mm_and hq).2)) (k ad H locs ls hX hP hD hS hl)
    · simp at h
  · simp at h
theorem sm_getfield {z : Nat} (C : mm_cx p R s m args meth c D tc A X scr mi) (hf : mm_fact mi (pc, .getfield z, nx, a, b, f, cI, cL) = true) (h : mm_smp scr (pc, .getfield z, nx, a, b, f, cI, cL) lv st w = some (lv', st', w', ob)) (ho : mm_ob ob)
    (k : mm_MW p l e R s m args below meth c Q D tc A (pg_n mi) X k1 k2 nx lv' st' w') : mm_MW p l e R s m args below meth c Q D tc A (pg_n mi) X k1 k2 pc lv st w := by
  obtain ⟨rfl, hd, hq⟩ := mm_d2 (n := 3) hf
  obtain ⟨Cn, T, N, hc, hb, hin, hsame, hlink⟩ := mm_flh hq
  simp only [mm_smp] at h
  split at h
  · split at h
    · next j o heq =>
      split at h
      · next ho1 =>
        split at h
        · next v hv =>
          have ho1 := Nat.eq_of_beq_eq_true ho1
          simp only [Option.some.injEq, Prod.mk.injEq] at h
          obtain ⟨rfl, rfl, rfl, rfl⟩ := h
          intro ad H locs ls hX hP hD hS hl
          refine va_get (D := D) (ci := o.1) (C := Cn) (T := T) (N := N) C.1 C.2.1 C.2.2.2.2.1 (fun w hw => List.mem_cons_of_mem _ (hin w hw)) C.2.2.2.1 C.2.2.2.2.2.1 hP j (mm_fh heq) (by rw [ho1]; exact hc) b hb (C.2.2.2.2.1 _ (List.mem_cons_of_mem _ hlink)) (fun x hx => by rw [hsame] at hx; exact hx) (v := mm_v ad v) (by rw [List.getElem?_map, hv]; rfl) hd (k ad H locs ls hX hP hD hS hl)
        · simp at h
      · simp at h
    · simp at h
  · simp at h
theorem sm_putfield {z : Nat} (C : mm_cx p R s m args meth c D tc A X scr mi) (hf : mm_fact mi (pc, .putfield z, nx, a, b, f, cI, cL) = true) (h : mm_smp scr (pc, .putfield z, nx, a, b, f, cI, cL) lv st w = some (lv', st', w', ob)) (ho : mm_ob ob)
    (k : mm_MW p l e R s m args below meth c Q D tc A (pg_n mi) X k1 k2 nx lv' st' w') : mm_MW p l e R s m args below meth c Q D tc A (pg_n mi) X k1 k2 pc lv st w := by
  obtain ⟨rfl, hd, hq⟩ := mm_d2 (n := 3) hf
  obtain ⟨Cn, T, N, ty0, ty, hc, hb, hin, hsame, hlink, hty, hnm, hpd, hfin, hkind⟩ := mm_fph hq
  simp only [mm_smp] at h
  split at h
  · split at h
    · next x kk r _ j o heq =>
      split at h
      · next ho1 =>
        have h1 := Nat.eq_of_beq_eq_true (mm_and ho1).1
        have h2 := mm_blt (mm_and (mm_and ho1).2).1
        have h3 := mm_beq (mm_and (mm_and ho1).2).2
        simp only [Option.some.injEq, Prod.mk.injEq] at h
        obtain ⟨rfl, rfl, rfl, rfl⟩ := h
        intro ad H locs ls hX hP hD hS hl
        obtain ⟨hn1, hn2⟩ := hkind.1 h3 x
        rcases hfin with hfin | ⟨hfin, hini, hdecl⟩
        · exact va_put (D := D) (ci := o.1) (v := .int x) (ty := ty) (C := Cn) (T := T) (N := N) C.1 C.2.1 C.2.2.2.2.1 (fun w hw => List.mem_cons_of_mem _ (hin w hw)) ty0 hty hnm C.2.2.2.1 C.2.2.2.2.2.1 hP hD hS j (mm_fh heq) (by rw [h1]; exact hc) b hb (C.2.2.2.2.1 _ (List.mem_cons_of_mem _ hlink)) (fun x hx => by rw [hsame] at hx; exact hx) hfin hpd hn1 hn2 (by rw [List.length_map]; exact h2) hd (fun H1 locs1 hP1 hD1 hS1 => k ad H1 locs1 ls (mm_uX hX) (mm_uP (mm_set1 o.2 b (.int x)) heq hP1) (mm_uD (mm_set1 o.2 b (.int x)) heq hD1) hS1 hl)
        · exact va_putF (D := D) (ci := o.1) (v := .int x) (ty := ty) (C := Cn) (T := T) (N := N) C.1 C.2.1 C.2.2.2.2.1 (fun w hw => List.mem_cons_of_mem _ (hin w hw)) ty0 hty hnm C.2.2.2.1 C.2.2.2.2.2.1 hP hD hS j (mm_fh heq) (by rw [h1]; exact hc) b hb (C.2.2.2.2.1 _ (List.mem_cons_of_mem _ hlink)) (fun x hx => by rw [hsame] at hx; exact hx) hfin (C.2.2.2.2.2.2.1.trans hini) hdecl hpd hn1 hn2 (by rw [List.length_map]; exact h2) hd (fun H1 locs1 hP1 hD1 hS1 => k ad H1 locs1 ls (mm_uX hX) (mm_uP (mm_set1 o.2 b (.int x)) heq hP1) (mm_uD (mm_set1 o.2 b (.int x)) heq hD1) hS1 hl)
      · simp at h
    · simp at h
  · split at h
    · next x kk r _ j o heq =>
      split at h
      · next ho1 =>
        have h1 := Nat.eq_of_beq_eq_true (mm_and ho1).1
        have h2 := mm_blt (mm_and (mm_and ho1).2).1
        have h3 := mm_beq (mm_and (mm_and ho1).2).2
        simp only [Option.some.injEq, Prod.mk.injEq] at h
        obtain ⟨rfl, rfl, rfl, rfl⟩ := h
        intro ad H locs ls hX hP hD hS hl
        obtain ⟨hn1, hn2⟩ := hkind.2 h3 (ad x)
        rcases hfin with hfin | ⟨hfin, hini, hdecl⟩
        · exact va_put (D := D) (ci := o.1) (v := .ref (ad x)) (ty := ty) (C := Cn) (T := T) (N := N) C.1 C.2.1 C.2.2.2.2.1 (fun w hw => List.mem_cons_of_mem _ (hin w hw)) ty0 hty hnm C.2.2.2.1 C.2.2.2.2.2.1 hP hD hS j (mm_fh heq) (by rw [h1]; exact hc) b hb (C.2.2.2.2.1 _ (List.mem_cons_of_mem _ hlink)) (fun x hx => by rw [hsame] at hx; exact hx) hfin hpd hn1 hn2 (by rw [List.length_map]; exact h2) hd (fun H1 locs1 hP1 hD1 hS1 => k ad H1 locs1 ls (mm_uX hX) (mm_uP (mm_set1 o.2 b (.ref x)) heq hP1) (mm_uD (mm_set1 o.2 b (.ref x)) heq hD1) hS1 hl)
        · exact va_putF (D := D) (ci := o.1) (v := .ref (ad x)) (ty := ty) (C := Cn) (T := T) (N := N) C.1 C.2.1 C.2.2.2.2.1 (fun w hw => List.mem_cons_of_mem _ (hin w hw)) ty0 hty hnm C.2.2.2.1 C.2.2.2.2.2.1 hP hD hS j (mm_fh heq) (by rw [h1]; exact hc) b hb (C.2.2.2.2.1 _ (List.mem_cons_of_mem _ hlink)) (fun x hx => by rw [hsame] at hx; exact hx) hfin (C.2.2.2.2.2.2.1.trans hini) hdecl hpd hn1 hn2 (by rw [List.length_map]; exact h2) hd (fun H1 locs1 hP1 hD1 hS1 => k ad H1 locs1 ls (mm_uX hX) (mm_uP (mm_set1 o.2 b (.ref x)) heq hP1) (mm_uD (mm_set1 o.2 b (.ref x)) heq hD1) hS1 hl)
      · simp at h
    · simp at h
  · simp at h
theorem sm_laload (C : mm_cx p R s m args meth c D tc A X scr mi) (hf : mm_fact mi (pc, .laload, nx, a, b, f, cI, cL) = true) (h : mm_smp scr (pc, .laload, nx, a, b, f, cI, cL) lv st w = some (lv', st', w', ob)) (ho : mm_ob ob)
    (k : mm_MW p l e R s m args below meth c Q D tc A (pg_n mi) X k1 k2 nx lv' st' w') : mm_MW p l e R s m args below meth c Q D tc A (pg_n mi) X k1 k2 pc lv st w := by
  obtain ⟨rfl, hd⟩ := mm_d1 (n := 1) hf
  simp only [mm_smp] at h
  split at h
  · split at h
    · next j n g heq =>
      simp only [Option.some.injEq, Prod.mk.injEq] at h
      obtain ⟨rfl, rfl, rfl, rfl⟩ := h
      intro ad H locs ls hX hP hD hS hl
      exact va_lald C.1 C.2.1 C.2.2.2.2.2.1 hP j 1 (mm_fh heq) rfl ho.1 hd (k ad H locs ls hX hP hD hS hl)
    · simp at h
  · simp at h
theorem sm_baload (C : mm_cx p R s m args meth c D tc A X scr mi) (hf : mm_fact mi (pc, .baload, nx, a, b, f, cI, cL) = true) (h : mm_smp scr (pc, .baload, nx, a, b, f, cI, cL) lv st w = some (lv', st', w', ob)) (ho : mm_ob ob)
    (k : mm_MW p l e R s m args below meth c Q D tc A (pg_n mi) X k1 k2 nx lv' st' w') : mm_MW p l e R s m args below meth c Q D tc A (pg_n mi) X k1 k2 pc lv st w := by
  obtain ⟨rfl, hd⟩ := mm_d1 (n := 1) hf
  simp only [mm_smp] at h
  split at h
  · split at h
    · next j n g heq =>
      simp only [Option.some.injEq, Prod.mk.injEq] at h
      obtain ⟨rfl, rfl, rfl, rfl⟩ := h
      intro ad H locs ls hX hP hD hS hl
      exact va_bald C.1 C.2.1 C.2.2.2.2.2.1 hP j 2 (mm_fh heq) rfl ho.1 hd (k ad H locs ls hX hP hD hS hl)
    · next j n g heq =>
      simp only [Option.some.injEq, Prod.mk.injEq] at h
      obtain ⟨rfl, rfl, rfl, rfl⟩ := h
      intro ad H locs ls hX hP hD hS hl
      exact va_zald C.1 C.2.1 C.2.2.2.2.2.1 hP j 3 (mm_fh heq) rfl ho.1 hd (k ad H locs ls hX hP hD hS hl)
    · simp at h
  · simp at h
theorem sm_iaload (C : mm_cx p R s m args meth c D tc A X scr mi) (hf : mm_fact mi (pc, .iaload, nx, a, b, f, cI, cL) = true) (h : mm_smp scr (pc, .iaload, nx, a, b, f, cI, cL) lv st w = some (lv', st', w', ob)) (ho : mm_ob ob)
    (k : mm_MW p l e R s m args below meth c Q D tc A (pg_n mi) X k1 k2 nx lv' st' w') : mm_MW p l e R s m args below meth c Q D tc A (pg_n mi) X k1 k2 pc lv st w := by
  obtain ⟨rfl, hd⟩ := mm_d1 (n := 1) hf
  simp only [mm_smp] at h
  split at h
  · split at h
    · next hk =>
      split at h
      · next n xs =>
        simp only [Option.some.injEq, Prod.mk.injEq] at h
        obtain ⟨rfl, rfl, rfl, rfl⟩ := h
        intro ad H locs ls hX hP hD hS hl
        obtain ⟨bA, hXs, hbl, hbA, hbX⟩ := C.2.2.2.2.2.2.2.2 n xs rfl
        have hk := Nat.eq_of_beq_eq_true hk
        subst hk
        exact va_sld (b := ad 99) C.1 C.2.1 (by rw [hbX _ ad hX]; exact hXs) (by rw [hbX _ ad hX]; exact hbl) (by rw [hbX _ ad hX]; exact hbA) hS ho.1 hd (k ad H locs ls hX hP hD hS hl)
      · simp at h
    · split at h
      · next j n g heq =>
        simp only [Option.some.injEq, Prod.mk.injEq] at h
        obtain ⟨rfl, rfl, rfl, rfl⟩ := h
        intro ad H locs ls hX hP hD hS hl
        exact va_iald C.1 C.2.1 C.2.2.2.2.2.1 hP j 0 (mm_fh heq) rfl ho.1 hd (k ad H locs ls hX hP hD hS hl)
      · simp at h
  · simp at h
theorem sm_iastore (C : mm_cx p R s m args meth c D tc A X scr mi) (hf : mm_fact mi (pc, .iastore, nx, a, b, f, cI, cL) = true) (h : mm_smp scr (pc, .iastore, nx, a, b, f, cI, cL) lv st w = some (lv', st', w', ob)) (ho : mm_ob ob)
    (k : mm_MW p l e R s m args below meth c Q D tc A (pg_n mi) X k1 k2 nx lv' st' w') : mm_MW p l e R s m args below meth c Q D tc A (pg_n mi) X k1 k2 pc lv st w := by
  obtain ⟨rfl, hd⟩ := mm_d1 (n := 1) hf
  simp only [mm_smp] at h
  split at h
  · split at h
    · next j n g heq =>
      simp only [Option.some.injEq, Prod.mk.injEq] at h
      obtain ⟨rfl, rfl, rfl, rfl⟩ := h
      intro ad H locs ls hX hP hD hS hl
      exact va_iast C.1 C.2.1 C.2.2.2.2.2.1 hP hD hS j 0 (mm_fh heq) rfl ho.1 hd (fun H1 locs1 hP1 hD1 hS1 => k ad H1 locs1 ls (mm_uX hX) (mm_uP rfl heq hP1) (mm_uD rfl heq hD1) hS1 hl)
    · simp at h
  · simp at h
theorem sm_lastore (C : mm_cx p R s m args meth c D tc A X scr mi) (hf : mm_fact mi (pc, .lastore, nx, a, b, f, cI, cL) = true) (h : mm_smp scr (pc, .lastore, nx, a, b, f, cI, cL) lv st w = some (lv', st', w', ob)) (ho : mm_ob ob)
    (k : mm_MW p l e R s m args below meth c Q D tc A (pg_n mi) X k1 k2 nx lv' st' w') : mm_MW p l e R s m args below meth c Q D tc A (pg_n mi) X k1 k2 pc lv st w := by
  obtain ⟨rfl, hd⟩ := mm_d1 (n := 1) hf
  simp only [mm_smp] at h
  split at h
  · split at h
    · next j n g heq =>
      simp only [Option.some.injEq, Prod.mk.injEq] at h
      obtain ⟨rfl, rfl, rfl, rfl⟩ := h
      intro ad H locs ls hX hP hD hS hl
      exact va_last C.1 C.2.1 C.2.2.2.2.2.1 hP hD hS j 1 (mm_fh heq) rfl ho.1 hd (fun H1 locs1 hP1 hD1 hS1 => k ad H1 locs1 ls (mm_uX hX) (mm_uP rfl heq hP1) (mm_uD rfl heq hD1) hS1 hl)
    · simp at h
  · simp at h
theorem sm_bastore (C : mm_cx p R s m args meth c D tc A X scr mi) (hf : mm_fact mi (pc, .bastore, nx, a, b, f, cI, cL) = true) (h : mm_smp scr (pc, .bastore, nx, a, b, f, cI, cL) lv st w = some (lv', st', w', ob)) (ho : mm_ob ob)
    (k : mm_MW p l e R s m args below meth c Q D tc A (pg_n mi) X k1 k2 nx lv' st' w') : mm_MW p l e R s m args below meth c Q D tc A (pg_n mi) X k1 k2 pc lv st w := by
  obtain ⟨rfl, hd⟩ := mm_d1 (n := 1) hf
  simp only [mm_smp] at h
  split at h
  · split at h
    · next j n g heq =>
      simp only [Option.some.injEq, Prod.mk.injEq] at h
      obtain ⟨rfl, rfl, rfl, rfl⟩ := h
      intro ad H locs ls hX hP hD hS hl
      exact va_bast C.1 C.2.1 C.2.2.2.2.2.1 hP hD hS j 2 (mm_fh heq) rfl ho.1 hd (fun H1 locs1 hP1 hD1 hS1 => k ad H1 locs1 ls (mm_uX hX) (mm_uP rfl heq hP1) (mm_uD rfl heq hD1) hS1 hl)
    · next j n g heq =>
      simp only [Option.some.injEq, Prod.mk.injEq] at h
      obtain ⟨rfl, rfl, rfl, rfl⟩ := h
      intro ad H locs ls hX hP hD hS hl
      exact va_zast C.1 C.2.1 C.2.2.2.2.2.1 hP hD hS j 3 (mm_fh heq) rfl ho.1 hd (fun H1 locs1 hP1 hD1 hS1 => k ad H1 locs1 ls (mm_uX hX) (mm_uP rfl heq hP1) (mm_uD rfl heq hD1) hS1 hl)
    · simp at h
  · simp at h
theorem sm_arraylength (C : mm_cx p R s m args meth c D tc A X scr mi) (hf : mm_fact mi (pc, .arraylength, nx, a, b, f, cI, cL) = true) (h : mm_smp scr (pc, .arraylength, nx, a, b, f, cI, cL) lv st w = some (lv', st', w', ob)) (ho : mm_ob ob)
    (k : mm_MW p l e R s m args below meth c Q D tc A (pg_n mi) X k1 k2 nx lv' st' w') : mm_MW p l e R s m args below meth c Q D tc A (pg_n mi) X k1 k2 pc lv st w := by
  obtain ⟨rfl, hd⟩ := mm_d1 (n := 1) hf
  simp only [mm_smp] at h
  split at h
  · split at h
    · next hk =>
      split at h
      · next n xs =>
        simp only [Option.some.injEq, Prod.mk.injEq] at h
        obtain ⟨rfl, rfl, rfl, rfl⟩ := h
        intro ad H locs ls hX hP hD hS hl
        obtain ⟨bA, hXs, hbl, hbA, hbX⟩ := C.2.2.2.2.2.2.2.2 n xs rfl
        have hk := Nat.eq_of_beq_eq_true hk
        subst hk
        exact va_slen (b := ad 99) C.1 C.2.1 (by rw [hbX _ ad hX]; exact hXs) (by rw [hbX _ ad hX]; exact hbl) (by rw [hbX _ ad hX]; exact hbA) hS hd (k ad H locs ls hX hP hD hS hl)
      · simp at h
    · split at h
      · next j t x heq =>
        split at h
        · next ht =>
          simp only [Option.some.injEq, Prod.mk.injEq] at h
          obtain ⟨rfl, rfl, rfl, rfl⟩ := h
          intro ad H locs ls hX hP hD hS hl
          obtain ⟨ty, hty⟩ := mm_tyh (tc := tc) (mm_blt ht)
          exact va_alen C.1 C.2.1 C.2.2.2.2.2.1 hP j t (mm_fh heq) hty rfl hd (k ad H locs ls hX hP hD hS hl)
        · simp at h
      · simp at h
  · simp at h
theorem mm_smp_ok {q : mm_I} (C : mm_cx p R s m args meth c D tc A X scr mi) (hf : mm_fact mi q = true) (hpc : q.1 = pc) (h : mm_smp scr q lv st w = some (lv', st', w', ob)) (ho : mm_ob ob)
    (k : mm_MW p l e R s m args below meth c Q D tc A (pg_n mi) X k1 k2 q.2.2.1 lv' st' w') : mm_MW p l e R s m args below meth c Q D tc A (pg_n mi) X k1 k2 pc lv st w := by
  obtain ⟨q0, i, nx, a, b, f, cI, cL⟩ := q
  cases hpc
  cases i with
  | iconst z => exact sm_iconst C hf h ho k
  | bipush z => exact sm_bipush C hf h ho k
  | sipush z => exact sm_sipush C hf h ho k
  | lconst z => exact sm_lconst C hf h ho k
  | ldc z => exact sm_ldc C hf h ho k
  | ldc2_w z => exact sm_ldc2_w C hf h ho k
  | iload_n z => exact sm_iload_n C hf h ho k
  | iload z => exact sm_iload C hf h ho k
  | lload_n z => exact sm_lload_n C hf h ho k
  | lload z => exact sm_lload C hf h ho k
  | aload_n z => exact sm_aload_n C hf h ho k
  | aload z => exact sm_aload C hf h ho k
  | istore_n z => exact sm_istore_n C hf h ho k
  | istore z => exact sm_istore C hf h ho k
  | astore_n z => exact sm_astore_n C hf h ho k
  | astore z => exact sm_astore C hf h ho k
  | lstore_n z => exact sm_lstore_n C hf h ho k
  | lstore z => exact sm_lstore C hf h ho k
  | iinc z y => exact sm_iinc C hf h ho k
  | iadd => exact sm_iadd C hf h ho k
  | isub => exact sm_isub C hf h ho k
  | imul => exact sm_imul C hf h ho k
  | iand => exact sm_iand C hf h ho k
  | ior => exact sm_ior C hf h ho k
  | ishl => exact sm_ishl C hf h ho k
  | ishr => exact sm_ishr C hf h ho k
  | ladd => exact sm_ladd C hf h ho k
  | lsub => exact sm_lsub C hf h ho k
  | land => exact sm_land C hf h ho k
  | lor => exact sm_lor C hf h ho k
  | lxor => exact sm_lxor C hf h ho k
  | ineg => exact sm_ineg C hf h ho k
  | lneg => exact sm_lneg C hf h ho k
  | iushr => exact sm_iushr C hf h ho k
  | lushr => exact sm_lushr C hf h ho k
  | lshl => exact sm_lshl C hf h ho k
  | lshr => exact sm_lshr C hf h ho k
  | i2l => exact sm_i2l C hf h ho k
  | l2i => exact sm_l2i C hf h ho k
  | i2b => exact sm_i2b C hf h ho k
  | lcmp => exact sm_lcmp C hf h ho k
  | idiv => exact sm_idiv C hf h ho k
  | irem => exact sm_irem C hf h ho k
  | dup => exact sm_dup C hf h ho k
  | pop => exact sm_pop C hf h ho k
  | dup_x1 => exact sm_dup_x1 C hf h ho k
  | dup_x2 => exact sm_dup_x2 C hf h ho k
  | dup2 => exact sm_dup2 C hf h ho k
  | getfield z => exact sm_getfield C hf h ho k
  | putfield z => exact sm_putfield C hf h ho k
  | laload => exact sm_laload C hf h ho k
  | baload => exact sm_baload C hf h ho k
  | iaload => exact sm_iaload C hf h ho k
  | iastore => exact sm_iastore C hf h ho k
  | lastore => exact sm_lastore C hf h ho k
  | bastore => exact sm_bastore C hf h ho k
  | arraylength => exact sm_arraylength C hf h ho k
  | _ => exact absurd h (by simp [mm_smp])
end
