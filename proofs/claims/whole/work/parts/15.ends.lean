section
variable {p : Program} {l : Launch} {e : Env} {R : Room} {s : State} {m : MethodId} {args : Array Value} {below : List Frame} {meth : Method} {c : Code} {Q : State → Prop} {D : va_G} {tc : Nat → ClassId} {A : Nat → Prop} {mi : Nat} {scr : Option (Nat × (Nat → Int32))} {k1 k2 pc nx a b f n0 d : Nat} {cI : Int32} {cL : Int64} {lv : mm_L} {st : List Value} {w : mm_W} {K : mm_K} {N : mm_M} {cal : Bool → Nat → List Value → mm_W → mm_K → Prop} {al : Bool} {ad0 : Nat → Nat}
theorem so_ireturn (C : mm_cx p R s m args meth c D tc A (mm_X0 al n0 ad0) scr mi) (hr : meth.sig.returnType = pg_r mi) (hlk : meth.locks = false) (hf : mm_fact mi (pc, .ireturn, nx, a, b, f, cI, cL) = true) (h : mm_oth cal al mi K N k1 k2 pc lv st w (pc, .ireturn, nx, a, b, f, cI, cL)) :
    mm_MW p l e R s m args below meth c (mm_Ez below D tc ad0 A al n0 K (pg_c mi).1 (pg_c mi).2 args s) D tc A (pg_n mi) (mm_X0 al n0 ad0) k1 k2 pc lv st w := by
  obtain ⟨rfl, hd, hq⟩ := mm_d2 (n := 1) hf
  have hq := of_decide_eq_true hq
  simp only [mm_oth] at h
  split at h
  · next x =>
    split at h
    · next hc =>
      obtain ⟨hc1, hc2⟩ := mm_and hc
      intro ad H locs ls hX hP hD hS hl
      refine W.widen (k := (pg_c mi).1) (n := (pg_c mi).2) (mm_ble hc1) (mm_ble hc2) ?_
      have key : ∀ ty, pg_r mi = some ty → narrow ty (.int x) = .int x → K (.inl (some (.int x))) w → W p l e R s m args below meth c H locs (pg_c mi).1 (pg_c mi).2 (mm_Ez below D tc ad0 A al n0 K (pg_c mi).1 (pg_c mi).2 args s) (F0 m pc ls ([Value.int x].map (mm_v ad))) := by
        intro ty hty hn hk
        refine mm_post (W.zret (Qc := fun _ st o t => o = .returned (some (.int x)) ∧ va_P D vwCl (mm_w tc ad w) t.heap ∧ va_F A st t) (free := A) C.1 C.2.1 (hr.trans hty) hn (fun t ht hW => ⟨rfl, by rw [ht]; exact hP, hS.F ht⟩) hS.2.2 hd hlk) (fun t ht => ?_)
        obtain ⟨o, u1, u2, ⟨ho, hP1, hF⟩, L, ⟨-, hW, hsm⟩, hL⟩ := ht
        exact ⟨o, u1, u2, .inl (some (.int x)), w, ad, L, hk, hX, hP1, hD, hF, hW, hsm, hL, ho⟩
      cases a with
      | zero => exact key .int hq rfl h
      | succ a => exact key .boolean hq (congrArg Value.int h.1) h.2
    · exact h.elim
  · exact h.elim
theorem so_lreturn (C : mm_cx p R s m args meth c D tc A (mm_X0 al n0 ad0) scr mi) (hr : meth.sig.returnType = pg_r mi) (hlk : meth.locks = false) (hf : mm_fact mi (pc, .lreturn, nx, a, b, f, cI, cL) = true) (h : mm_oth cal al mi K N k1 k2 pc lv st w (pc, .lreturn, nx, a, b, f, cI, cL)) :
    mm_MW p l e R s m args below meth c (mm_Ez below D tc ad0 A al n0 K (pg_c mi).1 (pg_c mi).2 args s) D tc A (pg_n mi) (mm_X0 al n0 ad0) k1 k2 pc lv st w := by
  obtain ⟨rfl, hd, hq⟩ := mm_d2 (n := 1) hf
  have hq := of_decide_eq_true hq
  simp only [mm_oth] at h
  split at h
  · next x =>
    split at h
    · next hc =>
      obtain ⟨hc1, hc2⟩ := mm_and hc
      intro ad H locs ls hX hP hD hS hl
      refine W.widen (k := (pg_c mi).1) (n := (pg_c mi).2) (mm_ble hc1) (mm_ble hc2) ?_
      refine mm_post (W.lret (Qc := fun _ st o t => o = .returned (some (.long x)) ∧ va_P D vwCl (mm_w tc ad w) t.heap ∧ va_F A st t) (free := A) C.1 C.2.1 (hr.trans hq) (fun t ht hW => ⟨rfl, by rw [ht]; exact hP, hS.F ht⟩) hS.2.2 hd hlk) (fun t ht => ?_)
      obtain ⟨o, u1, u2, ⟨ho, hP1, hF⟩, L, ⟨-, hW, hsm⟩, hL⟩ := ht
      exact ⟨o, u1, u2, .inl (some (.long x)), w, ad, L, h, hX, hP1, hD, hF, hW, hsm, hL, ho⟩
    · exact h.elim
  · exact h.elim
theorem so_return_ (C : mm_cx p R s m args meth c D tc A (mm_X0 al n0 ad0) scr mi) (hr : meth.sig.returnType = pg_r mi) (hlk : meth.locks = false) (hf : mm_fact mi (pc, .return_, nx, a, b, f, cI, cL) = true) (h : mm_oth cal al mi K N k1 k2 pc lv st w (pc, .return_, nx, a, b, f, cI, cL)) :
    mm_MW p l e R s m args below meth c (mm_Ez below D tc ad0 A al n0 K (pg_c mi).1 (pg_c mi).2 args s) D tc A (pg_n mi) (mm_X0 al n0 ad0) k1 k2 pc lv st w := by
  obtain ⟨rfl, hd, hq⟩ := mm_d2 (n := 1) hf
  have hq := of_decide_eq_true hq
  simp only [mm_oth] at h
  split at h
  · split at h
    · next hc =>
      obtain ⟨hc1, hc2⟩ := mm_and hc
      intro ad H locs ls hX hP hD hS hl
      refine W.widen (k := (pg_c mi).1) (n := (pg_c mi).2) (mm_ble hc1) (mm_ble hc2) ?_
      refine mm_post (W.vret (Qc := fun _ st o t => o = .returned none ∧ va_P D vwCl (mm_w tc ad w) t.heap ∧ va_F A st t) (free := A) C.1 C.2.1 (hr.trans hq) (fun t ht hW => ⟨rfl, by rw [ht]; exact hP, hS.F ht⟩) hS.2.2 hd hlk) (fun t ht => ?_)
      obtain ⟨o, u1, u2, ⟨ho, hP1, hF⟩, L, ⟨-, hW, hsm⟩, hL⟩ := ht
      exact ⟨o, u1, u2, .inl none, w, ad, L, h, hX, hP1, hD, hF, hW, hsm, hL, ho⟩
    · exact h.elim
  · exact h.elim
/-- thrown out of a method that has no handlers -/
theorem mm_bk0 (hlk : meth.locks = false) (htab : c.exceptionTable.toList.map (fun h => (h.startPc, h.endPc, h.handlerPc, h.catchType)) = pg_hh mi) (hnil : pg_hh mi = []) :
    mm_bk p l e R s m args below meth c (mm_Ez below D tc ad0 A al n0 K (pg_c mi).1 (pg_c mi).2 args s) D tc A (mm_X0 al n0 ad0) mi K N := by
  intro k1 k2 pc nx lv r x w ad ce q H locs ls h hX hP hD hS hl hce hcv hcl h1 h2 T hT Y
  have h : K (.inr x) w := by
    have hno : mm_h mi pc x = none := by
      unfold mm_h
      rw [hnil]
      rfl
    unfold mm_back at h
    simp only [hno, hnil] at h
    exact h
  have hex : c.exceptionTable.toList = [] := List.map_eq_nil_iff.mp (htab.trans hnil)
  obtain ⟨st1, hrun, hend, hW, hsm⟩ := Y.leaveThrown q (g := F0 m pc ls (r.map (mm_v ad))) rfl rfl rfl (by rw [hex]; exact fun x hx => nomatch hx) hlk
  refine ⟨_, st1, .threw q, hrun, hend, .inr x, w, ad, locs, h, hX, ?_, hD, hS.F hT, hW, hsm.mono h1 h2, hS.2.2, q, ce, rfl, ?_, hcv, hcl⟩
  · show va_P D vwCl (mm_w tc ad w) T.heap
    rw [hT]
    exact hP
  · show T.heap[q]? = some ce
    rw [hT]
    exact hce
/-- a new place gets its address -/
theorem mm_X0.new {n : Nat} {ad : Nat → Nat} {q : Nat} (h : mm_X0 al n0 ad0 n ad) (hal : al = true) (hn : n < 99) : mm_X0 al n0 ad0 (n + 1) (va_up ad n q) := by
  refine ⟨fun h9 => ?_, Nat.le_succ_of_le h.2.1, fun k hk => ?_⟩
  · rw [hal] at h9
    cases h9
  · have hne : k ≠ n := by
      have := h.2.1
      omega
    show (if k = n then q else ad k) = ad0 k
    rw [if_neg hne]
    exact h.2.2 k hk
theorem mm_upe {n : Nat} {ad : Nat → Nat} {q : Nat} (hn : n < 99) : ∀ j, j < n ∨ j = 99 → va_up ad n q j = ad j := fun j hj => by
  have : j ≠ n := by omega
  show (if j = n then q else ad j) = ad j
  rw [if_neg this]
theorem mm_ups {n : Nat} {ad : Nat → Nat} {q : Nat} : va_up ad n q n = q := by
  show (if n = n then q else ad n) = q
  rw [if_pos rfl]
theorem mm_wapp {ad : Nat → Nat} {q : Nat} {x : mm_E} {y : va_E} (hw : w.all (fun z => Nat.blt z.1 w.length && mm_fe w.length z.2) = true) (hn : w.length < 99) (hx : mm_e tc (va_up ad w.length q) x = y) : mm_w tc (va_up ad w.length q) (w ++ [(w.length, x)]) = mm_w tc ad w ++ [(q, y)] := by
  have h1 : mm_w tc (va_up ad w.length q) w = mm_w tc ad w := mm_fvw hw (mm_upe hn)
  unfold mm_w at h1 ⊢
  rw [List.map_append, h1]
  show _ ++ [(va_up ad w.length q w.length, mm_e tc (va_up ad w.length q) x)] = _
  rw [mm_ups, hx]
set_option maxHeartbeats 1000000 in
theorem so_new {z : Nat} (C : mm_cx p R s m args meth c D tc A (mm_X0 al n0 ad0) scr mi) (hR : mm_rr R d mi)
    (hN : ∀ k1 k2 pc lv st w, N k1 k2 pc lv st w → mm_MW p l e R s m args below meth c Q D tc A (pg_n mi) (mm_X0 al n0 ad0) k1 k2 pc lv st w) (hf : mm_fact mi (pc, .new z, nx, a, b, 0, cI, cL) = true) (h : mm_oth cal al mi K N k1 k2 pc lv st w (pc, .new z, nx, a, b, 0, cI, cL)) : mm_MW p l e R s m args below meth c Q D tc A (pg_n mi) (mm_X0 al n0 ad0) k1 k2 pc lv st w := by
  obtain ⟨rfl, hd, hq⟩ := mm_d2 (n := 3) hf
  have hwd : ∀ {w : Jvm.Cond}, mm_in w = true → w.before args s = true := fun h => C.2.2.2.2.1 _ (List.mem_cons_of_mem _ (pg_in h))
  simp only [mm_nw] at hq
  split at hq
  · simp at hq
  next Cn T0 N0 hcn =>
  obtain ⟨q1, hq⟩ := mm_and hq
  obtain ⟨q2, hq⟩ := mm_and hq
  obtain ⟨q3, q4⟩ := mm_and hq
  have q1 := mm_beq q1
  subst q1
  simp only [mm_oth] at h
  split at h
  · next hc =>
    obtain ⟨hc, hcc⟩ := mm_and hc
    obtain ⟨hal, hfr⟩ := mm_and hc
    obtain ⟨hc1, hc2⟩ := mm_and hcc
    obtain ⟨hn, hfr⟩ := mm_and hfr
    obtain ⟨hfl, hfr⟩ := mm_and hfr
    obtain ⟨hfs, hfw⟩ := mm_and hfr
    have hn := mm_blt hn
    intro ad H locs ls hX hP hD hS hl
    obtain ⟨ty, hty, hdf⟩ := pg_zd _ _ _ _ hcn
    refine va_new (ci := a) (fs := pg_z a) (C := Cn) (T := T0) (N := b) C.1 C.2.1 C.2.2.2.2.1 (fun w hw => List.mem_cons_of_mem _ (pg_cw _ _ _ _ hcn w hw)) ty hty C.2.2.2.1 (C.2.2.2.2.1 _ (List.mem_cons_of_mem _ (mm_lwh q2))) (hwd q3) (hwd q4) C.2.2.2.2.2.1 hP hD hS C.2.2.2.2.2.2.2.1 hcn hdf (by rw [hR.2.1]; exact mm_ble hc1) (by rw [hR.2.2]; exact mm_ble hc2) hd (fun q H1 hP1 hD1 hS1 => ?_)
    have hwe : mm_w tc (va_up ad w.length q) (w ++ [(w.length, .inr (a, pg_z a))]) = mm_w tc ad w ++ [(q, .inr (a, pg_z a))] := mm_wapp hfw hn (by
      show (Sum.inr (a, (pg_z a).map (mm_v (va_up ad w.length q))) : va_E) = Sum.inr (a, pg_z a)
      rw [mm_zv])
    have hst : Value.ref q :: st.map (mm_v ad) = (Value.ref w.length :: st).map (mm_v (va_up ad w.length q)) := by
      rw [List.map_cons, mm_fvs hfs (mm_upe hn)]
      show _ = Value.ref (va_up ad w.length q w.length) :: _
      rw [mm_ups]
    rw [hst]
    exact hN _ _ _ _ _ _ h (va_up ad w.length q) H1 locs ls (by rw [List.length_append]; exact hX.new hal hn) (by rw [hwe]; exact hP1) (by rw [hwe]; exact hD1) hS1 (by rw [mm_fvl hfl (mm_upe hn)]; exact hl)
  · exact h.elim
theorem mm_arz {a b : Nat} (ha : a < 4) : ∃ x : vp_A, pg_ar a b = .inl (a, x) ∧ ∀ cA : ClassId, vp_cell cA x = arrV cA b (fun _ => defaultValue (mm_tyOf a)) := by
  match a, ha with
  | 0, _ => exact ⟨_, rfl, fun _ => rfl⟩
  | 1, _ => exact ⟨_, rfl, fun _ => rfl⟩
  | 2, _ => exact ⟨_, rfl, fun _ => rfl⟩
  | 3, _ => exact ⟨_, rfl, fun _ => rfl⟩
theorem mm_tcu {a : Nat} {cA : ClassId} (ha : a < 4) (h : va_K D vwCl (mm_ty tc ++ [(cA, mm_tyOf a)]) s) : cA = tc a := by
  have h1 := (h.2 4 (cA, mm_tyOf a) rfl).2
  have key : ∀ i, i < 4 → (mm_ty tc ++ [(cA, mm_tyOf a)])[i]? = some (tc i, mm_tyOf i) := by
    intro i hi
    match i, hi with
    | 0, _ => rfl
    | 1, _ => rfl
    | 2, _ => rfl
    | 3, _ => rfl
  have h2 := (h.2 a (tc a, mm_tyOf a) (key a ha)).2
  match a, ha, h1, h2 with
  | 0, _, h1, h2 => exact Option.some.inj (h1.symm.trans h2)
  | 1, _, h1, h2 => exact Option.some.inj (h1.symm.trans h2)
  | 2, _, h1, h2 => exact Option.some.inj (h1.symm.trans h2)
  | 3, _, h1, h2 => exact Option.some.inj (h1.symm.trans h2)
set_option maxHeartbeats 1000000 in
theorem so_newarray {z : ArrayType} (C : mm_cx p R s m args meth c D tc A (mm_X0 al n0 ad0) scr mi) (hR : mm_rr R d mi)
    (hN : ∀ k1 k2 pc lv st w, N k1 k2 pc lv st w → mm_MW p l e R s m args below meth c Q D tc A (pg_n mi) (mm_X0 al n0 ad0) k1 k2 pc lv st w) (hf : mm_fact mi (pc, .newarray z, nx, a, b, f, cI, cL) = true) (h : mm_oth cal al mi K N k1 k2 pc lv st w (pc, .newarray z, nx, a, b, f, cI, cL)) : mm_MW p l e R s m args below meth c Q D tc A (pg_n mi) (mm_X0 al n0 ad0) k1 k2 pc lv st w := by
  obtain ⟨rfl, hd, hq⟩ := mm_d2 (n := 2) hf
  have hwd : ∀ {w : Jvm.Cond}, mm_in w = true → w.before args s = true := fun h => C.2.2.2.2.1 _ (List.mem_cons_of_mem _ (pg_in h))
  obtain ⟨q1, hq⟩ := mm_and hq
  obtain ⟨q2, hq⟩ := mm_and hq
  obtain ⟨q3, hq⟩ := mm_and hq
  obtain ⟨q4, hq⟩ := mm_and hq
  obtain ⟨q5, q6⟩ := mm_and hq
  have q1 := of_decide_eq_true q1
  have q2 := mm_blt q2
  have q4 := of_decide_eq_true q4
  have q5 := of_decide_eq_true q5
  have q6 := of_decide_eq_true q6
  simp only [mm_oth] at h
  split at h
  · next x r =>
    split at h
    · next hc =>
      obtain ⟨hx, h⟩ := h
      subst hx
      obtain ⟨hc, hcc⟩ := mm_and hc
      obtain ⟨hal, hfr⟩ := mm_and hc
      obtain ⟨hc1, hc2⟩ := mm_and hcc
      obtain ⟨hn, hfr⟩ := mm_and hfr
      obtain ⟨hfl, hfr⟩ := mm_and hfr
      obtain ⟨hfs, hfw⟩ := mm_and hfr
      have hn := mm_blt hn
      intro ad H locs ls hX hP hD hS hl
      obtain ⟨y, hy1, hy2⟩ := mm_arz (b := b) q2
      refine va_newa C.1 C.2.1 (by rw [q1]; exact hwd q3) q1 C.2.2.2.2.2.1 hP hD hS C.2.2.2.2.2.2.2.1 hy2 q4 q5 q6 (by rw [hR.2.1]; exact mm_ble hc1) (by rw [hR.2.2]; exact mm_ble hc2) hd (fun q cA H1 hK1 hP1 hD1 hS1 => ?_)
      have hcA := mm_tcu q2 hK1
      subst hcA
      have hwe : mm_w tc (va_up ad w.length q) (w ++ [(w.length, pg_ar a b)]) = mm_w tc ad w ++ [(q, .inl (tc a, y))] := mm_wapp hfw hn (by rw [hy1]; rfl)
      have hst : Value.ref q :: r.map (mm_v ad) = (Value.ref w.length :: r).map (mm_v (va_up ad w.length q)) := by
        rw [List.map_cons, mm_fvs hfs (mm_upe hn)]
        show _ = Value.ref (va_up ad w.length q w.length) :: _
        rw [mm_ups]
      rw [hst]
      exact hN _ _ _ _ _ _ h (va_up ad w.length q) H1 locs ls (by rw [List.length_append]; exact hX.new hal hn) (by rw [hwe]; exact hP1) (by rw [hwe]; exact hD1) hS1 (by rw [mm_fvl hfl (mm_upe hn)]; exact hl)
    · exact h.elim
  · exact h.elim
end
