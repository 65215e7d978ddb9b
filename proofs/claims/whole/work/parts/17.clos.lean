def pg_hokb (mi : Nat) : Bool := (pg_hh mi).isEmpty || (decide ((pg_yn mi).cls = "MovingHeapLaw") && (pg_hh mi).all (fun q => Nat.beq q.2.2.2 13 || (Nat.beq q.2.2.2 15 || Nat.beq q.2.2.2 21)))
set_option maxRecDepth 100000 in
theorem pg_hoks : (List.range 103).all pg_hokb = true := by decide +kernel
theorem pg_hch (mi : Nat) : pg_hh mi = [] ∨ ((pg_yn mi).cls = "MovingHeapLaw" ∧ ∀ q ∈ pg_hh mi, q.2.2.2 = 13 ∨ q.2.2.2 = 15 ∨ q.2.2.2 = 21) := by
  by_cases hm : mi < 103
  · rcases (Bool.or_eq_true _ _).mp (List.all_eq_true.mp pg_hoks mi (List.mem_range.mpr hm)) with h | h
    · exact Or.inl (List.isEmpty_iff.mp h)
    · obtain ⟨h1, h2⟩ := mm_and h
      refine Or.inr ⟨of_decide_eq_true h1, fun q hq => ?_⟩
      rcases (Bool.or_eq_true _ _).mp (List.all_eq_true.mp h2 q hq) with h | h
      · exact Or.inl (mm_beq h)
      · rcases (Bool.or_eq_true _ _).mp h with h | h
        · exact Or.inr (Or.inl (mm_beq h))
        · exact Or.inr (Or.inr (mm_beq h))
  · refine Or.inl ?_
    unfold pg_hh
    rw [List.getD_eq_getElem?_getD, List.getElem?_eq_none (by show 103 ≤ mi; omega)]
    rfl
theorem pg_cn3 (ct : Nat) : pg_cn ct < 3 := by
  unfold pg_cn
  split <;> decide
theorem pg_l13 : Jvm.Cond.classLink "MovingHeapLaw" 13 (pg_x (pg_cn 13)) ∈ pg_ws := mm_lwh (mi := 88) (z := 13) (by decide +kernel)
theorem pg_l15 : Jvm.Cond.classLink "MovingHeapLaw" 15 (pg_x (pg_cn 15)) ∈ pg_ws := mm_lwh (mi := 88) (z := 15) (by decide +kernel)
theorem pg_l21 : Jvm.Cond.classLink "MovingHeapLaw" 21 (pg_x (pg_cn 21)) ∈ pg_ws := mm_lwh (mi := 88) (z := 21) (by decide +kernel)
theorem mm_firstx : ∀ {L : List (Nat × Nat × Nat × Nat)} {pc x h : Nat}, mm_first pc x L = some h → x < 3 := by
  intro L
  induction L with
  | nil => intro pc x h hh; simp [mm_first] at hh
  | cons q r ih =>
    intro pc x h hh
    unfold mm_first at hh
    split at hh
    · next hq => rw [← mm_beq (mm_and hq).2]; exact pg_cn3 _
    · exact ih hh
theorem mm_drop {ad : Nat → Nat} {ls : Array Slot} {n i : Nat} {lv : mm_L} {v : Value} (h : lv_has ls n ((i, v) :: (mm_l ad lv).filter (fun q => !(q.1 == i) && !(q.1 + 1 == i && q.2.category == 2)))) : lv_has ls n (mm_l ad (lv.filter (fun q => !(q.1 == i) && !(q.1 + 1 == i && q.2.category == 2)))) := by
  refine ⟨h.1, h.2.1, fun q hq => h.2.2 q ?_⟩
  obtain ⟨y, hy, rfl⟩ := List.mem_map.mp hq
  obtain ⟨h1, h2⟩ := List.mem_filter.mp hy
  refine List.mem_cons_of_mem _ (List.mem_filter.mpr ⟨List.mem_map.mpr ⟨y, h1, rfl⟩, ?_⟩)
  rw [mm_catv]
  exact h2
section
variable {p : Program} {l : Launch} {e : Env} {R : Room} {s : State} {m : MethodId} {args : Array Value} {below : List Frame} {meth : Method} {c : Code} {T : State} {locs : List Loc} {k1 k2 : Nat}
/-- the search has found a handler, and has looked up names on its way: the walk goes on there -/
theorem mm_caught (X : Stand p l e R s m args below meth c T locs k1 k2) {g : JFrame} (hg : g.method = m) {q : Addr} {hp : Nat} {vm' : Vm}
    (hfind : ∀ (Q : Handler → Pre) (E : CtlPost) (d : Bool) (acts : List Action), wp (findHandler g q) Q E e d acts ((T.setTop g).pushFrame (.throwing q)) ↔ Q (.found hp) d acts (((T.setTop g).pushFrame (.throwing q)).setVm vm')) {target : State}
    (hrest : Steps p.tables e below ((T.setVm vm').setTop { g with pc := hp, stack := [.ref q] }) target) : Steps p.tables e below ((T.setTop g).pushFrame (.throwing q)) target := by
  have h : At T g.method c below := by rw [hg]; exact X.here
  obtain ⟨hgo, hw⟩ := h.throwing q
  obtain ⟨g0, hf⟩ := X.frames_eq
  have hf' : (T.setVm vm').frames = .java g0 :: below := hf
  have hpush : (T.setTop g).pushFrame (.throwing q) = T.setFrames (.throwing q :: .java g :: below) := by rw [State.pushFrame, State.frames_setTop _ hf, State.setTop_of_frames _ hf, State.setFrames_setFrames]
  have hstep : (stepThrowing e ((T.setTop g).pushFrame (.throwing q)) q (.java g :: below)).1 = (((T.setTop g).pushFrame (.throwing q)).setVm vm').setFrames (.java { g with pc := hp, stack := [.ref q] } :: below) := by
    simp only [stepThrowing, searchFrame, vmDo]
    generalize hr : Sem.go _ e false [] ((T.setTop g).pushFrame (.throwing q)) = res
    obtain ⟨as, rfl, ha⟩ := Sem.eq_ok_of hr (a := Handler.found hp) (s' := ((T.setTop g).pushFrame (.throwing q)).setVm vm') (acts' := []) (by simp [hfind _ _ _ _])
    rfl
  refine Steps.head hgo hw ?_
  rw [stepThread_throwing (below := .java g :: below) (by rw [frames_entered h.top, hf]; rfl), hstep, hpush]
  rw [State.setTop_of_frames _ hf'] at hrest
  have hsv : ((T.setFrames (.throwing q :: .java g :: below)).setVm vm') = (T.setVm vm').setFrames (.throwing q :: .java g :: below) := rfl
  rw [hsv, State.setFrames_setFrames]
  exact hrest
end
section
variable {p : Program} {l : Launch} {e : Env} {R : Room} {s : State} {m : MethodId} {args : Array Value} {below : List Frame} {meth : Method} {c : Code} {Q : State → Prop} {D : va_G} {tc : Nat → ClassId} {A : Nat → Prop} {mi : Nat} {scr : Option (Nat × (Nat → Int32))} {n0 d : Nat} {K : mm_K} {N : mm_M} {al : Bool} {ad0 : Nat → Nat}
theorem mm_selfx {x : Nat} (hx : x < 3) : Jvm.Cond.castable (pg_x x) (pg_x x) ∈ mm_sx := by
  match x, hx with
  | 0, _ => decide +kernel
  | 1, _ => decide +kernel
  | 2, _ => decide +kernel
set_option maxHeartbeats 1000000 in
/-- thrown by a callee where this method has handlers -/
theorem mm_bkH (C : mm_cx p R s m args meth c D tc A (mm_X0 al n0 ad0) scr mi) (htab : c.exceptionTable.toList.map (fun h => (h.startPc, h.endPc, h.handlerPc, h.catchType)) = pg_hh mi) (hne : pg_hh mi ≠ []) (hkx : mm_kx A s s.heap)
    (hN : ∀ k1 k2 pc lv st w, N k1 k2 pc lv st w → mm_MW p l e R s m args below meth c Q D tc A (pg_n mi) (mm_X0 al n0 ad0) k1 k2 pc lv st w) : mm_bk p l e R s m args below meth c Q D tc A (mm_X0 al n0 ad0) mi K N := by
  intro k1 k2 pc nx lv r x w ad ce q H locs ls h hX hP hD hS hl hce hcv hcl h1 h2 T hT Y
  simp only [mm_back] at h
  split at h
  · split at h
    · next he => exact absurd he hne
    · exact h.elim
  next hp li hh =>
  unfold mm_h at hh
  split at hh
  · simp at hh
  next h0 hfst =>
  obtain ⟨hcls, hcts⟩ := (pg_hch mi).resolve_left hne
  have hx3 := mm_firstx hfst
  have hpl : e.platform.magicAccessors = ({} : Platform).magicAccessors := by rw [Y.admits.platform]
  have hself : s.vm.assignable ce.cls ce.cls = true := by
    obtain ⟨c3, c4, e3, e4, hasg⟩ := Cond.castable_spec (hkx.1 s (State.WarmedH.refl s) (Nat.le_refl _) (fun _ _ _ => rfl) _ (mm_selfx hx3) args)
    cases Option.some.inj (e3.symm.trans hcl)
    cases Option.some.inj (e4.symm.trans hcl)
    exact hasg
  obtain ⟨g, hg⟩ : ∃ g, g = F0 m pc ls (r.map (mm_v ad)) := ⟨_, rfl⟩
  have hgm : g.method = m := by rw [hg]
  have hgp : g.pc = pc := by rw [hg]
  have hheap : ((T.setTop g).pushFrame (.throwing q)).heap = H := (Stand.throwing_heap T g q).trans hT
  have hvm : ((T.setTop g).pushFrame (.throwing q)).vm = T.vm := Stand.throwing_vm T g q
  obtain ⟨vm', hW', hq⟩ := mm_scan (e := e) (s := s) (f := g) (q := q) (own := "MovingHeapLaw") hpl (by rw [hgm, ← hcls]; exact C.2.2.2.1) (fun k hk => by rw [hcv] at hk; cases hk) hcl hself hx3 (fun y hy hxy => hkx.2.2 x y hx3 hy hxy) c.exceptionTable.toList ((T.setTop g).pushFrame (.throwing q)) h0 (by rw [hvm]; exact Y.warmed) (by rw [hheap]; exact hce) (by rw [htab, hgp]; exact hfst) (fun t ht => by
    have hm : (t.startPc, t.endPc, t.handlerPc, t.catchType) ∈ pg_hh mi := by rw [← htab]; exact List.mem_map.mpr ⟨t, ht, rfl⟩
    have hwe : ∀ {w : Jvm.Cond}, w ∈ pg_ws → w.before args s = true := fun h => C.2.2.2.2.1 _ (List.mem_cons_of_mem _ h)
    refine ⟨?_, pg_cn3 _, args, ?_⟩
    · rcases hcts _ hm with h | h | h
      · exact fun h9 => absurd (h.symm.trans h9) (by decide)
      · exact fun h9 => absurd (h.symm.trans h9) (by decide)
      · exact fun h9 => absurd (h.symm.trans h9) (by decide)
    · rcases hcts _ hm with h | h | h
      · have h : t.catchType = 13 := h
        rw [h]; exact hwe pg_l13
      · have h : t.catchType = 15 := h
        rw [h]; exact hwe pg_l15
      · have h : t.catchType = 21 := h
        rw [h]; exact hwe pg_l21)
  have hfind : ∀ (Q : Handler → Pre) (E : CtlPost) (d : Bool) (acts : List Action), wp (findHandler g q) Q E e d acts ((T.setTop g).pushFrame (.throwing q)) ↔ Q (.found h0) d acts (((T.setTop g).pushFrame (.throwing q)).setVm vm') := fun Q E d acts => by
    rw [W.findHandler_eq (meth := meth) (code := c) (by rw [hvm, hgm]; exact Y.method') Y.code]
    exact hq Q E d acts
  have key : W p l e R s m args below meth c H locs k1 k2 Q (F0 m h0 ls [.ref q]) := by
    split at hh
    · next q0 li' nx' rr hat =>
      obtain ⟨hf, hpc⟩ := pg_facts hat
      simp only [Option.some.injEq, Prod.mk.injEq] at hh
      obtain ⟨rfl, rfl⟩ := hh
      obtain ⟨ra, rb, rf, rc, rl⟩ := rr
      cases hpc
      obtain ⟨rfl, hd, hn⟩ := mm_d2 (n := 2) hf
      exact lv_astore C.1 C.2.1 hd hl (mm_blt hn) rfl (fun ls' hl' => hN _ _ _ _ _ _ h ad H locs ls' hX hP hD hS (mm_drop hl'))
    · next q0 li' nx' rr hat =>
      obtain ⟨hf, hpc⟩ := pg_facts hat
      simp only [Option.some.injEq, Prod.mk.injEq] at hh
      obtain ⟨rfl, rfl⟩ := hh
      obtain ⟨ra, rb, rf, rc, rl⟩ := rr
      cases hpc
      obtain ⟨rfl, hd, hn⟩ := mm_d2 (n := 1) hf
      exact lv_astore_n C.1 C.2.1 hd rfl hl (mm_blt hn) rfl (fun ls' hl' => hN _ _ _ _ _ _ h ad H locs ls' hX hP hD hS (mm_drop hl'))
    · simp at hh
  obtain ⟨t, a1, b1⟩ := key (T.setVm vm') hT (Y.noted hW')
  refine ⟨t, ?_, b1⟩
  rw [← hg]
  refine mm_caught Y hgm hfind ?_
  rw [hg]
  exact a1
theorem mm_pickl (ad : Nat → Nat) (lv : mm_L) (ks : List Nat) : lv_pick (mm_l ad lv) ks = mm_l ad (lv_pick lv ks) := by
  unfold lv_pick mm_l
  rw [List.map_filterMap]
  congr 1
  funext k
  rw [List.getElem?_map]
set_option maxHeartbeats 1000000 in
/-- the walk on the machine is closed under the steps of the mini machine -/
theorem mm_clos (C : mm_cx p (pg_rm (d + 1) mi) s m args meth c D tc A (mm_X0 al n0 ad0) none mi) (hr : meth.sig.returnType = pg_r mi) (hlk : meth.locks = false) (htab : c.exceptionTable.toList.map (fun h => (h.startPc, h.endPc, h.handlerPc, h.catchType)) = pg_hh mi) (hl : l.stackTraces = false) (hkx : mm_kx A s s.heap)
    (hcal : ∀ al a As w K, mm_cal d al a As w K → mm_Met l d al a As w K) :
    mm_clo (mm_cal d) none al mi K (mm_MW p l e (pg_rm (d + 1) mi) s m args below meth c (mm_Ez below D tc ad0 A al n0 K (pg_c mi).1 (pg_c mi).2 args s) D tc A (pg_n mi) (mm_X0 al n0 ad0)) := by
  have hR : mm_rr (pg_rm (d + 1) mi) d mi := ⟨⟨by show d + 17 ≤ d + 1 + 16; omega, by show 64 * d + 320 ≤ 64 * (d + 1) + 256; omega⟩, rfl, rfl⟩
  refine ⟨fun N hN k1 k2 pc lv st w h => ?_, fun ks k1 k2 pc lv st w h => ?_, fun k1 k2 j1 j2 pc lv st w h1 h2 h => ?_⟩
  · unfold mm_step at h
    split at h
    · exact h.elim
    · next q hq =>
      obtain ⟨hf, hpc⟩ := pg_facts hq
      split at h
      · next lv' st' w' ob hs => exact mm_smp_ok C hf hpc hs h.1 (hN _ _ _ _ _ _ h.2)
      · obtain ⟨q0, i, nx, a, b, f, cI, cL⟩ := q
        cases hpc
        have hbk : mm_bk p l e (pg_rm (d + 1) mi) s m args below meth c (mm_Ez below D tc ad0 A al n0 K (pg_c mi).1 (pg_c mi).2 args s) D tc A (mm_X0 al n0 ad0) mi K N := by
          by_cases hn : pg_hh mi = []
          · exact mm_bk0 hlk htab hn
          · exact mm_bkH C htab hn hkx hN
        cases i with
        | goto z => exact so_goto C hN hf h
        | ifCond cd z => exact so_ifCond C hN hf h
        | if_icmp cd z => exact so_if_icmp C hN hf h
        | tableswitch d lo hi offs => exact so_tableswitch C hN hf h
        | lookupswitch d ps => exact so_lookupswitch C hN hf h
        | ireturn => exact so_ireturn C hr hlk hf h
        | lreturn => exact so_lreturn C hr hlk hf h
        | return_ => exact so_return_ C hr hlk hf h
        | new z =>
          cases f with
          | zero => exact so_new C hR hN hf h
          | succ f => exact so_throw C hlk htab hl hkx hf h
        | newarray z => exact so_newarray C hR hN hf h
        | invokestatic z => exact so_invokestatic C hcal hR hkx hbk hN hf h
        | invokevirtual z => exact so_invokevirtual C hcal hR hkx hbk hN hf h
        | invokespecial z => exact so_invokespecial C hcal hR hkx hbk hN hf h
        | _ => exact absurd h (by simp [mm_oth])
  · intro ad H locs ls hX hP hD hS hlv
    exact h ad H locs ls hX hP hD hS (lv_sub hlv ks (mm_pickl ad lv ks))
  · intro ad H locs ls hX hP hD hS hlv
    exact W.widen h1 h2 (h ad H locs ls hX hP hD hS hlv)
end
def pg_plb (mi : Nat) : Bool := plainName (pg_yn mi).cls
set_option maxRecDepth 100000 in
theorem pg_pls : (List.range 103).all pg_plb = true := by decide +kernel
theorem pg_pl (mi : Nat) : plainName (pg_yn mi).cls = true := by
  by_cases hm : mi < 103
  · exact List.all_eq_true.mp pg_pls mi (List.mem_range.mpr hm)
  · unfold pg_yn
    rw [List.getD_eq_getElem?_getD, List.getElem?_eq_none (by show 103 ≤ mi; omega)]
    decide +kernel
theorem mm_slh (ad : Nat → Nat) (av : List Value) : (lg_sl (av.map (mm_v ad))).length = (lg_sl av).length := by
  induction av with
  | nil => rfl
  | cons v r ih =>
    unfold lg_sl at ih ⊢
    rw [List.map_cons, List.flatMap_cons, List.flatMap_cons, List.length_append, List.length_append, ih, mm_catv]
    congr 1
    split <;> rfl
theorem mm_argh (ad : Nat → Nat) (av : List Value) : ∀ i : Nat, lv_args i (av.map (mm_v ad)) = mm_l ad (lv_args i av) := by
  induction av with
  | nil => intro i; rfl
  | cons v r ih =>
    intro i
    show (i, mm_v ad v) :: lv_args (if (mm_v ad v).category = 2 then i + 2 else i + 1) (r.map (mm_v ad)) = (i, mm_v ad v) :: mm_l ad (lv_args (if v.category = 2 then i + 2 else i + 1) r)
    rw [mm_catv, ih]
set_option maxHeartbeats 1000000 in
/-- THE MINI MACHINE IS SOUND: what it comes to, the machine comes to -/
theorem mm_snd (l : Launch) (hl : l.stackTraces = false) : ∀ (d : Nat) (al : Bool) (mi : Nat) (av : List Value) (w : mm_W) (K : mm_K), mm_cal d al mi av w K → mm_Met l d al mi av w K := by
  intro d
  induction d with
  | zero =>
    intro al mi av w K h
    unfold mm_cal mm_ent at h
    split at h
    · exact h.elim
    · exact h.elim
  | succ d ih =>
    intro al mi av w K h D tc ad sz
    refine MetFree.of_bodyS (code := pg_b mi) (maxLocals := pg_n mi) (ret := pg_r mi) (pg_pl mi) ?_ ?_
    · intro args s m hpre hn
      obtain ⟨meth, c, h1, h2, h3, h4, h5, h6, -, -⟩ := mm_dsp hn (atoms_spec (ws := pg_w mi) hpre _ List.mem_cons_self)
      exact ⟨meth, c, h1, h2, h3, h4, h5, h6⟩
    · intro p e s m args below meth c s1 B hml hP _
      obtain ⟨rfl, hsz, hPw, hK, hD0, hkx⟩ := hP
      subst hsz
      have hts := atoms_spec (ws := pg_w mi) B.pre
      obtain ⟨meth', c', g1, g2, g3, g4, g5, g6, -, g8⟩ := mm_dsp B.named (hts _ List.mem_cons_self)
      cases B.method.symm.trans g1
      cases g2.symm.trans (Stand.of_body B).code
      have hh0 : s1.heap = s.heap := by rw [B.state]; rfl
      unfold mm_cal mm_ent at h
      split at h
      · next hsl =>
        have C : mm_cx p (pg_rm (d + 1) mi) s m (av.map (mm_v ad)).toArray meth c D tc (va_A (mm_w tc ad w) s.heap.size) (mm_X0 al w.length ad) none mi := ⟨B.exec, B.bytes, hml, findClass_of_methodNamed B.named, hts, hK, (name_of_methodNamed B.named B.method).1, fun q hq => Or.inr hq, fun _ _ h => by cases h⟩
        have hMW := h _ (mm_clos (e := e) (below := below) (K := K) C B.returns B.notSynchronized g8 hl hkx ih)
        have hle := lv_entry (av.map (mm_v ad)) (n := pg_n mi) (by rw [mm_slh]; exact mm_ble hsl)
        rw [mm_argh] at hle
        obtain ⟨t, a1, o, b1, b2, b3⟩ := hMW ad s.heap [] _ mm_X0.rf hPw hD0.self va_S.rf hle s1 hh0 (Stand.of_body B)
        refine ⟨t, o, ?_, b1, b2, b3⟩
        rw [lg_entry_eq]
        exact a1
      · exact h.elim
