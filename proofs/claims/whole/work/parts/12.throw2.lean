/-- so many arguments are popped: the stack is what was popped, the last on top, over the rest -/
theorem mm_poph : ∀ {n : Nat} {st acc As r : List Value}, mm_pop n st acc = some (As, r) → ∃ B : List Value, As = B ++ acc ∧ st = B.reverse ++ r ∧ B.length = n := by
  intro n
  induction n with
  | zero =>
    intro st acc As r h
    simp only [mm_pop, Option.some.injEq, Prod.mk.injEq] at h
    obtain ⟨rfl, rfl⟩ := h
    exact ⟨[], rfl, rfl, rfl⟩
  | succ n ih =>
    intro st acc As r h
    cases st with
    | nil => simp [mm_pop] at h
    | cons v st =>
      obtain ⟨B, h1, h2, h3⟩ := ih h
      exact ⟨B ++ [v], by rw [h1, List.append_assoc]; rfl, by rw [h2, List.reverse_append]; rfl, by rw [List.length_append, h3]; rfl⟩
theorem mm_pop0 {n : Nat} {st As r : List Value} (ad : Nat → Nat) (h : mm_pop n st [] = some (As, r)) : st.map (mm_v ad) = (As.map (mm_v ad)).reverse ++ r.map (mm_v ad) ∧ As.length = n := by
  obtain ⟨B, h1, h2, h3⟩ := mm_poph h
  rw [List.append_nil] at h1
  subst h1
  exact ⟨by rw [h2, List.map_append, List.map_reverse], h3⟩
theorem mm_rokh {r : List Value} (ad : Nat → Nat) (h : mm_rok r = true) : ((r.map (mm_v ad)).map fun v => v.category).sum ≤ 8 := by
  have h := mm_ble h
  rw [List.map_map]
  have e : ((fun v : Value => v.category) ∘ mm_v ad) = fun v => v.category := funext fun v => mm_catv ad v
  rw [e]
  exact h
theorem mm_wd {args a' : Array Value} {s U : State} {w : Jvm.Cond} (hw : w ∈ pg_ws) (h : w.before args s = true) (hW : s.WarmedH U.vm) : w.before a' U = true := word_at hW (good_of_word (List.mem_filter.mp hw).2) h
theorem mm_oah {ic a : Nat} (h : (Nat.beq ic 31 && Nat.beq a 0 || (Nat.beq ic 46 && Nat.beq a 1 || Nat.beq ic 84 && Nat.beq a 2)) = true) : (Bundle.ownAtoms "MovingHeap" ic (pg_x a) mm_sup).all (fun w => mm_in w || decide (w ∈ mm_sx)) = true := by
  rcases (Bool.or_eq_true _ _).mp h with h | h
  · obtain ⟨h1, h2⟩ := mm_and h
    rw [mm_beq h1, mm_beq h2]
    exact mm_oa0
  · rcases (Bool.or_eq_true _ _).mp h with h | h
    · obtain ⟨h1, h2⟩ := mm_and h
      rw [mm_beq h1, mm_beq h2]
      exact mm_oa1
    · obtain ⟨h1, h2⟩ := mm_and h
      rw [mm_beq h1, mm_beq h2]
      exact mm_oa2
theorem mm_thfm : ∀ {L : List (Nat × Nat × Nat × Nat × String)} {mi pc : Nat} {r : Nat × Nat × String}, pg_thf mi pc L = some r → (mi, pc, r) ∈ L := by
  intro L
  induction L with
  | nil => intro mi pc r h; simp [pg_thf] at h
  | cons q t ih =>
    intro mi pc r h
    unfold pg_thf at h
    split at h
    · next hq =>
      obtain ⟨h1, h2⟩ := mm_and hq
      have h1 := mm_beq h1
      have h2 := mm_beq h2
      cases h
      obtain ⟨q1, q2, q3⟩ := q
      dsimp only at h1 h2
      subst h1; subst h2
      exact List.mem_cons_self
    · exact List.mem_cons_of_mem _ (ih h)
theorem mm_same0 {s U : State} {k n : Nat} (h : s.sameButNew U [] k n) : ∀ q : Nat, q < s.heap.size → U.heap[q]? = s.heap[q]? := by
  intro q hq
  obtain ⟨c', e1, e2, e3, e4⟩ := h.2.2.2.2.2 q _ (Array.getElem?_eq_getElem hq)
  have hs : c'.slots = (s.heap[q]).slots := Array.ext_getElem? fun i => e4 i (fun hm => nomatch hm)
  rw [e1, Array.getElem?_eq_getElem hq, e2, hs]
section
variable {p : Program} {l : Launch} {e : Env} {R : Room} {s : State} {m : MethodId} {args : Array Value} {below : List Frame} {meth : Method} {c : Code} {D : va_G} {tc : Nat → ClassId} {A : Nat → Prop} {mi : Nat} {scr : Option (Nat × (Nat → Int32))} {k1 k2 pc nx a b f n0 d : Nat} {cI : Int32} {cL : Int64} {lv : mm_L} {st : List Value} {w : mm_W} {K : mm_K} {N : mm_M} {cal : Bool → Nat → List Value → mm_W → mm_K → Prop} {al : Bool} {ad0 : Nat → Nat}
set_option maxHeartbeats 4000000 in
theorem so_throw {z : Nat} (C : mm_cx p (pg_rm d mi) s m args meth c D tc A (mm_X0 al n0 ad0) scr mi) (hlk : meth.locks = false) (htab : c.exceptionTable.toList.map (fun h => (h.startPc, h.endPc, h.handlerPc, h.catchType)) = pg_hh mi) (hl : l.stackTraces = false) (hkx : mm_kx A s s.heap)
    (hf : mm_fact mi (pc, .new z, nx, a, b, f + 1, cI, cL) = true) (h : mm_oth cal al mi K N k1 k2 pc lv st w (pc, .new z, nx, a, b, f + 1, cI, cL)) :
    mm_MW p l e (pg_rm d mi) s m args below meth c (mm_Ez below D tc ad0 A al n0 K (pg_c mi).1 (pg_c mi).2 args s) D tc A (pg_n mi) (mm_X0 al n0 ad0) k1 k2 pc lv st w := by
  obtain ⟨rfl, hd, hq⟩ := mm_d2 (n := 3) hf
  have hq : mm_thr mi pc z a = true := hq
  unfold mm_thr at hq
  split at hq
  · simp at hq
  next is ic tx hth =>
  obtain ⟨q3, hq⟩ := mm_and hq
  obtain ⟨q4, hq⟩ := mm_and hq
  obtain ⟨q6, hq⟩ := mm_and hq
  obtain ⟨q9, hq⟩ := mm_and hq
  obtain ⟨qk, hq⟩ := mm_and hq
  obtain ⟨qi, hq⟩ := mm_and hq
  obtain ⟨qh, hq⟩ := mm_and hq
  obtain ⟨qc, qo⟩ := mm_and hq
  have q3 := of_decide_eq_true q3
  have q4 := of_decide_eq_true q4
  have q6 := of_decide_eq_true q6
  have q9 := of_decide_eq_true q9
  have qh := of_decide_eq_true qh
  have qc := of_decide_eq_true qc
  simp only [mm_oth] at h
  split at h
  · next hc =>
    obtain ⟨hc0, hc⟩ := mm_and hc
    obtain ⟨hc1, hc2⟩ := mm_and hc
    have hc1 := mm_ble hc1
    have hc2 := mm_ble hc2
    intro ad H locs ls hX hP hD hS hlv T hT X
    have Y := mm_re X hc1 hc2
    obtain ⟨s', hs'⟩ : ∃ x, x = mm_now s T m args below := ⟨_, rfl⟩
    rw [← hs'] at Y
    have hvm : s'.vm = s.vm := by rw [hs']; rfl
    have hhp : s'.heap = H := by rw [hs']; exact hT
    have hW0 : s.WarmedH s'.vm := by rw [hvm]; exact State.WarmedH.refl s
    have hwd : ∀ w ∈ pg_ws, w.before args s' = true := fun w hw => mm_wd hw (C.2.2.2.2.1 w (List.mem_cons_of_mem _ hw)) hW0
    have hsx : ∀ w ∈ mm_sx, w.before args s' = true := fun w hw => hkx.1 s' hW0 (by rw [hhp]; exact hS.1) (fun q h1 h2 => by rw [hhp]; exact hS.2.1 q h1 h2) w hw args
    have hoa : ∀ w ∈ Bundle.ownAtoms "MovingHeap" ic (pg_x a) mm_sup, w.before args s' = true := fun w hw => by
      rcases (Bool.or_eq_true _ _).mp (List.all_eq_true.mp (mm_oah qo) w hw) with h | h
      · exact hwd w (pg_in h)
      · exact hsx w (of_decide_eq_true h)
    have hown' : s'.vm.findClass "MovingHeap" = some m.cls := by rw [hvm, ← qc]; exact C.2.2.2.1
    have hk' : (Cond.classLink "MovingHeap" z (pg_x a)).before args s' = true := by rw [← qc]; exact hwd _ (mm_lwh qk)
    obtain ⟨vm1, cX, kX, hfX, hkX, -, -, X1, st1⟩ := Y.newCold C.1 (own := "MovingHeap") (C := pg_x a) (index := z) (n := 6) hown' hk' (hoa _ (by simp [Bundle.ownAtoms])) (hwd _ (pg_in qi)) (g := F0 m pc ls (st.map (mm_v ad))) rfl (by rw [C.2.1]; exact hd) (Nat.le_refl _) (Nat.le_refl _)
    obtain ⟨sa, hsa⟩ := hkx.2.1 _ (mm_thfm hth)
    have hsa : vk_R "MovingHeap" is tx sa s := by rw [← qc]; exact hsa
    obtain ⟨T1, hT1⟩ : ∃ x, x = (T.setVm vm1).pushCell { cls := cX, slots := kX.instanceTypes.map defaultValue, vm := .none } := ⟨_, rfl⟩
    rw [← hT1] at X1 st1
    have hcell : T1.heap[T.heap.size]? = some (freshCell cX kX) := by rw [hT1]; exact State.heap_pushCell_size _ _
    have hcls : Bundle.fit (pg_x a) = true ∧ ∀ n ∈ mm_sup, Bundle.fit n = true := by
      refine ⟨?_, by decide +kernel⟩
      rcases (Bool.or_eq_true _ _).mp qo with h | h
      · rw [mm_beq (mm_and h).2]; decide +kernel
      · rcases (Bool.or_eq_true _ _).mp h with h | h
        · rw [mm_beq (mm_and h).2]; decide +kernel
        · rw [mm_beq (mm_and h).2]; decide +kernel
    have htr : e.platform.stackTraces = false := (show e.platform.stackTraces = l.stackTraces by rw [X.admits.platform]).trans hl
    have hnil : c.exceptionTable.toList = [] := List.map_eq_nil_iff.mp (htab.trans qh)
    have hsum := mm_rokh ad hc0
    have kfin : W p l e { frames := (pg_rm d mi).frames, locals := (pg_rm d mi).locals, cells := 1, slots := 6 } s' m args below meth c T1.heap [] 1 6 (fun U => U.status = .running ∧ Ended U below (.threw T.heap.size) ∧ s'.WarmedH U.vm ∧ s'.sameButNew ({ U with vm := s'.vm } : State) [] 1 6 ∧ ∃ ce, U.heap[T.heap.size]? = some ce ∧ ce.vm = .none ∧ s'.vm.findClass (pg_x a) = some ce.cls) (F0 m (pc + 6) ls (.ref sa :: .ref T.heap.size :: .ref T.heap.size :: st.map (mm_v ad))) := by
      intro T2 hT2 X2
      obtain ⟨U, u1, u2, u3, u4, u5, ce, u6, u7⟩ := X2.ctorThrowS C.1 htr (own := "MovingHeap") (cls := pg_x a) (names := mm_sup) (ic := ic) hown' hcls.1 hcls.2 hoa (fun x hx => nomatch hx) hfX hkX (a := T.heap.size) (by rw [hT2]; exact hcell) (by rw [hhp, hT]; exact Nat.le_refl _) (msg := .ref sa) rfl (g := F0 m (pc + 6) ls (.ref sa :: .ref T.heap.size :: .ref T.heap.size :: st.map (mm_v ad))) rfl (by rw [C.2.2.1]; exact hlv.1) rfl rfl rfl (by rw [C.2.1]; exact q6) (by rw [C.2.1]; exact q9) (by rw [hnil]; exact fun x hx => nomatch hx) (by show 2 + 3 < d + 16; omega) (by
        show 2 * 0 + (1 + ((st.map (mm_v ad)).map fun v => v.category).sum) + (13 * (2 + 1) + 42) ≤ 64 * d + 256
        omega) hlk
      exact ⟨U, u1, u2, u3, u4, u5, ce, u6, u7.vm, u7.cls⟩
    obtain ⟨U, v1, v2, v3, v4, v5, ce, v6, v7, v8⟩ := (lv_dup (va := .ref T.heap.size) (pc := pc + 3) C.1 C.2.1 q3 rfl (va_ldcS C.1 C.2.1 hown' (hsa.warm hW0) q4 kfin)) T1 rfl X1
    have hkeep : ∀ q : Nat, q < H.size → U.heap[q]? = H[q]? := fun q hq => by
      have := mm_same0 v5 q (by rw [hhp]; exact hq)
      rw [hhp] at this
      exact this
    have hsz : H.size ≤ U.heap.size := by
      have := v5.2.1
      rw [hhp] at this
      exact this
    have hsm : (T.setVm s.vm).sameButNew ({ U with vm := s.vm } : State) [] 1 6 := by
      have h5 : s'.sameButNew ({ U with vm := s.vm } : State) [] 1 6 := by rw [← hvm]; exact v5
      rw [hs'] at h5
      exact ⟨h5.1.trans (by rw [State.setFrames_setFrames]), h5.2⟩
    refine ⟨U, st1 U v1, .threw T.heap.size, v2, v3, .inr a, w, ad, locs ++ [], h, hX, ?_, hD, ?_, State.WarmedH.trans hW0 v4, (X.same.trans hsm).mono hc1 hc2, fun q hq => ?_, T.heap.size, ce, rfl, v6, v7, by rw [← hvm]; exact v8⟩
    · exact hP.kept fun k q hk => hkeep _ (by
        obtain hlt := hP k q hk
        by_cases hh : q.1 < H.size
        · exact hh
        · exfalso
          have hn : H[q.1]? = none := Array.getElem?_eq_none (Nat.le_of_not_lt hh)
          unfold va_at at hlt
          split at hlt
          · rw [hn] at hlt; cases hlt
          · obtain ⟨r, -, cell, hcl, -⟩ := hlt
            rw [hn] at hcl; cases hcl)
    · exact ⟨Nat.le_trans hS.1 hsz, fun q h1 h2 => by rw [hkeep q (Nat.lt_of_lt_of_le h1 hS.1)]; exact hS.2.1 q h1 h2⟩
    · rw [List.append_nil] at hq
      exact hS.2.2 q hq
  · exact h.elim
end
