theorem mm_vl (f : Value → Value) (v : Option Value) (r : List Value) : (v.toList ++ r).map f = (v.map f).toList ++ r.map f := by
  cases v <;> rfl
theorem mm_zv (ad : Nat → Nat) (a : Nat) : (pg_z a).map (mm_v ad) = pg_z a := by
  unfold pg_z
  split <;> rfl
section
variable {p : Program} {l : Launch} {e : Env} {R : Room} {s : State} {m : MethodId} {args : Array Value} {below : List Frame} {meth : Method} {c : Code} {Q : State → Prop} {D : va_G} {tc : Nat → ClassId} {A : Nat → Prop} {mi : Nat} {scr : Option (Nat × (Nat → Int32))} {k1 k2 pc nx a b f n0 d : Nat} {cI : Int32} {cL : Int64} {lv : mm_L} {st : List Value} {w : mm_W} {K : mm_K} {N : mm_M} {cal : Bool → Nat → List Value → mm_W → mm_K → Prop} {al : Bool} {ad0 : Nat → Nat}
/-- what is thrown by a callee at pc goes its way -/
def mm_bk (p : Program) (l : Launch) (e : Env) (R : Room) (s : State) (m : MethodId) (args : Array Value) (below : List Frame) (meth : Method) (c : Code) (Q : State → Prop) (D : va_G) (tc : Nat → ClassId) (A : Nat → Prop) (X : Nat → (Nat → Nat) → Prop) (mi : Nat) (K : mm_K) (N : mm_M) : Prop :=
  ∀ (k1 k2 pc nx : Nat) (lv : mm_L) (r : List Value) (x : Nat) (w : mm_W) (ad : Nat → Nat) (ce : Cell) (q : Addr) (H : Heap) (locs : List Loc) (ls : Array Slot), mm_back mi K N k1 k2 pc nx lv r (.inr x) w → X w.length ad → va_P D vwCl (mm_w tc ad w) H → va_D A (mm_w tc ad w) → va_S A s.heap H locs → lv_has ls (pg_n mi) (mm_l ad lv) → H[q]? = some ce → ce.vm = .none → s.vm.findClass (pg_x x) = some ce.cls → k1 ≤ (pg_c mi).1 → k2 ≤ (pg_c mi).2 →
    mm_th p l e R s m args below meth c H locs k1 k2 Q (F0 m pc ls (r.map (mm_v ad))) q
/-- the room that calls of depth d need -/
def mm_rr (R : Room) (d mi : Nat) : Prop := (d + 17 ≤ R.frames ∧ 64 * d + 320 ≤ R.locals) ∧ R.cells = (pg_c mi).1 ∧ R.slots = (pg_c mi).2
set_option maxRecDepth 20000 in
theorem mm_rrc {R : Room} {d mi a : Nat} (h : mm_rr R d mi) (ha : Nat.ble (pg_n a) 40 = true) : (pg_rm d a).frames + 1 ≤ R.frames ∧ 8 + (pg_n a + 11) + (pg_rm d a).locals ≤ R.locals := by
  have h1 := mm_ble ha
  have h2 := h.1.1
  have h3 := h.1.2
  clear h ha
  have h4 : d + 16 + 1 ≤ R.frames := by omega
  have h5 : 8 + (pg_n a + 11) + (64 * d + 256) ≤ R.locals := by
    generalize pg_n a = n at h1 ⊢
    omega
  exact ⟨h4, h5⟩
set_option maxHeartbeats 1000000 in
theorem so_invokestatic {z : Nat} (C : mm_cx p R s m args meth c D tc A (mm_X0 al n0 ad0) scr mi) (hcal : ∀ al a As w K, cal al a As w K → mm_Met l d al a As w K) (hR : mm_rr R d mi) (hkx : mm_kx A s s.heap) (hbk : mm_bk p l e R s m args below meth c Q D tc A (mm_X0 al n0 ad0) mi K N)
    (hN : ∀ k1 k2 pc lv st w, N k1 k2 pc lv st w → mm_MW p l e R s m args below meth c Q D tc A (pg_n mi) (mm_X0 al n0 ad0) k1 k2 pc lv st w) (hf : mm_fact mi (pc, .invokestatic z, nx, a, b, f, cI, cL) = true) (h : mm_oth cal al mi K N k1 k2 pc lv st w (pc, .invokestatic z, nx, a, b, f, cI, cL)) : mm_MW p l e R s m args below meth c Q D tc A (pg_n mi) (mm_X0 al n0 ad0) k1 k2 pc lv st w := by
  obtain ⟨rfl, hd, hq⟩ := mm_d2 (n := 3) hf
  have hwe : ∀ {w : Jvm.Cond}, w ∈ pg_ws → w.before args s = true := fun h => C.2.2.2.2.1 _ (List.mem_cons_of_mem _ h)
  cases f with
  | zero =>
    obtain ⟨q1, hq⟩ := mm_and hq
    obtain ⟨q0, q5⟩ := mm_and hq
    have q5 := of_decide_eq_true q5
    have hq := mm_kokh q0 (by decide)
    unfold mm_kok at hq
    rw [mm_beq q0] at hq
    obtain ⟨q2, hq⟩ := mm_and hq
    obtain ⟨q3, hq⟩ := mm_and hq
    obtain ⟨q4, hq⟩ := mm_and hq
    obtain ⟨q6, q7⟩ := mm_and hq
    have q2 := mm_wih q2
    have q3 := mm_wih q3
    have q4 := mm_wih q4
    simp only [mm_oth] at h
    split at h
    · next As r hp =>
      split at h
      · next hc =>
        obtain ⟨hc0, hc⟩ := mm_and hc
        obtain ⟨hc1, hc2⟩ := mm_and hc
        intro ad H locs ls hX hP hD hS hl
        obtain ⟨e1, e2⟩ := mm_pop0 ad hp
        rw [e1]
        refine mm_cont (hcal _ _ _ _ _ h) (by rw [C.2.2.1]; exact hl.1) (by rw [C.2.1]; exact hd) (fun T hT X => mm_lkS X C.1 C.2.2.2.1 (C.2.2.2.2.1 _ (List.mem_cons_of_mem _ (mm_lwh q1))) (hwe q2) (hwe q3) (hwe q4) q6 (by rw [q5, List.length_map, e2]) rfl rfl (by rw [C.2.1]; exact hd)) (mm_rokh ad hc0) (fun w hw a' U hU => ?_) (fun a' U hU => mm_wd (q3) (hwe q3) hU) (mm_rrc hR q7) ⟨by rw [hR.2.1]; exact mm_ble hc1, by rw [hR.2.2]; exact mm_ble hc2⟩ hP C.2.2.2.2.2.1 hD hS C.2.2.2.2.2.2.2.1 hkx (fun x w' ad' ce q9 H1 locs1 hk hx0 hP1 hD1 hS1 hce hcv hcl => ?_) (fun v w' ad' H1 locs1 hk hx0 hP1 hD1 hS1 => ?_)
        · rcases List.mem_cons.mp hw with rfl | hw
          · exact mm_wd (q4) (hwe q4) hU
          · exact mm_wd hw (C.2.2.2.2.1 _ (List.mem_cons_of_mem _ hw)) hU
        · have hea : ad' = ad := hx0.1 rfl
          subst hea
          exact hbk _ _ _ _ _ _ _ _ _ _ _ _ _ _ hk (hX.tr hx0 (fun _ => rfl)) hP1 hD1 hS1 hl hce hcv hcl (mm_ble hc1) (mm_ble hc2)
        · have hea : ad' = ad := hx0.1 rfl
          subst hea
          rw [← mm_vl]
          exact hN _ _ _ _ _ _ hk ad' H1 locs1 ls (hX.tr hx0 (fun _ => rfl)) hP1 hD1 hS1 hl
      · exact h.elim
    · exact h.elim
  | succ f =>
    have q1 := hq
    obtain ⟨q2, q3, q4⟩ := mm_acp
    simp only [mm_oth] at h
    split at h
    · next n dp kd sp ks r =>
      unfold mm_cpy at h
      split at h
      · next j0 n0 g0 hf0 =>
        split at h
        · next j1 n1 g1 hf1 =>
          split at h
          · next hrk =>
            obtain ⟨h1, h2, h3, h4, h5, h⟩ := h
            intro ad H locs ls hX hP hD hS hl
            have hsum := mm_rokh ad hrk
            have hnw : nativeFrameWords "java/lang/System" "arraycopy" 5 + 11 ≤ 240 := by decide +kernel
            have hr1 := hR.1.1
            have hr2 := hR.1.2
            exact va_copyl C.1 C.2.1 (C.2.2.1.trans hl.1.symm) C.2.2.2.1 (C.2.2.2.2.1 _ (List.mem_cons_of_mem _ (mm_lwh q1))) (hwe q2) (hwe q3) (hwe q4) C.2.2.2.2.2.1 hP hD hS j0 j1 1 1 (ty := .long) (mm_fh hf0) (mm_fh hf1) rfl rfl rfl h1 h2 h3 h4 h5 (fun _ _ => rfl) (by omega) (by omega) hd (fun H1 locs1 hP1 hD1 hS1 => hN _ _ _ _ _ _ h ad H1 locs1 ls (mm_uX hX) (mm_uP rfl hf1 hP1) (mm_uD rfl hf1 hD1) hS1 hl)
          · exact h.elim
        · exact h.elim
      · exact h.elim
    · exact h.elim
set_option maxHeartbeats 1000000 in
theorem so_invokevirtual {z : Nat} (C : mm_cx p R s m args meth c D tc A (mm_X0 al n0 ad0) scr mi) (hcal : ∀ al a As w K, cal al a As w K → mm_Met l d al a As w K) (hR : mm_rr R d mi) (hkx : mm_kx A s s.heap) (hbk : mm_bk p l e R s m args below meth c Q D tc A (mm_X0 al n0 ad0) mi K N)
    (hN : ∀ k1 k2 pc lv st w, N k1 k2 pc lv st w → mm_MW p l e R s m args below meth c Q D tc A (pg_n mi) (mm_X0 al n0 ad0) k1 k2 pc lv st w) (hf : mm_fact mi (pc, .invokevirtual z, nx, a, b, f, cI, cL) = true) (h : mm_oth cal al mi K N k1 k2 pc lv st w (pc, .invokevirtual z, nx, a, b, f, cI, cL)) : mm_MW p l e R s m args below meth c Q D tc A (pg_n mi) (mm_X0 al n0 ad0) k1 k2 pc lv st w := by
  obtain ⟨rfl, hd, hq⟩ := mm_d2 (n := 3) hf
  have hwe : ∀ {w : Jvm.Cond}, w ∈ pg_ws → w.before args s = true := fun h => C.2.2.2.2.1 _ (List.mem_cons_of_mem _ h)
  obtain ⟨q1, hq⟩ := mm_and hq
  obtain ⟨q0, q6⟩ := mm_and hq
  have q6 := of_decide_eq_true q6
  have hq := mm_kokh q0 (by decide)
  unfold mm_kok at hq
  rw [mm_beq q0] at hq
  obtain ⟨q2, hq⟩ := mm_and hq
  obtain ⟨q3, hq⟩ := mm_and hq
  obtain ⟨q4, hq⟩ := mm_and hq
  obtain ⟨q5, hq⟩ := mm_and hq
  obtain ⟨q7, hq⟩ := mm_and hq
  obtain ⟨q8, q9⟩ := mm_and hq
  have q2 := mm_wih q2
  have q3 := mm_wih q3
  have q4 := mm_wih q4
  have q5 := mm_wih q5
  simp only [mm_oth] at h
  split at h
  · next k As r hp =>
    split at h
    · next hc =>
      obtain ⟨hc, hcr⟩ := mm_and hc
      obtain ⟨hc0, hc⟩ := mm_and hc
      obtain ⟨hc1, hc2⟩ := mm_and hc
      intro ad H locs ls hX hP hD hS hl
      obtain ⟨e1, e2⟩ := mm_pop0 ad hp
      have e1 : st.map (mm_v ad) = (As.map (mm_v ad)).reverse ++ .ref (ad k) :: r.map (mm_v ad) := by
        rw [e1, List.map_cons, List.reverse_cons, List.append_assoc]
        rfl
      have hpar : mm_par (pg_yn a) = some (As.map (mm_v ad)).length := by
        rw [← e2] at q6
        cases hm : mm_par (pg_yn a) with
        | none => rw [hm] at q6; simp at q6
        | some n =>
          rw [hm] at q6
          simp only [Option.map_some, List.length_cons, Option.some.injEq] at q6
          rw [List.length_map]
          congr 1
          omega
      unfold mm_is at hcr
      split at hcr
      · next j o ho =>
        unfold mm_nm at q9
        split at q9
        · simp at q9
        · next Cn T0 N0 hcn =>
          have q9 := of_decide_eq_true q9
          have hoc := mm_beq hcr
          obtain ⟨cellB, hcB1, hcB2, hcB3⟩ := va_recv (q := (Cn, T0, N0)) C.2.2.2.2.2.1 hP (by rw [hoc]; exact hcn) (mm_fh ho)
          have hcB3 : s.vm.findClass (pg_yn a).cls = some cellB.cls := by rw [← q9]; exact hcB3
          rw [e1]
          refine mm_cont (As := .ref k :: As) (hcal _ _ _ _ _ h) (by rw [C.2.2.1]; exact hl.1) (by rw [C.2.1]; exact hd) (fun T hT X => mm_lkV X C.1 C.2.2.2.1 (C.2.2.2.2.1 _ (List.mem_cons_of_mem _ (mm_lwh q1))) (hwe q2) (hwe q3) (hwe q5) q7 hpar (by rw [hT]; exact hcB1) hcB2 hcB3 rfl rfl (by rw [C.2.1]; exact hd)) (mm_rokh ad hc0) (fun w hw a' U hU => ?_) (fun a' U hU => mm_wd (q4) (hwe q4) hU) (mm_rrc hR q8) ⟨by rw [hR.2.1]; exact mm_ble hc1, by rw [hR.2.2]; exact mm_ble hc2⟩ hP C.2.2.2.2.2.1 hD hS C.2.2.2.2.2.2.2.1 hkx (fun x w' ad' ce q9 H1 locs1 hk hx0 hP1 hD1 hS1 hce hcv hcl => ?_) (fun v w' ad' H1 locs1 hk hx0 hP1 hD1 hS1 => ?_)
          · rcases List.mem_cons.mp hw with rfl | hw
            · exact mm_wd (q5) (hwe q5) hU
            · exact mm_wd hw (C.2.2.2.2.1 _ (List.mem_cons_of_mem _ hw)) hU
          · have hea : ad' = ad := hx0.1 rfl
            subst hea
            exact hbk _ _ _ _ _ _ _ _ _ _ _ _ _ _ hk (hX.tr hx0 (fun _ => rfl)) hP1 hD1 hS1 hl hce hcv hcl (mm_ble hc1) (mm_ble hc2)
          · have hea : ad' = ad := hx0.1 rfl
            subst hea
            rw [← mm_vl]
            exact hN _ _ _ _ _ _ hk ad' H1 locs1 ls (hX.tr hx0 (fun _ => rfl)) hP1 hD1 hS1 hl
      · simp at hcr
    · exact h.elim
  · exact h.elim
set_option maxHeartbeats 1000000 in
theorem so_invokespecial {z : Nat} (C : mm_cx p R s m args meth c D tc A (mm_X0 al n0 ad0) scr mi) (hcal : ∀ al a As w K, cal al a As w K → mm_Met l d al a As w K) (hR : mm_rr R d mi) (hkx : mm_kx A s s.heap) (hbk : mm_bk p l e R s m args below meth c Q D tc A (mm_X0 al n0 ad0) mi K N)
    (hN : ∀ k1 k2 pc lv st w, N k1 k2 pc lv st w → mm_MW p l e R s m args below meth c Q D tc A (pg_n mi) (mm_X0 al n0 ad0) k1 k2 pc lv st w) (hf : mm_fact mi (pc, .invokespecial z, nx, a, b, f, cI, cL) = true) (h : mm_oth cal al mi K N k1 k2 pc lv st w (pc, .invokespecial z, nx, a, b, f, cI, cL)) : mm_MW p l e R s m args below meth c Q D tc A (pg_n mi) (mm_X0 al n0 ad0) k1 k2 pc lv st w := by
  obtain ⟨rfl, hd, hq⟩ := mm_d2 (n := 3) hf
  have hwe : ∀ {w : Jvm.Cond}, w ∈ pg_ws → w.before args s = true := fun h => C.2.2.2.2.1 _ (List.mem_cons_of_mem _ h)
  cases f with
  | zero =>
    obtain ⟨q1, hq⟩ := mm_and hq
    obtain ⟨q0, q6⟩ := mm_and hq
    have q6 := of_decide_eq_true q6
    have hq := mm_kokh q0 (by decide)
    unfold mm_kok at hq
    rw [mm_beq q0] at hq
    obtain ⟨q2, hq⟩ := mm_and hq
    obtain ⟨q4, hq⟩ := mm_and hq
    obtain ⟨q5, hq⟩ := mm_and hq
    obtain ⟨q7, hq⟩ := mm_and hq
    obtain ⟨q8, hq⟩ := mm_and hq
    obtain ⟨q9, hq⟩ := mm_and hq
    obtain ⟨q10, q11⟩ := mm_and hq
    have q2 := mm_wih q2
    have q4 := mm_wih q4
    have q5 := mm_wih q5
    have q9 := of_decide_eq_true q9
    have q10 := of_decide_eq_true q10
    have q11 := of_decide_eq_true q11
    have hco : (Cond.code (pg_yn a) (pg_b a) (pg_n a) none).before args s = true := by
      have := hwe q5
      unfold pg_d at this
      rw [q10, q11] at this
      exact this
    simp only [mm_oth] at h
    split at h
    · next k As r hp =>
      split at h
      · next hc =>
        obtain ⟨hc, hcr⟩ := mm_and hc
        obtain ⟨hc0, hc⟩ := mm_and hc
        obtain ⟨hc1, hc2⟩ := mm_and hc
        obtain ⟨hal, hfr⟩ := mm_and hcr
        obtain ⟨-, hfr⟩ := mm_and hfr
        obtain ⟨hfl, hfr⟩ := mm_and hfr
        obtain ⟨hfs, -⟩ := mm_and hfr
        intro ad H locs ls hX hP hD hS hl
        obtain ⟨e1, e2⟩ := mm_pop0 ad hp
        have e1 : st.map (mm_v ad) = (As.map (mm_v ad)).reverse ++ .ref (ad k) :: r.map (mm_v ad) := by
          rw [e1, List.map_cons, List.reverse_cons, List.append_assoc]
          rfl
        have hpar : mm_par (pg_yn a) = some (As.map (mm_v ad)).length := by
          rw [← e2] at q6
          cases hm : mm_par (pg_yn a) with
          | none => rw [hm] at q6; simp at q6
          | some n =>
            rw [hm] at q6
            simp only [Option.map_some, List.length_cons, Option.some.injEq] at q6
            rw [List.length_map]
            congr 1
            omega
        rw [e1]
        refine mm_cont (As := .ref k :: As) (hcal _ _ _ _ _ h) (by rw [C.2.2.1]; exact hl.1) (by rw [C.2.1]; exact hd) (fun T hT X => mm_lkI X C.1 C.2.2.2.1 (C.2.2.2.2.1 _ (List.mem_cons_of_mem _ (mm_lwh q1))) (hwe q2) q9 hco q7 hpar rfl rfl (by rw [C.2.1]; exact hd)) (mm_rokh ad hc0) (fun w hw a' U hU => ?_) (fun a' U hU => mm_wd (q4) (hwe q4) hU) (mm_rrc hR q8) ⟨by rw [hR.2.1]; exact mm_ble hc1, by rw [hR.2.2]; exact mm_ble hc2⟩ hP C.2.2.2.2.2.1 hD hS C.2.2.2.2.2.2.2.1 hkx (fun x w' ad' ce q9 H1 locs1 hk hx0 hP1 hD1 hS1 hce hcv hcl => ?_) (fun v w' ad' H1 locs1 hk hx0 hP1 hD1 hS1 => ?_)
        · rcases List.mem_cons.mp hw with rfl | hw
          · exact mm_wd (q5) (hwe q5) hU
          · exact mm_wd hw (C.2.2.2.2.1 _ (List.mem_cons_of_mem _ hw)) hU
        · have hX' : mm_X0 al n0 ad0 w'.length ad' := hX.tr hx0 (fun h => by rw [hal] at h; cases h)
          rw [← mm_fvs hfs hx0.2.2]
          exact hbk _ _ _ _ _ _ _ _ _ _ _ _ _ _ hk hX' hP1 hD1 hS1 (by rw [mm_fvl hfl hx0.2.2]; exact hl) hce hcv hcl (mm_ble hc1) (mm_ble hc2)
        · have hX' : mm_X0 al n0 ad0 w'.length ad' := hX.tr hx0 (fun h => by rw [hal] at h; cases h)
          rw [← mm_fvs hfs hx0.2.2, ← mm_vl]
          exact hN _ _ _ _ _ _ hk ad' H1 locs1 ls hX' hP1 hD1 hS1 (by rw [mm_fvl hfl hx0.2.2]; exact hl)
      · exact h.elim
    · exact h.elim
  | succ f =>
    have q1 := hq
    obtain ⟨q2, q3⟩ := mm_obi
    simp only [mm_oth] at h
    split at h
    · split at h
      · next hrk =>
        intro ad H locs ls hX hP hD hS hl
        have hsum := mm_rokh ad hrk
        have hr1 := hR.1.1
        have hr2 := hR.1.2
        exact W.objInit C.1 C.2.1 C.2.2.2.1 (C.2.2.2.2.1 _ (List.mem_cons_of_mem _ (mm_lwh q1))) (hwe q2) (hwe q3) rfl (hl.1.trans C.2.2.1.symm) rfl hd (by omega) (by
          show 2 * 0 + _ + 12 ≤ R.locals
          omega) (hN _ _ _ _ _ _ h ad H locs ls hX hP hD hS hl)
      · exact h.elim
    · exact h.elim
end
