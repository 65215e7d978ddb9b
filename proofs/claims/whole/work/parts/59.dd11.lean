/-! a new class -/
section
variable {z : Nat} {fl pr ro : Nat → Int32} {rf hr th : Nat → Int64} {N : Nat} {G : Gh} {R : Nat → Nat} {lm ls : List Nat} {nm ad : Nat → Nat} {bl : Nat → List Nat} {tN bN T : Nat} {fq fbl : List Nat} {tp tn ft bn fb us tk ce pl : Int32} {kd wh ca pa he fi nx rt : Nat → Int32} {nu : Nat → Int64} {a b s q k f t n x w j y v g i : Nat} {A p : Int32} {B : Int64}
theorem is_sh (h : k = 1 → t < z) : isrN (vp_updL rf z B) k t i = isrN rf k t i := by
  unfold isrN
  split
  · rename_i c
    have := h c
    rw [pk_uLn (by omega)]
  · rfl
theorem cs_sh (h : k = 1 → t < z) : cstI (upd pr z p) k f t n = cstI pr k f t n := by
  unfold cstI
  split
  · rfl
  split
  · rename_i c
    have := h c
    rw [pk_un (by omega)]
  · rfl
theorem gI_sh (h : Gw z fl G a) : gI (vp_updL rf z B) G a i = gI rf G a i := is_sh (fun e => (h.2.2.2.1 e).1)
theorem gC_sh (h : Gw z fl G a) : gC (upd pr z p) G a = gC pr G a := by
  unfold gC
  rw [cs_sh (fun e => (h.2.2.2.1 e).1)]
theorem gw_sh (h : Gw z fl G a) : Gw (z + 1) (upd fl z A) G a := by
  obtain ⟨h1, h2, h3, h4, h5⟩ := h
  refine ⟨h1, h2, h3, fun e => ?_, h5⟩
  obtain ⟨g1, g2, g3⟩ := h4 e
  rw [pk_un (by omega)]
  exact ⟨by omega, g2, g3⟩
theorem cr_shape (h : Cr z fl pr rf G R ls ad T ce pl ro hr) : Cr (z + 1) (upd fl z A) (upd pr z p) (vp_updL rf z B) G R ls ad T ce pl ro hr := by
  obtain ⟨⟨a1, a2, a3, a4, a5, a6, a7⟩, b1, b2, b3, b4, b5, b6⟩ := h
  have sC : sm (gC (upd pr z p) G) ls = sm (gC pr G) ls := sm_congr (fun a ha => gC_sh (a2 a ha).2)
  refine ⟨⟨a1, fun a ha => ⟨(a2 a ha).1, gw_sh (a2 a ha).2⟩, a3, a4, a5, fun a ha u hu => ?_, fun a ha i hi g => ?_⟩, b1, by rw [sC]; exact b2, by rw [sC]; exact b3, b4, b5, b6⟩
  · rw [a6 a ha u hu]
    unfold vl
    rw [gI_sh (a2 a ha).2]
  · rw [gI_sh (a2 a ha).2] at g
    exact a7 a ha i hi g
theorem ci_shape (h : CI z fl pr rf N G R tp ce pl ro hr th) : CI (z + 1) (upd fl z A) (upd pr z p) (vp_updL rf z B) N G R tp ce pl ro hr th := by
  obtain ⟨T, ls, ad, h1, hC, h3⟩ := h
  exact ⟨T, ls, ad, h1, cr_shape hC, h3⟩
theorem mi_shape (h : MI z fl pr rf N G R tn ft bn fb us tk kd wh ca pa he fi nu nx rt) : MI (z + 1) (upd fl z A) (upd pr z p) (vp_updL rf z B) N G R tn ft bn fb us tk kd wh ca pa he fi nu nx rt := by
  obtain ⟨tN, bN, lm, nm, bl, fq, fbl, b1, b2, b3, ⟨m1, m2, m3, m4, m5, m6, m7, m8, m9, m10, m11⟩, b5, b6, b7, b8, b9, b10⟩ := h
  have sC : sm (gC (upd pr z p) G) lm = sm (gC pr G) lm := sm_congr (fun a ha => gC_sh (m2 a ha).2)
  refine ⟨tN, bN, lm, nm, bl, fq, fbl, b1, b2, b3, ⟨m1, fun a ha => ⟨(m2 a ha).1, gw_sh (m2 a ha).2⟩, fun a ha => ?_, m4, m5, m6, fun a ha u hu => ?_, m8, m9, m10, m11⟩, fun a ha i hi g => ?_, b6, by rw [sC]; exact b7, by rw [sC]; exact b8, b9, b10⟩
  · obtain ⟨g0, g1, g2, g3, g4, g5, g6, g7, g8, g9, g10⟩ := m3 a ha
    have hw := (m2 a ha).2
    refine ⟨g0, g1, g2, g3, g4, fun e => ?_, g6, g7, g8, by rw [g9, cs_sh (fun e => (hw.2.2.2.1 e).1)], g10⟩
    have := (hw.2.2.2.1 e).1
    rw [pk_un (by omega)]
    exact g5 e
  · rw [m7 a ha u hu]
    unfold vm
    rw [gI_sh (m2 a ha).2]
  · rw [gI_sh (m2 a ha).2] at g
    exact b5 a ha i hi g
/-- at the start -/
theorem ci_0 : CI 0 zI zI zL 0 (fun _ => 0, fun _ => 0, fun _ => 0, fun _ => 0, fun _ _ => 0, fun _ _ => 0) (fun _ => 0) 1 0 0 zI zL zL :=
  ⟨1, [], fun _ => 0, rfl, ⟨⟨List.nodup_nil, fun a ha => absurd ha List.not_mem_nil, ⟨rfl, fun l1 a l2 e => by have := congrArg List.length e; simp at this⟩, Nat.zero_le _, fun a ha => absurd ha List.not_mem_nil, fun a ha => absurd ha List.not_mem_nil, fun a ha => absurd ha List.not_mem_nil⟩, rfl, Nat.zero_le _, rfl, rfl, fun r _ => ⟨fun e => absurd rfl e, rfl⟩, rfl⟩, rfl, fun a ha => absurd ha List.not_mem_nil⟩
theorem mi_0 : MI 0 zI zI zL 0 (fun _ => 0, fun _ => 0, fun _ => 0, fun _ => 0, fun _ _ => 0, fun _ _ => 0) (fun _ => 0) 0 (-1) 0 (-1) 0 0 zI zI zI zI zI zI zL zI (zR 64) :=
  ⟨0, 0, [], fun _ => 0, fun _ => [], [], [], rfl, rfl, Nat.le_refl 0, ⟨List.nodup_nil, fun a ha => absurd ha List.not_mem_nil, fun a ha => absurd ha List.not_mem_nil, fun a ha => absurd ha List.not_mem_nil, fun q hq => absurd hq (Nat.not_lt_zero _), fun a ha => absurd ha List.not_mem_nil, fun a ha => absurd ha List.not_mem_nil, ⟨List.nodup_nil, fun a ha => absurd ha List.not_mem_nil, rfl⟩, ⟨List.nodup_nil, fun a ha => absurd ha List.not_mem_nil, rfl, rfl⟩, Nat.zero_le _, Nat.zero_le _⟩, fun a ha => absurd ha List.not_mem_nil, fun a ha => absurd ha List.not_mem_nil, Nat.zero_le _, rfl, rfl, fun r hr => ⟨fun e => absurd rfl e, if_pos hr⟩⟩
end
