/-! the class's memory -/
/-- the word of place u of thing a, where things have the addresses ad -/
def vl (rf : Nat → Int64) (G : Gh) (ad : Nat → Nat) (a u : Nat) : Int64 := if gI rf G a u = 0 then gw G a u else lN (ad (gr G a u))
/-- the things of ls lie in hr at the addresses ad -/
def Cm (z : Nat) (fl : Nat → Int32) (rf : Nat → Int64) (G : Gh) (ls : List Nat) (ad : Nat → Nat) (hr : Nat → Int64) : Prop :=
  ls.Nodup ∧ (∀ a, a ∈ ls → a ≠ 0 ∧ Gw z fl G a) ∧ Ly G ls ad ∧ sm (gP G) ls ≤ 180000 ∧
  (∀ a, a ∈ ls → hr (ad a) = lN (gH G a)) ∧ (∀ a, a ∈ ls → ∀ u, u < gV G a → hr (ad a + 1 + u) = vl rf G ad a u) ∧
  (∀ a, a ∈ ls → ∀ i, i < gn G a → gI rf G a i ≠ 0 → gr G a i ≠ 0 → gr G a i ∈ ls)
/-- the class's state -/
def Cr (z : Nat) (fl pr : Nat → Int32) (rf : Nat → Int64) (G : Gh) (R : Nat → Nat) (ls : List Nat) (ad : Nat → Nat) (T : Nat) (ce pl : Int32) (ro : Nat → Int32) (hr : Nat → Int64) : Prop :=
  Cm z fl rf G ls ad hr ∧ T = 1 + sm (gW G) ls ∧ sm (gC pr G) ls ≤ 100000 ∧ ce = nI (sm (gC pr G) ls) ∧ pl = nI (sm (gP G) ls) ∧ (∀ r, r < 64 → (R r ≠ 0 → R r ∈ ls) ∧ ro r = nI (ad (R r))) ∧ hr 0 = 0
section
variable {z : Nat} {fl pr : Nat → Int32} {rf : Nat → Int64} {G : Gh} {R : Nat → Nat} {ls nw : List Nat} {ad nad : Nat → Nat} {T : Nat} {hr th : Nat → Int64} {a b : Nat}
theorem sW_P (G : Gh) (l : List Nat) : sm (gW G) l ≤ sm (gP G) l := sm_le (fun a _ => gW_P G a)
theorem isr_t {rf : Nat → Int64} {k t i : Nat} (h : isrN rf k t i ≠ 0) : k = 1 ∨ k = 3 ∨ k = 5 := by
  unfold isrN at h
  split at h
  · exact .inl ‹_›
  split at h
  · exact .inr (.inl ‹_›)
  split at h
  · exact .inr (.inr ‹_›)
  · exact absurd rfl h
theorem refC_n {k n : Nat} (h : k = 1 ∨ k = 3 ∨ k = 5) : refC k n = n := by
  unfold refC hdR
  rw [if_pos h]
  rfl
theorem refC_le (k n : Nat) : refC k n ≤ n := by
  unfold refC
  split <;> omega
theorem refC_V (G : Gh) (a : Nat) : refC (gk G a) (gn G a) ≤ gV G a := by
  unfold refC gV cwN hdR
  by_cases h : gk G a = 1 ∨ gk G a = 3 ∨ gk G a = 5
  · rw [if_pos h, if_neg (by decide), if_neg (by omega)]
    exact Nat.le_refl _
  · rw [if_neg h, if_pos rfl]
    exact Nat.zero_le _
theorem gI_V {rf : Nat → Int64} {G : Gh} {a i : Nat} (hr : gI rf G a i ≠ 0) : gV G a = gn G a := by
  unfold gV cwN
  have := isr_t hr
  rw [if_neg (by omega)]
/-- a collection under way: the things of nw have come along, their place u is mended where sc a u -/
def Ch (z : Nat) (fl : Nat → Int32) (rf : Nat → Int64) (G : Gh) (R : Nat → Nat) (ls : List Nat) (ad : Nat → Nat) (nw : List Nat) (nad : Nat → Nat) (sc : Nat → Nat → Prop) (T : Nat) (hr th : Nat → Int64) : Prop :=
  nw.Nodup ∧ (∀ a, a ∈ nw → a ∈ ls ∧ Rc rf G R a) ∧ Ly G nw nad ∧ T = 1 + sm (gW G) nw ∧
  (∀ a, a ∈ nw → th (ad a) = -lN (nad a)) ∧ (∀ a, a ∈ ls → a ∉ nw → th (ad a) = lN (gH G a)) ∧
  (∀ a, a ∈ ls → ∀ u, u < gV G a → th (ad a + 1 + u) = vl rf G ad a u) ∧
  (∀ a, a ∈ nw → hr (nad a) = lN (gH G a)) ∧
  (∀ a, a ∈ nw → ∀ u, u < gV G a → (sc a u → hr (nad a + 1 + u) = vl rf G nad a u ∧ (gI rf G a u ≠ 0 → gr G a u ≠ 0 → gr G a u ∈ nw)) ∧ (¬ sc a u → hr (nad a + 1 + u) = vl rf G ad a u)) ∧
  hr 0 = 0 ∧ th 0 = 0
/-- what is fixed in a collection -/
def Co (z : Nat) (fl : Nat → Int32) (rf : Nat → Int64) (G : Gh) (R : Nat → Nat) (ls : List Nat) (ad : Nat → Nat) : Prop :=
  ls.Nodup ∧ (∀ a, a ∈ ls → a ≠ 0 ∧ Gw z fl G a) ∧ Ly G ls ad ∧ sm (gP G) ls ≤ 180000 ∧
  (∀ a, a ∈ ls → ∀ i, i < gn G a → gI rf G a i ≠ 0 → gr G a i ≠ 0 → gr G a i ∈ ls) ∧ ∀ r, r < 64 → R r ≠ 0 → R r ∈ ls
theorem vl_ext {nad' : Nat → Nat} {u : Nat} (h : gI rf G a u ≠ 0 → nad' (gr G a u) = nad (gr G a u)) : vl rf G nad' a u = vl rf G nad a u := by
  unfold vl
  split
  · rfl
  · rename_i c
    rw [h c]
theorem ch_move {sc : Nat → Nat → Prop} (hc : Co z fl rf G R ls ad) (h : Ch z fl rf G R ls ad nw nad sc T hr th) (hsc : ∀ a u, sc a u → a ∈ nw) (hb : b ≠ 0 → b ∈ ls ∧ Rc rf G R b) :
    ∃ q T' hr' th' nad' ex, Mv T hr th (ad b) T' hr' th' q ∧ Ch z fl rf G R ls ad (nw ++ ex) nad' sc T' hr' th' ∧ q = nad' b ∧ q < 2 ^ 31 ∧ (b ≠ 0 → b ∈ nw ++ ex) ∧ (∀ x, x ∈ nw → nad' x = nad x) ∧ ∀ j, 0 < j → j < T → hr' j = hr j := by
  obtain ⟨c1, c2, c3, c4, c5, c6⟩ := hc
  obtain ⟨h1, h2, h3, h4, h5, h6, h7, h8, h9, h10, h11⟩ := h
  have hs : sm (gW G) nw ≤ sm (gW G) ls := sm_sub _ _ _ h1 (fun a ha => (h2 a ha).1)
  have hsP := sW_P G ls
  by_cases hb0 : b = 0
  · subst hb0
    refine ⟨0, T, hr, th, nad, [], .inl ⟨c3.1, rfl, rfl, rfl, rfl⟩, ?_, h3.1.symm, by decide, fun e => absurd rfl e, fun _ _ => rfl, fun _ _ _ => rfl⟩
    rw [List.append_nil]
    exact ⟨h1, h2, h3, h4, h5, h6, h7, h8, h9, h10, h11⟩
  obtain ⟨bl, brc⟩ := hb hb0
  have tb := ly_top c3 bl
  have wb1 := gW_1 G b
  by_cases hbn : b ∈ nw
  · have tn := ly_top h3 hbn
    refine ⟨nad b, T, hr, th, nad, [], .inr (.inl ⟨by omega, by omega, by omega, by omega, h5 b hbn, rfl, rfl, rfl⟩), ?_, rfl, by omega, fun _ => by rw [List.append_nil]; exact hbn, fun _ _ => rfl, fun _ _ _ => rfl⟩
    rw [List.append_nil]
    exact ⟨h1, h2, h3, h4, h5, h6, h7, h8, h9, h10, h11⟩
  · have nd := nd_one h1 hbn
    have hs2 : sm (gW G) (nw ++ [b]) ≤ sm (gW G) ls := sm_sub _ _ _ nd (fun a ha => (List.mem_append.mp ha).elim (fun g => (h2 a g).1) (fun g => (List.mem_singleton.mp g) ▸ bl))
    rw [sm_one] at hs2
    have hw : gW G b = 1 + gV G b := gW_V G b
    have hdb := (c2 b bl).2.1
    have ad0 : ∀ a, a ∈ ls → 0 < ad a := fun a ha => (ly_top c3 ha).1
    have nx : ∀ x, x ∈ nw → (if x = b then 1 + sm (gW G) nw else nad x) = nad x := fun x hx => if_neg (fun e : x = b => hbn (e ▸ hx))
    refine ⟨T, T + gW G b, va_cpy th hr (ad b) T (gW G b), vp_updL th (ad b) (-lN T), fun x => if x = b then 1 + sm (gW G) nw else nad x, [b],
      .inr (.inr ⟨gk G b, gf G b, gt G b, gn G b, hdb, by omega, by show ad b + gW G b ≤ 180001; omega, by show T + gW G b ≤ 180001; omega, h6 b bl hbn, rfl, rfl, rfl, rfl⟩), ?_, ?_, by omega, fun _ => by simp, nx, ?_⟩
    · refine ⟨nd, fun a ha => (List.mem_append.mp ha).elim (h2 a) (fun g => by rw [List.mem_singleton.mp g]; exact ⟨bl, brc⟩), ly_app h3 hbn hb0, by rw [sm_one]; omega, ?_, ?_, ?_, ?_, ?_, ?_, ?_⟩
      · intro a ha
        by_cases e : a = b
        · subst e
          rw [pk_uLs]
          show -lN T = -lN (if a = a then _ else _)
          rw [if_pos rfl, h4]
        · have han := (List.mem_append.mp ha).resolve_right (fun g => e (List.mem_singleton.mp g))
          rw [pk_uLn (fun g => e (ly_inj c3 (h2 a han).1 bl g))]
          show _ = -lN (if a = b then _ else nad a)
          rw [if_neg e]
          exact h5 a han
      · intro a ha hna
        have e : a ≠ b := fun e => hna (by rw [e]; simp)
        rw [pk_uLn (fun g => e (ly_inj c3 ha bl g))]
        exact h6 a ha (fun g => hna (List.mem_append.mpr (.inl g)))
      · intro a ha u hu
        rw [pk_uLn]
        · exact h7 a ha u hu
        · intro g
          by_cases e : a = b
          · subst e
            omega
          · have := ly_dis c3 ha bl e
            have := gW_V G a
            omega
      · intro a ha
        show va_cpy th hr (ad b) T (gW G b) (if a = b then _ else nad a) = _
        by_cases e : a = b
        · subst e
          rw [if_pos rfl, pk_cpy_in (by omega) (by omega), show ad a + (1 + sm (gW G) nw - T) = ad a by omega]
          exact h6 a bl hbn
        · have han := (List.mem_append.mp ha).resolve_right (fun g => e (List.mem_singleton.mp g))
          have := ly_top h3 han
          rw [if_neg e, pk_cpy_out (by have := gW_1 G a; omega)]
          exact h8 a han
      · intro a ha u hu
        show (sc a u → va_cpy th hr (ad b) T (gW G b) ((if a = b then _ else nad a) + 1 + u) = _ ∧ _) ∧ (¬ sc a u → va_cpy th hr (ad b) T (gW G b) ((if a = b then _ else nad a) + 1 + u) = _)
        by_cases e : a = b
        · subst e
          refine ⟨fun g => absurd (hsc a u g) hbn, fun _ => ?_⟩
          rw [if_pos rfl, pk_cpy_in (by omega) (by omega), show ad a + (1 + sm (gW G) nw + 1 + u - T) = ad a + 1 + u by omega]
          exact h7 a bl u hu
        · have han := (List.mem_append.mp ha).resolve_right (fun g => e (List.mem_singleton.mp g))
          have := ly_top h3 han
          have := gW_V G a
          rw [if_neg e, pk_cpy_out (by omega)]
          obtain ⟨s1, s2⟩ := h9 a han u hu
          refine ⟨fun g => ?_, s2⟩
          obtain ⟨s3, s4⟩ := s1 g
          refine ⟨?_, fun g1 g2 => List.mem_append.mpr (.inl (s4 g1 g2))⟩
          rw [s3]
          refine (vl_ext (fun g1 => ?_)).symm
          by_cases g2 : gr G a u = 0
          · rw [g2]
            show (if (0 : Nat) = b then _ else nad 0) = nad 0
            rw [if_neg (fun e => hb0 e.symm)]
          · exact nx _ (s4 g1 g2)
      · rw [pk_cpy_out (by omega)]
        exact h10
      · have := ad0 b bl
        rw [pk_uLn (by omega)]
        exact h11
    · show T = if b = b then _ else _
      rw [if_pos rfl, h4]
    · intro j hj hjT
      exact pk_cpy_out (by omega)
end
