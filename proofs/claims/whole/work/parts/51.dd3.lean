section
variable {z : Nat} {fl pr : Nat → Int32} {rf : Nat → Int64} {G : Gh} {R : Nat → Nat} {ls nw : List Nat} {ad nad : Nat → Nat} {T : Nat} {hr th : Nat → Int64} {a b : Nat}
theorem lN_ne {a b : Nat} (ha : a < 2 ^ 31) (hb : b < 2 ^ 31) (h : lN a = lN b) : a = b := (lN_eq ha hb).mp h
/-- a mended place more -/
theorem ch_set {sc : Nat → Nat → Prop} {x i : Nat} (h : Ch z fl rf G R ls ad nw nad sc T hr th) (hx : x ∈ nw) (hi : i < gV G x) (hI : gI rf G x i ≠ 0) (hin : gr G x i ≠ 0 → gr G x i ∈ nw) :
    Ch z fl rf G R ls ad nw nad (fun y u => sc y u ∨ (y = x ∧ u = i)) T (vp_updL hr (nad x + 1 + i) (lN (nad (gr G x i)))) th := by
  obtain ⟨h1, h2, h3, h4, h5, h6, h7, h8, h9, h10, h11⟩ := h
  refine ⟨h1, h2, h3, h4, h5, h6, h7, fun a ha => ?_, fun a ha u hu => ?_, ?_, h11⟩
  · rw [pk_uLn]
    · exact h8 a ha
    · intro g
      by_cases e : a = x
      · subst e
        omega
      · have := ly_dis h3 ha hx e
        have := gW_V G x
        have := gW_1 G a
        omega
  · by_cases e : a = x ∧ u = i
    · obtain ⟨rfl, rfl⟩ := e
      refine ⟨fun _ => ⟨?_, fun _ g => hin g⟩, fun g => absurd (.inr ⟨rfl, rfl⟩) g⟩
      rw [pk_uLs]
      unfold vl
      rw [if_neg hI]
    · have e2 : nad a + 1 + u ≠ nad x + 1 + i := by
        intro g
        by_cases e3 : a = x
        · subst e3
          exact e ⟨rfl, by omega⟩
        · have := ly_dis h3 ha hx e3
          have := gW_V G x
          have := gW_V G a
          omega
      rw [pk_uLn e2]
      obtain ⟨s1, s2⟩ := h9 a ha u hu
      exact ⟨fun g => s1 (g.resolve_right e), fun g => s2 (fun g2 => g (.inl g2))⟩
  · have := ly_top h3 hx
    rw [pk_uLn (by omega)]
    exact h10
/-- a place that is no reference, or refers to none, needs no mending -/
theorem ch_sc {sc sc' : Nat → Nat → Prop} (h : Ch z fl rf G R ls ad nw nad sc T hr th) (h0 : ad 0 = 0) (hs : ∀ a, a ∈ nw → ∀ u, u < gV G a → (sc a u → sc' a u) ∧ (sc' a u → ¬ sc a u → gI rf G a u = 0 ∨ gr G a u = 0)) :
    Ch z fl rf G R ls ad nw nad sc' T hr th := by
  obtain ⟨h1, h2, h3, h4, h5, h6, h7, h8, h9, h10, h11⟩ := h
  refine ⟨h1, h2, h3, h4, h5, h6, h7, h8, fun a ha u hu => ?_, h10, h11⟩
  obtain ⟨s1, s2⟩ := h9 a ha u hu
  obtain ⟨t1, t2⟩ := hs a ha u hu
  refine ⟨fun g => ?_, fun g => s2 (fun g2 => g (t1 g2))⟩
  by_cases c : sc a u
  · exact s1 c
  · rw [s2 c]
    unfold vl
    rcases t2 g c with e | e
    · rw [if_pos e, if_pos e]
      exact ⟨rfl, fun g2 => absurd e g2⟩
    · rw [e, h0, h3.1]
      exact ⟨rfl, fun _ g2 => absurd rfl g2⟩
end
section
variable {d : Nat} {al : Bool} {K : mm_K} {r : mm_W} {b : Bool} {ev un md ce pl wa sz : Int32} {fl pr ro : Nat → Int32} {rf hr th : Nat → Int64} {z T : Nat} {G : Gh} {R : Nat → Nat} {ls : List Nat} {ad : Nat → Nat}
theorem c_move (hp : Pw z pr) (h : Cr z fl pr rf G R ls ad T ce pl ro hr) (ht0 : th 0 = 0)
    (hk : ∀ nw nad T ce pl ro hr th, Cr z fl pr rf G R nw nad T ce pl ro hr → (∀ a, a ∈ nw ↔ Rc rf G R a) → th 0 = 0 → K (.inl none) (wC (!b) ev un md (nI T) ce pl wa sz fl pr rf ro hr th r)) : mm_cal (d + 5) al 26 [.ref 1] (wC b ev un md (nI T) ce pl wa sz fl pr rf ro hr th r) K := by
  obtain ⟨⟨a1, a2, a3, a4, a5, a6, a7⟩, b1, b2, b3, b4, b5, b6⟩ := h
  have hc : Co z fl rf G R ls ad := ⟨a1, a2, a3, a4, a7, fun r hr => (b5 r hr).1⟩
  have hsP := sW_P G ls
  have cap : ∀ {nw nad sc T} {hr th : Nat → Int64}, Ch z fl rf G R ls ad nw nad sc T hr th → sm (gW G) nw ≤ 180000 ∧ sm (gP G) nw ≤ 180000 ∧ sm (gC pr G) nw ≤ 100000 := fun h => by
    have s1 := sm_sub (gW G) _ _ h.1 (fun a ha => (h.2.1 a ha).1)
    have s2 := sm_sub (gP G) _ _ h.1 (fun a ha => (h.2.1 a ha).1)
    have s3 := sm_sub (gC pr G) _ _ h.1 (fun a ha => (h.2.1 a ha).1)
    omega
  refine h7_moveReached
    (Inv := fun i T hn tn ro' => ∃ nw nad, Ch z fl rf G R ls ad nw nad (fun _ _ => False) T hn tn ∧ ∀ r, r < 64 → (r < i → ro' r = nI (nad (R r)) ∧ (R r ≠ 0 → R r ∈ nw)) ∧ (i ≤ r → ro' r = nI (ad (R r))))
    (Jnv := fun ro' s a T hn tn ce pl => ∃ d1 d2 nad, Ch z fl rf G R ls ad (d1 ++ d2) nad (fun x _ => x ∈ d1) T hn tn ∧ s = d1.length ∧ a = 1 + sm (gW G) d1 ∧ ce = nI (sm (gC pr G) d1) ∧ pl = nI (sm (gP G) d1) ∧ ∀ r, r < 64 → ro' r = nI (nad (R r)) ∧ (R r ≠ 0 → R r ∈ d1 ++ d2))
    ?_ ?_ ?_ ?_ ?_ ?_
  · refine ⟨[], fun _ => 0, ⟨List.nodup_nil, fun a ha => absurd ha List.not_mem_nil, ⟨rfl, fun l1 a l2 e => ?_⟩, rfl, fun a ha => absurd ha List.not_mem_nil, fun a ha _ => a5 a ha, a6, fun a ha => absurd ha List.not_mem_nil, fun a ha => absurd ha List.not_mem_nil, ht0, b6⟩, fun r hr => ⟨fun g => absurd g (Nat.not_lt_zero _), fun _ => (b5 r hr).2⟩⟩
    have := congrArg List.length e
    simp at this
  · rintro i T hn tn ro' hi ⟨nw, nad, hC, hR⟩
    obtain ⟨q, T', hr', th', nad', ex, hM, hC', hq, hq31, hin, hag, -⟩ := ch_move hc hC (fun a u g => g.elim) (b := R i) (fun g => ⟨(b5 i hi).1 g, rc_root hi g⟩)
    refine ⟨ad (R i), q, T', hr', th', (hR i hi).2 (Nat.le_refl i), hM, nw ++ ex, nad', hC', fun r hr => ⟨fun g => ?_, fun g => ?_⟩⟩
    · by_cases e : r = i
      · subst e
        rw [pk_us, hq]
        exact ⟨rfl, hin⟩
      · rw [pk_un e]
        obtain ⟨g1, g2⟩ := (hR r hr).1 (by omega)
        refine ⟨?_, fun g3 => List.mem_append.mpr (.inl (g2 g3))⟩
        rw [g1]
        by_cases e0 : R r = 0
        · rw [e0, hC.2.2.1.1, hC'.2.2.1.1]
        · rw [hag _ (g2 e0)]
    · rw [pk_un (by omega)]
      exact (hR r hr).2 (by omega)
  · rintro T hn tn ro' ⟨nw, nad, hC, hR⟩
    refine ⟨[], nw, nad, ch_sc hC a3.1 (fun a _ u _ => ⟨fun g => g.elim, fun g => absurd g List.not_mem_nil⟩), rfl, rfl, rfl, rfl, fun r hr => (hR r hr).1 hr⟩
  · rintro ro' s a T hn tn ce pl ⟨d1, d2, nad, hC, rfl, rfl, -, -, -⟩
    obtain ⟨c1, -, -⟩ := cap hC
    have := hC.2.2.2.1
    rw [sm_app] at c1 this
    omega
  · rintro ro' s a T hn tn ce pl ⟨d1, d2, nad, hC, rfl, rfl, rfl, rfl, hR⟩ haT
    obtain ⟨c1, c2, c3⟩ := cap hC
    have hT := hC.2.2.2.1
    have hlen := sm_len (f := gW G) (l := d1 ++ d2) (fun a _ => gW_1 G a)
    rw [sm_app] at c1 hT hlen
    cases d2 with
    | nil =>
      exfalso
      have : sm (gW G) [] = 0 := rfl
      omega
    | cons x d3 =>
      have hxn : x ∈ d1 ++ x :: d3 := by simp
      have hxl := (hC.2.1 x hxn)
      have hgw := (a2 x hxl.1).2
      have hnx : nad x = 1 + sm (gW G) d1 := hC.2.2.1.2 d1 x d3 rfl
      have htop := ly_top hC.2.2.1 hxn
      rw [sm_app] at htop
      have hwV := gW_V G x
      have hrV := refC_V G x
      have hcI := gC_I hp hgw
      have hxd1 : x ∉ d1 := fun g => by
        have := (List.nodup_append.mp hC.1).2.2 x g x (by simp)
        exact this rfl
      refine ⟨by simp at hlen; omega, gk G x, gf G x, gt G x, gn G x, hgw.1, fun e => ?_, fun e => ?_, ?_, ?_, ?_⟩
      · obtain ⟨g1, g2, -⟩ := hgw.2.2.2.1 e
        have := hp.1
        exact ⟨by omega, g2⟩
      · have := hgw.2.2.2.2 e
        omega
      · rw [← hnx]
        omega
      · rw [← hnx]
        exact hC.2.2.2.2.2.2.2.1 x hxn
      refine ⟨fun i T hn tn => ∃ d3 nad, Ch z fl rf G R ls ad (d1 ++ x :: d3) nad (fun y u => y ∈ d1 ∨ (y = x ∧ u < i)) T hn tn ∧ ∀ r, r < 64 → ro' r = nI (nad (R r)) ∧ (R r ≠ 0 → R r ∈ d1 ++ x :: d3), ?_, ?_, ?_⟩
      · refine ⟨d3, nad, ch_sc hC a3.1 (fun a _ u _ => ⟨fun g => .inl g, fun g g2 => absurd (g.resolve_right (fun e => absurd e.2 (Nat.not_lt_zero _))) g2⟩), hR⟩
      · rintro i T hn tn hi ⟨d3, nad, hC, hR⟩
        have hxn : x ∈ d1 ++ x :: d3 := by simp
        have hnx : nad x = 1 + sm (gW G) d1 := hC.2.2.1.2 d1 x d3 rfl
        have hiV : i < gV G x := by omega
        have hin : i < gn G x := Nat.lt_of_lt_of_le hi (refC_le _ _)
        have hval : hn (nad x + 1 + i) = vl rf G ad x i := (hC.2.2.2.2.2.2.2.2.1 x hxn i hiV).2 (fun g => g.elim hxd1 (fun g => absurd g.2 (Nat.lt_irrefl _)))
        have adb : gI rf G x i ≠ 0 → gr G x i ≠ 0 → gr G x i ∈ ls ∧ 1 ≤ ad (gr G x i) := fun g1 g2 => by
          have g3 := a7 x hxl.1 i hin g1 g2
          exact ⟨g3, (ly_top a3 g3).1⟩
        rw [← hnx]
        constructor
        · intro g
          refine ⟨d3, nad, ch_sc hC a3.1 (fun a ha u hu => ⟨fun g => g.imp id (fun g => ⟨g.1, by omega⟩), fun g2 g3 => ?_⟩), hR⟩
          have e1 : a = x ∧ u = i := by
            rcases g2 with g2 | ⟨rfl, g2⟩
            · exact absurd (.inl g2) g3
            · exact ⟨rfl, by
                have : ¬ u < i := fun e => g3 (.inr ⟨rfl, e⟩)
                omega⟩
          obtain ⟨rfl, rfl⟩ := e1
          rcases g with g | g
          · rw [hval] at g
            by_cases c0 : gI rf G a u = 0
            · exact .inl c0
            · refine .inr (Classical.byContradiction fun c1 => ?_)
              unfold vl at g
              rw [if_neg c0] at g
              obtain ⟨m1, m2⟩ := adb c0 c1
              have := ly_top a3 m1
              have := lN_ne (b := 0) (by omega) (by decide) g
              omega
          · exact .inl g
        · intro g1 g2
          have g2 : gI rf G x i ≠ 0 := g2
          have hb0 : gr G x i ≠ 0 := by
            intro e
            apply g1
            rw [hval]
            unfold vl
            rw [if_neg g2, e, a3.1]
            rfl
          obtain ⟨q, T', hr', th', nad', ex, hM, hC', hq, hq31, hinq, hag, hfr⟩ := ch_move hc hC (fun a u g => by
            rcases g with g | ⟨rfl, -⟩
            · exact List.mem_append.mpr (.inl g)
            · exact hxn) (b := gr G x i) (fun g => ⟨(adb g2 g).1, rc_step hxl.2 hin g2 g⟩)
          refine ⟨ad (gr G x i), q, T', hr', th', hq31, ?_, hM, d3 ++ ex, nad', ?_, fun r hr => ?_⟩
          · rw [hval]
            unfold vl
            rw [if_neg g2]
          · have e1 : d1 ++ x :: d3 ++ ex = d1 ++ x :: (d3 ++ ex) := by simp
            rw [e1] at hC' hinq
            have hn2 : nad' x = nad x := hag x hxn
            have hS := ch_set hC' (x := x) (i := i) (by simp) hiV g2 hinq
            rw [hn2, ← hq] at hS
            refine ch_sc hS a3.1 (fun a ha u hu => ⟨fun g => ?_, fun g g3 => ?_⟩)
            · rcases g with (g | ⟨g, g4⟩) | ⟨g, g4⟩
              · exact .inl g
              · exact .inr ⟨g, by omega⟩
              · exact .inr ⟨g, by omega⟩
            · exfalso
              apply g3
              rcases g with g | ⟨g, g4⟩
              · exact .inl (.inl g)
              · by_cases e : u < i
                · exact .inl (.inr ⟨g, e⟩)
                · exact .inr ⟨g, by omega⟩
          · obtain ⟨r1, r2⟩ := hR r hr
            have e1 : d1 ++ x :: d3 ++ ex = d1 ++ x :: (d3 ++ ex) := by simp
            refine ⟨?_, fun g => by rw [← e1]; exact List.mem_append.mpr (.inl (r2 g))⟩
            rw [r1]
            by_cases e0 : R r = 0
            · rw [e0, hC.2.2.1.1, hC'.2.2.1.1]
            · rw [hag _ (r2 e0)]
      · rintro T hn tn ⟨d3, nad, hC, hR⟩
        have hxn : x ∈ d1 ++ x :: d3 := by simp
        have hnx : nad x = 1 + sm (gW G) d1 := hC.2.2.1.2 d1 x d3 rfl
        have e1 : d1 ++ x :: d3 = (d1 ++ [x]) ++ d3 := by simp
        refine ⟨by rw [← hnx]; exact hC.2.2.2.2.2.2.2.1 x hxn, d1 ++ [x], d3, nad, ?_, by simp, ?_, ?_, ?_, fun r hr => by rw [← e1]; exact hR r hr⟩
        · rw [← e1]
          refine ch_sc hC a3.1 (fun a ha u hu => ⟨fun g => ?_, fun g g3 => ?_⟩)
          · rcases g with g | ⟨rfl, -⟩
            · exact List.mem_append.mpr (.inl g)
            · simp
          · rcases List.mem_append.mp g with g | g
            · exact absurd (.inl g) g3
            · rw [List.mem_singleton] at g
              subst g
              left
              refine Classical.byContradiction fun c => ?_
              have c2 := refC_n (n := gn G a) (isr_t c)
              have c3 := gI_V c
              exact g3 (.inr ⟨rfl, by omega⟩)
        · rw [sm_one]
          show 1 + sm (gW G) d1 + gW G x = _
          omega
        · rw [sm_one, hcI.1, nI_add]
        · rw [sm_one]
          show nI (sm (gP G) d1) + nI (gP G x) = _
          rw [nI_add]
  · rintro ro' s a T hn tn ce pl ⟨d1, d2, nad, hC, rfl, rfl, rfl, rfl, hR⟩ haT
    have hT := hC.2.2.2.1
    obtain ⟨c1, c2, c3⟩ := cap hC
    have e2 : d2 = [] := by
      cases d2 with
      | nil => rfl
      | cons x d3 =>
        exfalso
        rw [sm_app] at hT
        have := gW_1 G x
        have : sm (gW G) (x :: d3) = gW G x + sm (gW G) d3 := rfl
        omega
    subst e2
    rw [List.append_nil] at hC hT c1 c2 c3 hR
    obtain ⟨h1, h2, h3, h4, h5, h6, h7, h8, h9, h10, h11⟩ := hC
    refine hk d1 nad T _ _ ro' hn tn ⟨⟨h1, fun a ha => a2 a (h2 a ha).1, h3, c2, h8, fun a ha u hu => ((h9 a ha u hu).1 ha).1, fun a ha i hi g1 g2 => ((h9 a ha i (by rw [gI_V g1]; exact hi)).1 ha).2 g1 g2⟩, hT, c3, rfl, rfl, fun r hr => ⟨(hR r hr).2, (hR r hr).1⟩, h10⟩ (fun a => ⟨fun ha => (h2 a ha).2, fun ha => ?_⟩) h11
    exact ha (fun x => x ∈ d1) (fun r hr g => (hR r hr).2 g) (fun x i hx hi g1 g2 => ((h9 x hx i (by rw [gI_V g1]; exact hi)).1 hx).2 g1 g2)
end
