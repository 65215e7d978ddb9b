section
variable {z : Nat} {fl pr : Nat → Int32} {rf : Nat → Int64} {G : Gh} {lm : List Nat} {nm : Nat → Nat} {bl : Nat → List Nat} {tN bN : Nat} {fq fbl : List Nat} {ft fb : Int32} {kd wh ca pa he fi nx : Nat → Int32} {nu : Nat → Int64} {a b s t : Nat}
theorem mt_kd {kd' : Nat → Int32} {q k f t n : Nat} (h : Mt fl pr rf kd wh ca pa he q k f t n) (e : kd' q = kd q) : Mt fl pr rf kd' wh ca pa he q k f t n := by
  obtain ⟨h1, h2, h3, h4, h5, h6, h7, h8⟩ := h
  exact ⟨h1, h2, h3, h4, h5, h6, e.trans h7, h8⟩
/-- a thing is freed -/
def Fr (fbl bla : List Nat) (nx0 : Nat → Int32) (m : Nat) (x : Int32) (nx : Nat → Int32) (fb : Int32) : Prop :=
  ∃ rest fbl', Chn nx x rest ∧ rest.length = m ∧ Chn nx fb fbl' ∧ (fbl' ++ rest).Perm (fbl ++ bla) ∧ ∀ p, p ∉ fbl ++ bla → nx p = nx0 p
theorem fr_step {bla : List Nat} {nx0 nx : Nat → Int32} {m : Nat} {x fb : Int32} (nd : (fbl ++ bla).Nodup) (hb : ∀ p, p ∈ fbl ++ bla → p < bN) (hN : bN ≤ 180000) (h : Fr fbl bla nx0 (m + 1) x nx fb) :
    ∃ q, x = nI q ∧ q < 190000 ∧ Fr fbl bla nx0 m (nx q) (upd nx q fb) (nI q) := by
  obtain ⟨rest, fbl', h1, h2, h3, h4, h5⟩ := h
  cases rest with
  | nil => exact absurd h2 (by simp)
  | cons q rest =>
    have nd2 : (fbl' ++ q :: rest).Nodup := h4.nodup_iff.mpr nd
    have n1 := List.nodup_append.mp nd2
    have n2 := List.nodup_cons.mp n1.2.1
    have hq : q ∈ fbl ++ bla := h4.mem_iff.mp (by simp)
    have := hb q hq
    refine ⟨q, h1.1, by omega, rest, q :: fbl', ?_, by simpa using h2, ⟨rfl, ?_⟩, ?_, fun p hp => ?_⟩
    · exact chn_ext h1.2 (fun p hp => pk_un (fun e => n2.1 (e ▸ hp)))
    · rw [pk_us]
      exact chn_ext h3 (fun p hp => pk_un (fun e => n1.2.2 p hp q (by simp) e))
    · exact List.perm_middle.symm.trans h4
    · rw [pk_un (fun e : p = q => hp (by rw [e]; exact hq))]
      exact h5 p hp
theorem fr_end {nx' : Nat → Int32} {x fb' : Int32} (h : Mm z fl pr rf G lm nm bl tN bN fq fbl ft fb kd wh ca pa he fi nu nx) {l1 l2 : List Nat} (hl : lm = l1 ++ a :: l2) (hF : Fr fbl (bl a) nx 0 x nx' fb') :
    ∃ fbl', Mm z fl pr rf G (l1 ++ l2) nm bl tN bN (nm a :: fq) fbl' (nI (nm a)) fb' (upd kd (nm a) 0) wh ca pa he (upd fi (nm a) ft) nu nx' := by
  have hk := mm_nk h (a := a) (by rw [hl]; simp)
  obtain ⟨m1, m2, m3, m4, m5, m6, m7, ⟨o1, o2, o3⟩, ⟨n1, n2, n3, n4⟩, m10, m11⟩ := h
  obtain ⟨rest, fbl', f1, f2, f3, f4, f5⟩ := hF
  have e0 : rest = [] := List.eq_nil_of_length_eq_zero f2
  subst e0
  rw [List.append_nil] at f4
  have sub : ∀ b, b ∈ l1 ++ l2 → b ∈ lm ∧ b ≠ a := fun b hb => by
    refine ⟨by rw [hl]; rcases List.mem_append.mp hb with g | g <;> simp [g], fun e => ?_⟩
    subst e
    rw [hl] at m1
    have q1 := List.nodup_append.mp m1
    rcases List.mem_append.mp hb with g | g
    · exact q1.2.2 b g b (by simp) rfl
    · exact (List.nodup_cons.mp q1.2.1).1 g
  have hal : a ∈ lm := by rw [hl]; simp
  have nma : ∀ b, b ∈ l1 ++ l2 → nm b ≠ nm a := fun b hb e => (sub b hb).2 (m4 b (sub b hb).1 a hal e)
  have hfq : nm a ∉ fq := fun g => hk (o2 _ g).2
  have perm : (fbl' ++ fm bl (l1 ++ l2)).Perm (fbl ++ fm bl lm) := by
    rw [hl, fm_app, fm_app]
    show (fbl' ++ (fm bl l1 ++ fm bl l2)).Perm (fbl ++ (fm bl l1 ++ (bl a ++ fm bl l2)))
    refine (f4.append_right _).trans ?_
    rw [List.append_assoc]
    exact (List.perm_append_comm_assoc _ _ _).append_left fbl
  have nout : ∀ b, b ∈ l1 ++ l2 → ∀ p, p ∈ bl b → p ∉ fbl ++ bl a := fun b hb p hp g => by
    rcases List.mem_append.mp g with g | g
    · exact (List.nodup_append.mp n1).2.2 p g p (fm_mem (sub b hb).1 hp) rfl
    · exact (sub b hb).2 (fm_dis (List.nodup_append.mp n1).2.1 (sub b hb).1 hal hp g)
  refine ⟨fbl', ?_, fun b hb => m2 b (sub b hb).1, fun b hb => ?_, fun b hb c hc => m4 b (sub b hb).1 c (sub c hc).1, fun q hq g => ?_, fun b hb => ?_, fun b hb => m7 b (sub b hb).1, ⟨List.nodup_cons.mpr ⟨hfq, o1⟩, fun q hq => ?_, ⟨rfl, ?_⟩⟩, ⟨perm.nodup_iff.mpr n1, fun p hp => n2 p (perm.mem_iff.mp hp), perm.length_eq.trans n3, f3⟩, ?_, m11⟩
  · rw [hl] at m1
    have q1 := List.nodup_append.mp m1
    rw [List.nodup_append]
    exact ⟨q1.1, (List.nodup_cons.mp q1.2.1).2, fun x hx y hy => q1.2.2 x hx y (List.mem_cons_of_mem _ hy)⟩
  · obtain ⟨g1, g2⟩ := m3 b (sub b hb).1
    exact ⟨g1, mt_kd g2 (pk_un (nma b hb))⟩
  · have c : q ≠ nm a := fun e => g (by rw [e, pk_us])
    rw [pk_un c] at g
    obtain ⟨b, hb, e⟩ := m5 q hq g
    refine ⟨b, ?_, e⟩
    rw [hl] at hb
    rcases List.mem_append.mp hb with g | g
    · exact List.mem_append.mpr (.inl g)
    · rcases List.mem_cons.mp g with g | g
      · exact absurd (by rw [← e, g]) c
      · exact List.mem_append.mpr (.inr g)
  · obtain ⟨g1, g2⟩ := m6 b (sub b hb).1
    rw [pk_un (nma b hb)]
    exact ⟨g1, chn_ext g2 (fun p hp => f5 p (nout b hb p hp))⟩
  · rcases List.mem_cons.mp hq with g | g
    · rw [g, pk_us]
      exact ⟨(m3 a hal).1, rfl⟩
    · rw [pk_un (fun e : q = nm a => hfq (by rw [← e]; exact g))]
      exact o2 q g
  · rw [pk_us]
    exact chn_ext o3 (fun q hq => pk_un (fun e => hfq (e ▸ hq)))
  · rw [hl, sm_mid] at m10
    omega
end
section
variable {d : Nat} {al : Bool} {K : mm_K} {w r : mm_W} {b : Bool} {ev un md tp ce pl wa sz : Int32} {fl pr ro : Nat → Int32} {rf hr th : Nat → Int64}
variable {cl tn ft bn fb us tk ma nt tr mk : Int32} {kd wh ca pa he fi mb td nx rt : Nat → Int32} {nu : Nat → Int64} {q k f t n i j v u s : Nat} {x y z o : Int32} {l : Int64} {B : Nat → Nat}
theorem s_sweep {zz tN bN : Nat} {G : Gh} {R : Nat → Nat} {lm fq fbl : List Nat} {nm : Nat → Nat} {bl : Nat → List Nat} (hp : Pw zz pr) (hM : Mm zz fl pr rf G lm nm bl tN bN fq fbl ft fb kd wh ca pa he fi nu nx) (hCl : Cl rf G lm) (hR : ∀ r, r < 64 → (R r ≠ 0 → R r ∈ lm) ∧ rt r = Mn nm (R r)) (htN : tN ≤ 180100)
    (hk : ∀ lm' fq fbl mb td us tk ft fb mk kd fi nx, Mm zz fl pr rf G lm' nm bl tN bN fq fbl ft fb kd wh ca pa he fi nu nx → (∀ a, a ∈ lm' ↔ Rc rf G R a) → us = nI (sm (gC pr G) lm') → tk = nI (sm (gP G) lm') → K (.inl none) (wC b ev un md tp ce pl wa sz fl pr rf ro hr th (wM cl (nI tN) ft bn fb us tk ma nt tr mk fl rf pr kd wh ca pa he fi mb td nu nx rt r))) : mm_cal (d + 4) al 68 [.ref 9] (wC b ev un md tp ce pl wa sz fl pr rf ro hr th (wM cl (nI tN) ft bn fb us tk ma nt tr mk fl rf pr kd wh ca pa he fi mb td nu nx rt r)) K := by
  refine m_sweep (N := tN) htN
    (Inv := fun i mb td M => ∃ st, Ma rf G R lm nm [] st mb td M ∧ ∀ r, r < i → r < 64 → R r ≠ 0 → R r ∈ st)
    (Jnv := fun s mb td M => ∃ pp st, Ma rf G R lm nm pp st mb td M ∧ s = pp.length ∧ (∀ x, x ∈ pp → ∀ i, i < gn G x → gI rf G x i ≠ 0 → gr G x i ≠ 0 → gr G x i ∈ pp ++ st) ∧ ∀ r, r < 64 → R r ≠ 0 → R r ∈ pp ++ st)
    (Lnv := fun mb td i us tk ft fb kd fi nx => ∃ lm' fq fbl dn, (∀ a, Rc rf G R a → a ∈ lm') ∧ (∀ a, a ∈ lm' → (¬ mb (nm a) = 0 ↔ Rc rf G R a)) ∧ Mm zz fl pr rf G lm' nm bl tN bN fq fbl ft fb kd wh ca pa he fi nu nx ∧ (∀ a, a ∈ lm' → nm a < i → Rc rf G R a) ∧ dn.Nodup ∧ (∀ a, a ∈ dn ↔ a ∈ lm' ∧ nm a < i) ∧ us = nI (sm (gC pr G) dn) ∧ tk = nI (sm (gP G) dn))
    ?_ ?_ ?_ ?_ ?_ ?_ ?_ ?_
  · refine ⟨[], ⟨List.nodup_nil, fun x hx => absurd hx List.not_mem_nil, fun x hx => ⟨fun g => absurd ?_ g, fun g => absurd g List.not_mem_nil⟩, rfl, fun l1 x l2 e => by have := congrArg List.length e; simp at this⟩, fun r hr => absurd hr (Nat.not_lt_zero _)⟩
    exact if_pos (hM.2.2.1 x hx).1
  · rintro i mb td M hi ⟨st, hA, hst⟩
    obtain ⟨mb', td', M', st', hMk, hA', hin, hmo⟩ := ma_mark hM hA (b := R i) (fun g => ⟨(hR i hi).1 g, rc_root hi g⟩)
    rw [← (hR i hi).2] at hMk
    refine ⟨mb', td', M', hMk, st', hA', fun r hr h64 g => ?_⟩
    by_cases e : r = i
    · subst e
      exact hin g
    · exact hmo _ (hst r (by omega) h64 g)
  · rintro mb td M ⟨st, hA, hst⟩
    exact ⟨[], st, hA, rfl, fun x hx => absurd hx List.not_mem_nil, fun r hr g => hst r hr hr g⟩
  · rintro s mb td M ⟨pp, st, hA, rfl, -, -⟩
    have hl := sm_sub (fun _ => 1) (pp ++ st) lm hA.1 (fun x hx => (hA.2.1 x hx).1)
    rw [sm_1, sm_1] at hl
    have := mm_len hM
    have := hA.2.2.2.1
    simp at hl
    omega
  · rintro s mb td M ⟨pp, st, hA, rfl, hcl, hro⟩
    have hl := sm_sub (fun _ => 1) (pp ++ st) lm hA.1 (fun x hx => (hA.2.1 x hx).1)
    rw [sm_1, sm_1] at hl
    have hlm := mm_len hM
    have hM4 := hA.2.2.2.1
    simp at hl
    obtain ⟨st', x, rfl⟩ : ∃ st' x, st = st' ++ [x] := by
      rcases List.eq_nil_or_concat st with e | ⟨st', x, e⟩
      · rw [e] at hM4
        exact absurd hM4 (by simp)
      · exact ⟨st', x, by rw [e, List.concat_eq_append]⟩
    have hMl : M = st'.length := by simp at hM4; omega
    have e1 : pp ++ (st' ++ [x]) = (pp ++ st') ++ [x] := by simp
    have pm : (pp ++ [x] ++ st').Perm (pp ++ (st' ++ [x])) := by
      rw [List.append_assoc]
      exact List.perm_append_comm.append_left pp
    have hx := hA.2.1 x (by simp)
    obtain ⟨-, hMt⟩ := hM.2.2.1 x hx.1
    have hA2 : Ma rf G R lm nm (pp ++ [x]) st' mb td M := by
      obtain ⟨h1, h2, h3, h4, h5⟩ := hA
      exact ⟨pm.nodup_iff.mpr h1, fun y hy => h2 y (pm.mem_iff.mp hy), fun y hy => by rw [h3 y hy]; exact pm.mem_iff.symm, hMl, fun l1 y l2 e => h5 l1 y (l2 ++ [x]) (by rw [e]; simp)⟩
    have nref : (gk G x = 4 ∨ gk G x = 2) → ∀ i, gI rf G x i = 0 := fun e i => Classical.byContradiction fun g => by
      have := isr_t g
      omega
    refine ⟨by simp at hl; omega, nm x, gk G x, gf G x, gt G x, gn G x, fun s => (bl x).getD s 0, by rw [hMl]; exact hA.2.2.2.2 st' x [] rfl, hMt, mm_mc hM hx.1, fun e => ?_, fun e => ?_⟩
    · refine ⟨pp ++ [x], st', hA2, by simp, fun y hy i hi g1 g2 => ?_, fun r hr g => pm.mem_iff.mpr (hro r hr g)⟩
      rcases List.mem_append.mp hy with g | g
      · exact pm.mem_iff.mpr (hcl y g i hi g1 g2)
      · rw [List.mem_singleton] at g
        subst g
        exact absurd (nref e i) g1
    · refine ⟨fun i mb td M => ∃ st, Ma rf G R lm nm (pp ++ [x]) st mb td M ∧ (∀ y, y ∈ pp → ∀ i, i < gn G y → gI rf G y i ≠ 0 → gr G y i ≠ 0 → gr G y i ∈ pp ++ [x] ++ st) ∧ (∀ j, j < i → j < gn G x → gI rf G x j ≠ 0 → gr G x j ≠ 0 → gr G x j ∈ pp ++ [x] ++ st) ∧ ∀ r, r < 64 → R r ≠ 0 → R r ∈ pp ++ [x] ++ st, ?_, ?_, ?_⟩
      · exact ⟨st', hA2, fun y hy i hi g1 g2 => pm.mem_iff.mpr (hcl y hy i hi g1 g2), fun j hj => absurd hj (Nat.not_lt_zero _), fun r hr g => pm.mem_iff.mpr (hro r hr g)⟩
      · rintro i mb td M hi ⟨st, hA, q1, q2, q3⟩
        constructor
        · intro g
          refine ⟨st, hA, q1, fun j hj hjn g1 g2 => ?_, q3⟩
          by_cases c : j = i
          · subst c
            exact absurd g g1
          · exact q2 j (by omega) hjn g1 g2
        · intro g
          have g0 : gI rf G x i ≠ 0 := by
            show isrN rf _ _ _ ≠ 0
            omega
          obtain ⟨mb', td', M', st2, hMk, hA', hin, hmo⟩ := ma_mark hM hA (b := gr G x i) (fun g => ⟨hCl x hx.1 i hi g0 g, rc_step hx.2 hi g0 g⟩)
          refine ⟨mb', td', M', ?_, st2, hA', fun y hy i hi g1 g2 => hmo _ (q1 y hy i hi g1 g2), fun j hj hjn g1 g2 => ?_, fun r hr g => hmo _ (q3 r hr g)⟩
          · rw [← mn_r] at hMk
            have := hM.2.2.2.2.2.2.1 x hx.1 i (by rw [gI_V g0]; exact hi)
            unfold vm at this
            rw [if_neg g0] at this
            show Mk ((nu (4 * (bl x).getD (i / 4) 0 + i % 4)).toInt32 - 1) _ _ _ _ _ _
            rw [this]
            exact hMk
          · by_cases c : j = i
            · subst c
              exact hin g2
            · exact hmo _ (q2 j (by omega) hjn g1 g2)
      · rintro mb td M ⟨st, hA, q1, q2, q3⟩
        refine ⟨pp ++ [x], st, hA, by simp, fun y hy i hi g1 g2 => ?_, q3⟩
        rcases List.mem_append.mp hy with g | g
        · exact q1 y g i hi g1 g2
        · rw [List.mem_singleton] at g
          subst g
          exact q2 i hi hi g1 g2
  · rintro s mb td ⟨pp, st, hA, -, hcl, hro⟩
    have e0 : st = [] := List.eq_nil_of_length_eq_zero hA.2.2.2.1.symm
    subst e0
    rw [List.append_nil] at hcl hro
    have hrc : ∀ a, a ∈ pp ↔ Rc rf G R a := fun a => ⟨fun g => (hA.2.1 a (by simp [g])).2, fun g => rc_in hro hcl g⟩
    refine ⟨lm, fq, fbl, [], fun a ha => rc_in (fun r hr => (hR r hr).1) hCl ha, fun a ha => ?_, hM, fun a _ g => absurd g (Nat.not_lt_zero _), List.nodup_nil, fun a => ⟨fun g => absurd g List.not_mem_nil, fun g => absurd g.2 (Nat.not_lt_zero _)⟩, rfl, rfl⟩
    rw [hA.2.2.1 a ha, List.append_nil]
    exact hrc a
  · rintro mb td i us tk ft fb kd fi nx hi ⟨lm', fq, fbl, dn, c1, c2, c3, c4, c5, c6, rfl, rfl⟩
    refine ⟨fun g => ?_, fun g g2 => ?_, fun g g2 => ?_⟩
    · have no : ∀ a, a ∈ lm' → nm a < i + 1 → nm a < i := fun a ha g3 => by
        have : nm a ≠ i := fun e => mm_nk c3 ha (by rw [e]; exact g)
        omega
      exact ⟨lm', fq, fbl, dn, c1, c2, c3, fun a ha g3 => c4 a ha (no a ha g3), c5, fun a => by rw [c6 a]; exact ⟨fun e => ⟨e.1, by omega⟩, fun e => ⟨e.1, no a e.1 e.2⟩⟩, rfl, rfl⟩
    · obtain ⟨a, ha, rfl⟩ := c3.2.2.2.2.1 i hi g
      have hrc := (c2 a ha).mp g2
      have hnd : a ∉ dn := fun e => by have := ((c6 a).mp e).2; omega
      obtain ⟨-, hMt⟩ := c3.2.2.1 a ha
      have hgw := (c3.2.1 a ha).2
      have hcI := gC_I hp hgw
      refine ⟨lm', fq, fbl, dn ++ [a], c1, c2, c3, fun b hb g3 => ?_, nd_one c5 hnd, fun b => ⟨fun e => ?_, fun e => ?_⟩, ?_, ?_⟩
      · by_cases c : nm b = nm a
        · rw [c3.2.2.2.1 b hb a ha c]
          exact hrc
        · exact c4 b hb (by omega)
      · rcases List.mem_append.mp e with e | e
        · have := (c6 b).mp e
          exact ⟨this.1, by omega⟩
        · rw [List.mem_singleton.mp e]
          exact ⟨ha, by omega⟩
      · by_cases c : nm b = nm a
        · rw [c3.2.2.2.1 b e.1 a ha c]
          simp
        · exact List.mem_append.mpr (.inl ((c6 b).mpr ⟨e.1, by omega⟩))
      · rw [sm_one, hMt.2.2.2.2.2.2.2.2.1, hcI.1, nI_add]
      · rw [sm_one, hMt.2.2.2.2.2.2.2.2.2, nI_add]
        rfl
    · obtain ⟨a, ha, rfl⟩ := c3.2.2.2.2.1 i hi g
      have hnrc : ¬ Rc rf G R a := fun e => absurd ((c2 a ha).mpr e) (fun e => e g2)
      obtain ⟨-, hMt⟩ := c3.2.2.1 a ha
      obtain ⟨l1, l2, rfl⟩ := List.append_of_mem ha
      have n9 := c3.2.2.2.2.2.2.2.2.1
      have nd : (fbl ++ bl a).Nodup := by
        have q1 := List.nodup_append.mp n9.1
        rw [List.nodup_append]
        exact ⟨q1.1, fm_nd q1.2.1 ha, fun p hp q hq => q1.2.2 p hp q (fm_mem ha hq)⟩
      have hb : ∀ p, p ∈ fbl ++ bl a → p < bN := fun p hp => n9.2.1 p (by
        rcases List.mem_append.mp hp with g | g
        · exact List.mem_append.mpr (.inl g)
        · exact List.mem_append.mpr (.inr (fm_mem ha g)))
      obtain ⟨hlen, hch⟩ := c3.2.2.2.2.2.1 a ha
      refine ⟨gk G a, gf G a, gt G a, gn G a, Fr fbl (bl a) nx, hMt, ⟨bl a, fbl, hch, hlen, n9.2.2.2, List.Perm.refl _, fun _ _ => rfl⟩, fun m x nx' fb' hF => fr_step nd hb c3.2.2.2.2.2.2.2.2.2.2 hF, fun x nx' fb' hF => ?_⟩
      obtain ⟨fbl', hM'⟩ := fr_end c3 rfl hF
      have sub : ∀ b, b ∈ l1 ++ l2 → b ∈ l1 ++ a :: l2 := fun b hb => by rcases List.mem_append.mp hb with g | g <;> simp [g]
      have nea : ∀ b, b ∈ l1 ++ l2 → b ≠ a := fun b hb3 e => by
        rw [e] at hb3
        have q1 := List.nodup_append.mp c3.1
        rcases List.mem_append.mp hb3 with g | g
        · exact q1.2.2 a g a (by simp) rfl
        · exact (List.nodup_cons.mp q1.2.1).1 g
      have back : ∀ b, b ∈ l1 ++ a :: l2 → b ≠ a → b ∈ l1 ++ l2 := fun b hb e => by
        rcases List.mem_append.mp hb with g | g
        · exact List.mem_append.mpr (.inl g)
        · exact List.mem_append.mpr (.inr ((List.mem_cons.mp g).resolve_left e))
      have nne : ∀ b, b ∈ l1 ++ l2 → nm b ≠ nm a := fun b hb e => nea b hb (c3.2.2.2.1 b (sub b hb) a ha e)
      refine ⟨l1 ++ l2, nm a :: fq, fbl', dn, fun b hb => back b (c1 b hb) (fun e => hnrc (e ▸ hb)), fun b hb => c2 b (sub b hb), hM', fun b hb g3 => c4 b (sub b hb) (by have := nne b hb; omega), c5, fun b => ⟨fun e => ?_, fun e => ?_⟩, rfl, rfl⟩
      · obtain ⟨e1, e2⟩ := (c6 b).mp e
        exact ⟨back b e1 (fun e => by subst e; omega), by omega⟩
      · have := nne b e.1
        exact (c6 b).mpr ⟨sub b e.1, by omega⟩
  · rintro mb td us tk ft fb kd fi nx ⟨lm', fq, fbl, dn, c1, c2, c3, c4, c5, c6, rfl, rfl⟩
    have hm : ∀ a, a ∈ dn ↔ a ∈ lm' := fun a => by
      rw [c6 a]
      exact ⟨fun e => e.1, fun e => ⟨e, (c3.2.2.1 a e).1⟩⟩
    refine hk lm' fq fbl mb td _ _ ft fb _ kd fi nx c3 (fun a => ⟨fun e => c4 a e (c3.2.2.1 a e).1, c1 a⟩) ?_ ?_
    · rw [sm_same (gC pr G) c5 c3.1 hm]
    · rw [sm_same (gP G) c5 c3.1 hm]
end
