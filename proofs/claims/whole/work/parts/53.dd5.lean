/-! a new thing -/
def gAdd (G : Gh) (x k f t n : Nat) : Gh :=
  (fun a => if a = x then k else G.1 a, fun a => if a = x then f else G.2.1 a, fun a => if a = x then t else G.2.2.1 a, fun a => if a = x then n else G.2.2.2.1 a,
   fun a u => if a = x then 0 else G.2.2.2.2.1 a u, fun a i => if a = x then 0 else G.2.2.2.2.2 a i)
def ru (R : Nat → Nat) (v x : Nat) : Nat → Nat := fun r => if r = v then x else R r
section
variable {z : Nat} {fl pr : Nat → Int32} {rf : Nat → Int64} {G : Gh} {R : Nat → Nat} {x k f t n a u i : Nat}
theorem ga_k (h : a ≠ x) : gk (gAdd G x k f t n) a = gk G a := if_neg h
theorem ga_f (h : a ≠ x) : gf (gAdd G x k f t n) a = gf G a := if_neg h
theorem ga_t (h : a ≠ x) : gt (gAdd G x k f t n) a = gt G a := if_neg h
theorem ga_n (h : a ≠ x) : gn (gAdd G x k f t n) a = gn G a := if_neg h
theorem ga_w (h : a ≠ x) : gw (gAdd G x k f t n) a u = gw G a u := if_neg h
theorem ga_r (h : a ≠ x) : gr (gAdd G x k f t n) a i = gr G a i := if_neg h
theorem gx_k : gk (gAdd G x k f t n) x = k := if_pos rfl
theorem gx_f : gf (gAdd G x k f t n) x = f := if_pos rfl
theorem gx_t : gt (gAdd G x k f t n) x = t := if_pos rfl
theorem gx_n : gn (gAdd G x k f t n) x = n := if_pos rfl
theorem gx_w : gw (gAdd G x k f t n) x u = 0 := if_pos rfl
theorem gx_r : gr (gAdd G x k f t n) x i = 0 := if_pos rfl
theorem ga_W (h : a ≠ x) : gW (gAdd G x k f t n) a = gW G a := by unfold gW; rw [ga_k h, ga_n h]
theorem ga_P (h : a ≠ x) : gP (gAdd G x k f t n) a = gP G a := by unfold gP; rw [ga_k h, ga_n h]
theorem ga_V (h : a ≠ x) : gV (gAdd G x k f t n) a = gV G a := by unfold gV; rw [ga_k h, ga_n h]
theorem ga_H (h : a ≠ x) : gH (gAdd G x k f t n) a = gH G a := by unfold gH; rw [ga_k h, ga_f h, ga_t h, ga_n h]
theorem ga_C (h : a ≠ x) : gC pr (gAdd G x k f t n) a = gC pr G a := by unfold gC; rw [ga_k h, ga_f h, ga_t h, ga_n h]
theorem ga_I (h : a ≠ x) : gI rf (gAdd G x k f t n) a i = gI rf G a i := by unfold gI; rw [ga_k h, ga_t h]
theorem ga_Gw (h : a ≠ x) (g : Gw z fl G a) : Gw z fl (gAdd G x k f t n) a := by
  unfold Gw
  rw [ga_k h, ga_f h, ga_t h, ga_n h]
  exact g
theorem ga_vl {ad : Nat → Nat} (h : a ≠ x) : vl rf (gAdd G x k f t n) ad a u = vl rf G ad a u := by
  unfold vl
  rw [ga_I h, ga_w h, ga_r h]
/-- the thing may be made; it may not -/
def Fit (rf : Nat → Int64) (pr : Nat → Int32) (G : Gh) (R : Nat → Nat) (c p : Nat) : Prop :=
  ∃ L : List Nat, L.Nodup ∧ (∀ a, Rc rf G R a → a ∈ L) ∧ sm (gC pr G) L + c ≤ 100000 ∧ sm (gP G) L + p ≤ 180000
def NoFit (rf : Nat → Int64) (pr : Nat → Int32) (G : Gh) (R : Nat → Nat) (c p : Nat) : Prop :=
  ∃ L : List Nat, L.Nodup ∧ (∀ a, a ∈ L → Rc rf G R a) ∧ ¬ (sm (gC pr G) L + c ≤ 100000 ∧ sm (gP G) L + p ≤ 180000)
theorem fit_no {c p : Nat} (h : Fit rf pr G R c p) (g : NoFit rf pr G R c p) : False := by
  obtain ⟨L, h1, h2, h3, h4⟩ := h
  obtain ⟨M, g1, g2, g3⟩ := g
  have s1 := sm_sub (gC pr G) M L g1 (fun a ha => h2 a (g2 a ha))
  have s2 := sm_sub (gP G) M L g1 (fun a ha => h2 a (g2 a ha))
  exact g3 ⟨by omega, by omega⟩
/-- what is reached lies in the list -/
theorem rc_in {ls : List Nat} (h1 : ∀ r, r < 64 → R r ≠ 0 → R r ∈ ls) (h2 : ∀ a, a ∈ ls → ∀ i, i < gn G a → gI rf G a i ≠ 0 → gr G a i ≠ 0 → gr G a i ∈ ls) (ha : Rc rf G R a) : a ∈ ls :=
  ha (fun x => x ∈ ls) h1 (fun x i hx => h2 x hx i)
end
/-- the class's state, with its list hidden -/
def CI (z : Nat) (fl pr : Nat → Int32) (rf : Nat → Int64) (N : Nat) (G : Gh) (R : Nat → Nat) (tp ce pl : Int32) (ro : Nat → Int32) (hr th : Nat → Int64) : Prop :=
  ∃ T ls ad, tp = nI T ∧ Cr z fl pr rf G R ls ad T ce pl ro hr ∧ th 0 = 0 ∧ ∀ a, a ∈ ls → a ≤ N
section
variable {z : Nat} {fl pr ro : Nat → Int32} {rf hr : Nat → Int64} {G : Gh} {R : Nat → Nat} {ls : List Nat} {ad : Nat → Nat} {T x k f t n : Nat} {ce pl : Int32}
theorem cr_add (hp : Pw z pr) (h : Cr z fl pr rf G R ls ad T ce pl ro hr) (hx : x ∉ ls) (hx0 : x ≠ 0) (hw : Gw z fl (gAdd G x k f t n) x)
    (h1 : sm (gC pr G) ls + gC pr (gAdd G x k f t n) x ≤ 100000) (h2 : sm (gP G) ls + hdP k n ≤ 180000) :
    Cr z fl pr rf (gAdd G x k f t n) R (ls ++ [x]) (fun y => if y = x then T else ad y) (T + hdW k n) (ce + cstI pr k f t n) (pl + nI (hdP k n)) ro (vp_updL (zer hr T (T + hdW k n)) T (lN (hdN k f t n))) := by
  obtain ⟨⟨a1, a2, a3, a4, a5, a6, a7⟩, b1, b2, b3, b4, b5, b6⟩ := h
  have ne : ∀ a, a ∈ ls → a ≠ x := fun a ha e => hx (e ▸ ha)
  have sW : sm (gW (gAdd G x k f t n)) ls = sm (gW G) ls := sm_congr (fun a ha => ga_W (ne a ha))
  have sP : sm (gP (gAdd G x k f t n)) ls = sm (gP G) ls := sm_congr (fun a ha => ga_P (ne a ha))
  have sC : sm (gC pr (gAdd G x k f t n)) ls = sm (gC pr G) ls := sm_congr (fun a ha => ga_C (ne a ha))
  have xW : gW (gAdd G x k f t n) x = hdW k n := by unfold gW; rw [gx_k, gx_n]
  have xP : gP (gAdd G x k f t n) x = hdP k n := by unfold gP; rw [gx_k, gx_n]
  have xV : gV (gAdd G x k f t n) x = cwN k n := by unfold gV; rw [gx_k, gx_n]
  have xWV : hdW k n = 1 + cwN k n := rfl
  have hcI := gC_I hp hw
  rw [gx_k, gx_f, gx_t, gx_n] at hcI
  have L0 : Ly (gAdd G x k f t n) ls ad := ⟨a3.1, fun l1 a l2 e => by
    rw [a3.2 l1 a l2 e]
    have : sm (gW (gAdd G x k f t n)) l1 = sm (gW G) l1 := sm_congr (fun y hy => ga_W (ne y (by rw [e]; simp [hy])))
    rw [this]⟩
  have L1 := ly_app L0 hx hx0
  rw [sW, ← b1] at L1
  have hT1 : 1 ≤ T := by omega
  have hfar : ∀ a, a ∈ ls → ∀ u, u ≤ gV G a → vp_updL (zer hr T (T + hdW k n)) T (lN (hdN k f t n)) (ad a + u) = hr (ad a + u) := fun a ha u hu => by
    have := ly_top a3 ha
    have := gW_V G a
    rw [pk_uLn (by omega)]
    unfold zer
    rw [if_neg (by omega)]
  refine ⟨⟨nd_one a1 hx, fun a ha => ?_, L1, by rw [sm_one, sP, xP]; exact h2, fun a ha => ?_, fun a ha u hu => ?_, fun a ha i hi g1 g2 => ?_⟩, by rw [sm_one, sW, xW]; omega, by rw [sm_one, sC]; exact h1, by rw [sm_one, sC, b3, hcI.1, nI_add], by rw [sm_one, sP, xP, b4, nI_add], fun r hr => ?_, ?_⟩
  · rcases List.mem_append.mp ha with g | g
    · exact ⟨(a2 a g).1, ga_Gw (ne a g) (a2 a g).2⟩
    · rw [List.mem_singleton.mp g]
      exact ⟨hx0, hw⟩
  · show vp_updL _ T _ (if a = x then T else ad a) = _
    rcases List.mem_append.mp ha with g | g
    · rw [if_neg (ne a g), ga_H (ne a g)]
      have := hfar a g 0 (Nat.zero_le _)
      rw [Nat.add_zero] at this
      rw [this]
      exact a5 a g
    · rw [List.mem_singleton.mp g, if_pos rfl, pk_uLs]
      unfold gH
      rw [gx_k, gx_f, gx_t, gx_n]
  · show vp_updL _ T _ ((if a = x then T else ad a) + 1 + u) = vl rf (gAdd G x k f t n) (fun y => if y = x then T else ad y) a u
    rcases List.mem_append.mp ha with g | g
    · rw [if_neg (ne a g)]
      rw [ga_V (ne a g)] at hu
      rw [ga_vl (ne a g), show ad a + 1 + u = ad a + (u + 1) by omega, hfar a g (u + 1) (by omega), show ad a + (u + 1) = ad a + 1 + u by omega, a6 a g u hu]
      refine (vl_ext (fun g1 => ?_)).symm
      by_cases g2 : gr G a u = 0
      · rw [g2]
        exact if_neg (fun e => hx0 e.symm)
      · exact if_neg (ne _ (a7 a g u (by rw [gI_V g1] at hu; exact hu) g1 g2))
    · rw [List.mem_singleton.mp g]
      rw [List.mem_singleton.mp g, xV] at hu
      rw [if_pos rfl, pk_uLn (by omega)]
      unfold zer vl
      rw [if_pos (by omega), gx_w, gx_r]
      have e0 : (if (0 : Nat) = x then T else ad 0) = 0 := by
        rw [if_neg (fun e => hx0 e.symm)]
        exact a3.1
      show 0 = if _ then (0 : Int64) else lN (if (0 : Nat) = x then T else ad 0)
      rw [e0]
      split <;> rfl
  · rcases List.mem_append.mp ha with g | g
    · rw [ga_n (ne a g)] at hi
      rw [ga_I (ne a g)] at g1
      rw [ga_r (ne a g)] at g2 ⊢
      exact List.mem_append.mpr (.inl (a7 a g i hi g1 g2))
    · rw [List.mem_singleton.mp g, gx_r] at g2
      exact absurd rfl g2
  · obtain ⟨r1, r2⟩ := b5 r hr
    refine ⟨fun g => List.mem_append.mpr (.inl (r1 g)), ?_⟩
    show ro r = nI (if R r = x then T else ad (R r))
    by_cases e : R r = 0
    · rw [if_neg (fun g => hx0 (g.symm.trans e))]
      exact r2
    · rw [if_neg (ne _ (r1 e))]
      exact r2
  · rw [pk_uLn (by omega)]
    unfold zer
    rw [if_neg (by omega)]
    exact b6
/-- root v comes to hold x -/
theorem cr_root {v : Nat} (h : Cr z fl pr rf G R ls ad T ce pl ro hr) (hx : x ≠ 0 → x ∈ ls) : Cr z fl pr rf G (ru R v x) ls ad T ce pl (upd ro v (nI (ad x))) hr := by
  obtain ⟨hm, b1, b2, b3, b4, b5, b6⟩ := h
  refine ⟨hm, b1, b2, b3, b4, fun r hr => ?_, b6⟩
  unfold ru
  by_cases e : r = v
  · subst e
    rw [if_pos rfl, pk_us]
    exact ⟨hx, rfl⟩
  · rw [if_neg e, pk_un e]
    exact b5 r hr
end
section
variable {d : Nat} {al : Bool} {K : mm_K} {r : mm_W} {b : Bool} {ev un md ce pl wa sz tp : Int32} {fl pr ro : Nat → Int32} {rf hr th : Nat → Int64} {z N k f t n v : Nat} {G : Gh} {R : Nat → Nat}
/-- make of the class: refused (N), or made at a (Y) -/
def CN (z : Nat) (fl pr : Nat → Int32) (rf : Nat → Int64) (N : Nat) (G : Gh) (R : Nat → Nat) (md0 : Int32) (k f t n : Nat) (_b : Bool) (_un md tp ce pl : Int32) (ro : Nat → Int32) (hr th : Nat → Int64) : Prop :=
  md = md0 ∧ CI z fl pr rf N G R tp ce pl ro hr th ∧ NoFit rf pr G R (gC pr (gAdd G (N + 1) k f t n) (N + 1)) (hdP k n)
def CY (z : Nat) (fl pr : Nat → Int32) (rf : Nat → Int64) (N : Nat) (G : Gh) (R : Nat → Nat) (md0 : Int32) (k f t n : Nat) (_b : Bool) (_un md tp ce pl : Int32) (ro : Nat → Int32) (hr th : Nat → Int64) (a : Nat) : Prop :=
  md = md0 + cstI pr k f t n ∧ (∃ T ls ad, tp = nI T ∧ Cr z fl pr rf (gAdd G (N + 1) k f t n) R ls ad T ce pl ro hr ∧ th 0 = 0 ∧ (∀ a, a ∈ ls → a ≤ N + 1) ∧ N + 1 ∈ ls ∧ ad (N + 1) = a) ∧ Fit rf pr G R (gC pr (gAdd G (N + 1) k f t n) (N + 1)) (hdP k n)
theorem c_make (hp : Pw z pr) (h : CI z fl pr rf N G R tp ce pl ro hr th) (hw : Gw z fl (gAdd G (N + 1) k f t n) (N + 1)) :
    ∀ K' : mm_K, (∀ b un md' tp ce pl ro hr th, CN z fl pr rf N G R md k f t n b un md' tp ce pl ro hr th → K' (.inr 1) (wC b ev un md' tp ce pl wa sz fl pr rf ro hr th r)) → (∀ b un md' tp ce pl ro hr th a, CY z fl pr rf N G R md k f t n b un md' tp ce pl ro hr th a → K' (.inl (some (.int (nI a)))) (wC b ev un md' tp ce pl wa sz fl pr rf ro hr th r)) → mm_cal (d + 6) al 57 [.ref 0, .long (lN (hdN k f t n))] (wC b ev un md tp ce pl wa sz fl pr rf ro hr th r) K' := by
  intro K' kN kY
  obtain ⟨T, ls, ad, rfl, hC, ht0, hlN⟩ := h
  have hw2 := hw
  have hcI := gC_I hp hw
  unfold Gw at hw2
  rw [gx_k, gx_f, gx_t, gx_n] at hw2 hcI
  obtain ⟨ho, -, -, h1, -⟩ := hw2
  generalize hcg : gC pr (gAdd G (N + 1) k f t n) (N + 1) = c at hcI
  have hPW : hdW k n ≤ hdP k n := by unfold hdP; split <;> omega
  have hP2 : hdP k n ≤ 100002 := by
    have := ho.2.2.2
    unfold hdP hdW
    split <;> split <;> omega
  have key : ∀ {T ls ad ce pl ro} {hr : Nat → Int64}, Cr z fl pr rf G R ls ad T ce pl ro hr → (rmP ce pl pr k f t n ↔ sm (gC pr G) ls + c ≤ 100000 ∧ sm (gP G) ls + hdP k n ≤ 180000) := fun hC => by
    obtain ⟨⟨-, -, -, a4, -⟩, b1, b2, b3, b4, -⟩ := hC
    unfold rmP
    rw [b3, b4, hcI.1, nI_add, nI_add]
    rw [show (100000 : Int32) = nI 100000 from rfl, show (180000 : Int32) = nI 180000 from rfl, nI_leI (by omega) (by decide), nI_leI (by omega) (by decide)]
  refine f_make (P := fun _ T ce pl ro hr th => ∃ ls ad, Cr z fl pr rf G R ls ad T ce pl ro hr ∧ th 0 = 0 ∧ (∀ a, a ∈ ls → a ≤ N) ∧ (rmP ce pl pr k f t n ∨ ∀ a, a ∈ ls → Rc rf G R a)) ho (fun e => by have := (h1 e).1; have := hp.1; omega) ?_ ?_ ?_ ?_ ?_
  · intro _ K2 hK2
    refine c_move hp hC ht0 (fun nw nad T ce pl ro hr th hC' hrc ht' => hK2 _ _ _ _ _ _ _ ⟨nw, nad, hC', ht', fun a ha => hlN a (rc_in (fun r hr => (hC.2.2.2.2.2.1 r hr).1) hC.1.2.2.2.2.2.2 ((hrc a).mp ha)), .inr (fun a ha => (hrc a).mp ha)⟩)
  · intro _ hrm
    exact ⟨ls, ad, hC, ht0, hlN, .inl hrm⟩
  · rintro b T ce pl ro hr th ⟨ls, ad, hC, ht0, hlN, hor⟩ hrm
    refine kN _ _ _ _ _ _ _ _ _ ⟨rfl, ⟨T, ls, ad, rfl, hC, ht0, hlN⟩, ls, hC.1.1, hor.resolve_left hrm, fun e => hrm ((key hC).mpr ?_)⟩
    rw [hcg] at e
    exact e
  · rintro b T ce pl ro hr th ⟨ls, ad, hC, ht0, hlN, hor⟩ hrm
    have := ((key hC).mp hrm).2
    have := sW_P G ls
    have := hC.2.1
    omega
  · rintro b T ce pl ro hr th ⟨ls, ad, hC, ht0, hlN, hor⟩ hrm
    have hx : N + 1 ∉ ls := fun e => by have := hlN _ e; omega
    obtain ⟨s1, s2⟩ := (key hC).mp hrm
    have hC' := cr_add hp hC hx (by omega) hw (by rw [hcg]; exact s1) s2
    refine kY _ _ _ _ _ _ _ _ _ _ ⟨rfl, ⟨_, _, _, rfl, hC', ht0, fun a ha => ?_, by simp, if_pos rfl⟩, ls, hC.1.1, fun a ha => rc_in (fun r hr => (hC.2.2.2.2.2.1 r hr).1) hC.1.2.2.2.2.2.2 ha, by rw [hcg]; exact s1, s2⟩
    rcases List.mem_append.mp ha with g | g
    · exact Nat.le_succ_of_le (hlN a g)
    · rw [List.mem_singleton.mp g]
      exact Nat.le_refl _
/-- behind make, root v holds the new thing -/
theorem cy_root {tp ce pl : Int32} {ro : Nat → Int32} {hr th : Nat → Int64} {un md0 md : Int32} {a : Nat} (h : CY z fl pr rf N G R md0 k f t n b un md tp ce pl ro hr th a) :
    a < 180001 ∧ hr a = lN (hdN k f t n) ∧ CI z fl pr rf (N + 1) (gAdd G (N + 1) k f t n) (ru R v (N + 1)) tp ce pl (upd ro v (nI a)) hr th := by
  obtain ⟨-, ⟨T, ls, ad, rfl, hC, ht0, hlN, hin, rfl⟩, -⟩ := h
  have t1 := ly_top hC.1.2.2.1 hin
  have t2 := sW_P (gAdd G (N + 1) k f t n) ls
  have t3 := hC.1.2.2.2.1
  have t4 := gW_1 (gAdd G (N + 1) k f t n) (N + 1)
  refine ⟨by omega, ?_, T, ls, ad, rfl, cr_root hC (fun _ => hin), ht0, hlN⟩
  rw [hC.1.2.2.2.2.1 _ hin]
  unfold gH
  rw [gx_k, gx_f, gx_t, gx_n]
end
