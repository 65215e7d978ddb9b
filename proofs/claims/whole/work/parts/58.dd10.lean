section
variable {z : Nat} {fl pr ro : Nat → Int32} {rf hr : Nat → Int64} {N : Nat} {G : Gh} {R : Nat → Nat} {lm ls : List Nat} {nm ad : Nat → Nat} {bl : Nat → List Nat} {tN bN T : Nat} {fq fbl : List Nat} {tn ft bn fb us tk ce pl : Int32} {kd wh ca pa he fi nx rt : Nat → Int32} {nu : Nat → Int64} {a b s q k f t n x w j y v g i : Nat} {l : Int64}
theorem gc_n : gn (gCap rf G x g R i) a = gn G a := congrFun (gc_same rf G x g R i).2.2.2 a
theorem gc_I {j : Nat} : gI rf (gCap rf G x g R i) a j = gI rf G a j := by
  obtain ⟨h1, -, h3, -⟩ := gc_same rf G x g R i
  unfold gI gk gt
  rw [h1, h3]
theorem gc_H : gH (gCap rf G x g R i) a = gH G a := by
  obtain ⟨h1, h2, h3, h4⟩ := gc_same rf G x g R i
  unfold gH gk gf gt gn
  rw [h1, h2, h3, h4]
theorem gc_W : gW (gCap rf G x g R i) a = gW G a := by
  obtain ⟨h1, h2, h3, h4⟩ := gc_same rf G x g R i
  unfold gW gk gn
  rw [h1, h4]
theorem cr_cap (h : Cr z fl pr rf (gCap rf G x g R i) R ls ad T ce pl ro hr) (hx : x ∈ ls) (hi : i < gn G x) (hg : g + i < 64) :
    (gI rf G x i = 0 → Cr z fl pr rf (gCap rf G x g R (i + 1)) R ls ad T ce pl ro hr) ∧ (¬ gI rf G x i = 0 → Cr z fl pr rf (gCap rf G x g R (i + 1)) R ls ad T ce pl ro (vp_updL hr (ad x + 1 + i) (lN (ad (R (g + i)))))) := by
  refine ⟨fun e => ?_, fun e => ?_⟩
  · have : gCap rf G x g R (i + 1) = gCap rf G x g R i := if_pos e
    rw [this]
    exact h
  · have : gCap rf G x g R (i + 1) = gLnk (gCap rf G x g R i) x i (R (g + i)) := if_neg e
    rw [this]
    exact cr_lnk h hx (by rw [gc_n]; exact hi) (by rw [gc_I]; exact e) (h.2.2.2.2.2.1 (g + i) hg).1
theorem mx_eq {p p' r r' : Nat} (hr : r < 4) (hr' : r' < 4) (e : 4 * p + r = 4 * p' + r') : p = p' ∧ r = r' := by omega
theorem mb_put (h : Mb z fl pr rf N G R tN bN lm nm bl fq fbl tn ft bn fb us tk kd wh ca pa he fi nu nx rt) (hx : x ∈ lm) (hw : w < gV G x) (hI : gI rf G x w = 0) : Mb z fl pr rf N (gPut G x w l) R tN bN lm nm bl fq fbl tn ft bn fb us tk kd wh ca pa he fi (vp_updL nu (4 * (bl x).getD (w / 4) 0 + w % 4) l) nx rt := by
  obtain ⟨b1, b2, b3, hM, b5, b6, b7, b8, b9, b10⟩ := h
  refine ⟨b1, b2, b3, ?_, b5, b6, b7, b8, b9, b10⟩
  have hM' := hM
  obtain ⟨m1, m2, m3, m4, m5, m6, m7, m8, m9, m10, m11⟩ := hM
  refine ⟨m1, m2, m3, m4, m5, m6, fun a ha u hu => ?_, m8, m9, m10, m11⟩
  have hu : u < gV G a := hu
  by_cases c : a = x ∧ u = w
  · obtain ⟨rfl, rfl⟩ := c
    rw [pk_uLs]
    unfold vm
    rw [if_pos (show gI rf (gPut G a u l) a u = 0 from hI)]
    exact (if_pos ⟨rfl, rfl⟩).symm
  · rw [pk_uLn]
    · rw [m7 a ha u hu]
      unfold vm
      show _ = if gI rf G a u = 0 then (if a = x ∧ u = w then l else gw G a u) else _
      rw [if_neg c]
      rfl
    · intro e
      obtain ⟨e1, e2⟩ := mx_eq (by omega) (by omega) e
      obtain ⟨e3, e4⟩ := mm_bi hM' ha hx (gB_V hu) (gB_V hw) e1
      exact c ⟨e3, by omega⟩
theorem mb_lnk (h : Mb z fl pr rf N G R tN bN lm nm bl fq fbl tn ft bn fb us tk kd wh ca pa he fi nu nx rt) (hx : x ∈ lm) (hj : j < gn G x) (hI : gI rf G x j ≠ 0) (hy : y ≠ 0 → y ∈ lm) : Mb z fl pr rf N (gLnk G x j y) R tN bN lm nm bl fq fbl tn ft bn fb us tk kd wh ca pa he fi (vp_updL nu (4 * (bl x).getD (j / 4) 0 + j % 4) (lN (mr1 nm y))) nx rt := by
  have hw : j < gV G x := by rw [gI_V hI]; exact hj
  obtain ⟨b1, b2, b3, hM, b5, b6, b7, b8, b9, b10⟩ := h
  refine ⟨b1, b2, b3, ?_, fun a ha i hi g1 g2 => ?_, b6, b7, b8, b9, b10⟩
  · have hM' := hM
    obtain ⟨m1, m2, m3, m4, m5, m6, m7, m8, m9, m10, m11⟩ := hM
    refine ⟨m1, m2, m3, m4, m5, m6, fun a ha u hu => ?_, m8, m9, m10, m11⟩
    have hu : u < gV G a := hu
    by_cases c : a = x ∧ u = j
    · obtain ⟨rfl, rfl⟩ := c
      rw [pk_uLs]
      unfold vm
      rw [if_neg (show ¬ gI rf (gLnk G a u y) a u = 0 from hI)]
      show lN (mr1 nm y) = lN (mr1 nm (if a = a ∧ u = u then y else _))
      rw [if_pos ⟨rfl, rfl⟩]
    · rw [pk_uLn]
      · rw [m7 a ha u hu]
        unfold vm
        show _ = if gI rf G a u = 0 then gw G a u else lN (mr1 nm (if a = x ∧ u = j then y else gr G a u))
        rw [if_neg c]
      · intro e
        obtain ⟨e1, e2⟩ := mx_eq (by omega) (by omega) e
        obtain ⟨e3, e4⟩ := mm_bi hM' ha hx (gB_V hu) (gB_V hw) e1
        exact c ⟨e3, by omega⟩
  · have g2 : (if a = x ∧ i = j then y else gr G a i) ≠ 0 := g2
    show (if a = x ∧ i = j then y else gr G a i) ∈ lm
    by_cases c : a = x ∧ i = j
    · rw [if_pos c] at g2 ⊢
      exact hy g2
    · rw [if_neg c] at g2 ⊢
      exact b5 a ha i hi g1 g2
theorem mb_root (h : Mb z fl pr rf N G R tN bN lm nm bl fq fbl tn ft bn fb us tk kd wh ca pa he fi nu nx rt) (hx : x ≠ 0 → x ∈ lm) : Mb z fl pr rf N G (ru R v x) tN bN lm nm bl fq fbl tn ft bn fb us tk kd wh ca pa he fi nu nx (upd rt v (Mn nm x)) := by
  obtain ⟨b1, b2, b3, hM, b5, b6, b7, b8, b9, b10⟩ := h
  refine ⟨b1, b2, b3, hM, b5, b6, b7, b8, b9, fun r hr => ?_⟩
  unfold ru
  by_cases e : r = v
  · subst e
    rw [if_pos rfl, pk_us]
    exact ⟨hx, rfl⟩
  · rw [if_neg e, pk_un e]
    exact b10 r hr
theorem mb_lt (h : Mb z fl pr rf N G R tN bN lm nm bl fq fbl tn ft bn fb us tk kd wh ca pa he fi nu nx rt) (hv : v < 64) : R v ≠ 0 → nm (R v) < 180100 := fun e => (h.2.2.2.1.2.2.1 _ ((h.2.2.2.2.2.2.2.2.2 v hv).1 e)).2.1
theorem mb_cap (h : Mb z fl pr rf N (gCap rf G x g R i) R tN bN lm nm bl fq fbl tn ft bn fb us tk kd wh ca pa he fi nu nx rt) (hx : x ∈ lm) (hi : i < gn G x) (hg : g + i < 64) :
    (gI rf G x i = 0 → Mb z fl pr rf N (gCap rf G x g R (i + 1)) R tN bN lm nm bl fq fbl tn ft bn fb us tk kd wh ca pa he fi nu nx rt) ∧ (¬ gI rf G x i = 0 → Mb z fl pr rf N (gCap rf G x g R (i + 1)) R tN bN lm nm bl fq fbl tn ft bn fb us tk kd wh ca pa he fi (vp_updL nu (4 * (bl x).getD (i / 4) 0 + i % 4) (rt (g + i) + 1).toInt64) nx rt) := by
  refine ⟨fun e => ?_, fun e => ?_⟩
  · have : gCap rf G x g R (i + 1) = gCap rf G x g R i := if_pos e
    rw [this]
    exact h
  · have : gCap rf G x g R (i + 1) = gLnk (gCap rf G x g R i) x i (R (g + i)) := if_neg e
    obtain ⟨r1, r2⟩ := h.2.2.2.2.2.2.2.2.2 (g + i) hg
    rw [this, r2, mn_l (mb_lt h hg)]
    exact mb_lnk h hx (by rw [gc_n]; exact hi) (by rw [gc_I]; exact e) r1
/-- what root v holds, as the model has it, and what may be done with it -/
theorem m_at (h : MI z fl pr rf N G R tn ft bn fb us tk kd wh ca pa he fi nu nx rt) (hv : v < 64) :
    (R v = 0 ∧ rt v = -1) ∨ (R v ≠ 0 ∧ ∃ q B, rt v = nI q ∧ Mt fl pr rf kd wh ca pa he q (gk G (R v)) (gf G (R v)) (gt G (R v)) (gn G (R v)) ∧ Mc fi nx q (bkN (gk G (R v)) (gn G (R v))) B ∧
      (∀ u, u < gV G (R v) → gI rf G (R v) u = 0 → nu (4 * B (u / 4) + u % 4) = gw G (R v) u) ∧
      (∀ w l, w < gV G (R v) → gI rf G (R v) w = 0 → MI z fl pr rf N (gPut G (R v) w l) R tn ft bn fb us tk kd wh ca pa he fi (vp_updL nu (4 * B (w / 4) + w % 4) l) nx rt) ∧
      (∀ j s, j < gn G (R v) → gI rf G (R v) j ≠ 0 → s < 64 → MI z fl pr rf N (gLnk G (R v) j (R s)) R tn ft bn fb us tk kd wh ca pa he fi (vp_updL nu (4 * B (j / 4) + j % 4) (rt s + 1).toInt64) nx rt) ∧
      (∀ j s, j < gn G (R v) → gI rf G (R v) j ≠ 0 → MI z fl pr rf N G (ru R s (gr G (R v) j)) tn ft bn fb us tk kd wh ca pa he fi nu nx (upd rt s ((nu (4 * B (j / 4) + j % 4)).toInt32 - 1)))) := by
  obtain ⟨tN, bN, lm, nm, bl, fq, fbl, hB⟩ := h
  obtain ⟨r1, r2⟩ := hB.2.2.2.2.2.2.2.2.2 v hv
  by_cases c : R v = 0
  · left
    refine ⟨c, ?_⟩
    rw [r2]
    exact if_pos c
  · right
    have hx := r1 c
    have hM := hB.2.2.2.1
    have e1 : Mn nm (R v) = nI (nm (R v)) := if_neg c
    refine ⟨c, nm (R v), fun s => (bl (R v)).getD s 0, r2.trans e1, (hM.2.2.1 _ hx).2, mm_mc hM hx, fun u hu g => ?_, fun w l hw g => ⟨tN, bN, lm, nm, bl, fq, fbl, mb_put hB hx hw g⟩, fun j s hj g hs => ?_, fun j s hj g => ?_⟩
    · show nu (4 * (bl (R v)).getD (u / 4) 0 + u % 4) = _
      rw [hM.2.2.2.2.2.2.1 _ hx u hu]
      unfold vm
      rw [if_pos g]
    · obtain ⟨s1, s2⟩ := hB.2.2.2.2.2.2.2.2.2 s hs
      rw [s2, mn_l (mb_lt hB hs)]
      exact ⟨tN, bN, lm, nm, bl, fq, fbl, mb_lnk hB hx hj g s1⟩
    · have e2 := hM.2.2.2.2.2.2.1 _ hx j (by rw [gI_V g]; exact hj)
      unfold vm at e2
      rw [if_neg g] at e2
      show MI z fl pr rf N G (ru R s (gr G (R v) j)) tn ft bn fb us tk kd wh ca pa he fi nu nx (upd rt s ((nu (4 * (bl (R v)).getD (j / 4) 0 + j % 4)).toInt32 - 1))
      rw [e2, mn_r]
      exact ⟨tN, bN, lm, nm, bl, fq, fbl, mb_root hB (hB.2.2.2.2.1 _ hx j hj g)⟩
theorem mi_hold (h : MI z fl pr rf N G R tn ft bn fb us tk kd wh ca pa he fi nu nx rt) (hs : s < 64) : MI z fl pr rf N G (ru R v (R s)) tn ft bn fb us tk kd wh ca pa he fi nu nx (upd rt v (rt s)) := by
  obtain ⟨tN, bN, lm, nm, bl, fq, fbl, hB⟩ := h
  obtain ⟨s1, s2⟩ := hB.2.2.2.2.2.2.2.2.2 s hs
  rw [s2]
  exact ⟨tN, bN, lm, nm, bl, fq, fbl, mb_root hB s1⟩
theorem mi_hold0 (h : MI z fl pr rf N G R tn ft bn fb us tk kd wh ca pa he fi nu nx rt) : MI z fl pr rf N G (ru R v 0) tn ft bn fb us tk kd wh ca pa he fi nu nx (upd rt v (-1)) := by
  obtain ⟨tN, bN, lm, nm, bl, fq, fbl, hB⟩ := h
  exact ⟨tN, bN, lm, nm, bl, fq, fbl, mb_root (x := 0) hB (fun e => absurd rfl e)⟩
theorem mi_same (h : MI z fl pr rf N G R tn ft bn fb us tk kd wh ca pa he fi nu nx rt) (hv : v < 64) (hs : s < 64) : rt s = rt v ↔ R s = R v := by
  obtain ⟨tN, bN, lm, nm, bl, fq, fbl, hB⟩ := h
  obtain ⟨r1, r2⟩ := hB.2.2.2.2.2.2.2.2.2 v hv
  obtain ⟨s1, s2⟩ := hB.2.2.2.2.2.2.2.2.2 s hs
  have l1 := mb_lt hB hv
  have l2 := mb_lt hB hs
  rw [r2, s2]
  refine ⟨fun e => ?_, fun e => by rw [e]⟩
  unfold Mn at e
  have n1 : ∀ q, q < 180100 → ¬ nI q = -1 := fun q hq e => absurd (show nI q < 0 by rw [e]; decide) (nI_pos (by omega))
  by_cases c : R v = 0
  · by_cases c2 : R s = 0
    · rw [c, c2]
    · rw [if_neg c2, if_pos c] at e
      exact absurd e (n1 _ (l2 c2))
  · by_cases c2 : R s = 0
    · rw [if_pos c2, if_neg c] at e
      exact absurd e.symm (n1 _ (l1 c))
    · rw [if_neg c2, if_neg c] at e
      have := l1 c
      have := l2 c2
      exact hB.2.2.2.1.2.2.2.1 _ (s1 c2) _ (r1 c) ((nI_eq (by omega) (by omega)).mp e)
/-- behind make, root v holds the new thing -/
theorem my_root {mb td : Nat → Int32} {mk ma0 ma : Int32} (h : MY z fl pr rf N G R rt ma0 k f t n mb td us tk ft fb mk kd fi nx tn wh ca pa he bn nu ma q) :
    q < 180100 ∧ MI z fl pr rf (N + 1) (gAdd G (N + 1) k f t n) (ru R v (N + 1)) tn ft bn fb us tk kd wh ca pa he fi nu nx (upd rt v (nI q)) := by
  obtain ⟨-, ⟨tN, bN, lm, nm, bl, fq, fbl, hB, hin, rfl⟩, -⟩ := h
  refine ⟨(hB.2.2.2.1.2.2.1 _ hin).2.1, tN, bN, lm, nm, bl, fq, fbl, ?_⟩
  have := mb_root (v := v) (x := N + 1) hB (fun _ => hin)
  rw [show Mn nm (N + 1) = nI (nm (N + 1)) from if_neg (by omega)] at this
  exact this
end
