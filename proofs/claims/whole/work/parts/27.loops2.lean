section
variable {d : Nat} {al : Bool} {K : mm_K} {k1 k2 : Nat} {w r : mm_W} {b : Bool} {ev un md tp ce pl wa sz : Int32} {fl pr ro : Nat → Int32} {rf hr th : Nat → Int64} {k f t n a i : Nat}
theorem h7_captureL {Inv : Nat → (Nat → Int64) → Prop} {g : Nat} (h : hdOk k f t n) (h1 : k = 1 → t < 100 ∧ n ≤ 64) (h5 : k = 5 → n ≤ 32) (ha : a + 1 + n ≤ 180001)
    (hs : ∀ i hr, i < n → Inv i hr → (isrN rf k t i = 0 → Inv (i + 1) hr) ∧ (¬ isrN rf k t i = 0 → ∃ x, x < 2 ^ 31 ∧ g + i < 64 ∧ ro (g + i) = nI x ∧ Inv (i + 1) (vp_updL hr (a + 1 + i) (lN x))))
    (hk : ∀ hr, Inv n hr → K (.inl none) (wC b ev un md tp ce pl wa sz fl pr rf ro hr th r)) :
    ∀ (m i : Nat) (hr : Nat → Int64), n - i = m → i ≤ n → Inv i hr → mm_wp (d + 3) none al 21 K 0 0 10 [(0, .ref 1), (1, .int (nI a)), (2, .int (nI g)), (3, .long (lN (hdN k f t n))), (5, .int (nI i))] [] (wC b ev un md tp ce pl wa sz fl pr rf ro hr th r) := by
  have hn : n ≤ 100000 := h.2.2.2
  intro m
  induction m with
  | zero =>
    intro i hr hm hi hI
    have e : i = n := by omega
    subst e
    refine mm_go (d := d + 2) 2 rfl trivial (mm_one (h1_count h ?_))
    refine mm_one ⟨fun u => ?_, fun u => ?_⟩
    · exact mm_one (hk hr hI)
    · exact absurd ((nI_leI (by omega) (by omega)).mpr (Nat.le_refl _)) u
  | succ m ih =>
    intro i hr hm hi hI
    have o1 : n - (i + 1) = m := by omega
    have o2 : i + 1 ≤ n := by omega
    have hi' := hs i hr (by omega) hI
    refine mm_go (d := d + 2) 2 rfl trivial (mm_one (h1_count h ?_))
    refine mm_one ⟨fun u => ?_, fun u => ?_⟩
    · exact absurd ((nI_leI (by omega) (by omega)).mp u) (by omega)
    · refine mm_go (d := d + 2) 3 rfl trivial (mm_one (h2_isReference (d := d) h (fun e => ⟨(h1 e).1, by have := (h1 e).2; omega⟩) (fun e => by have := h5 e; omega) ?_))
      have hb : isrN rf k t i < 2 := by unfold isrN; split <;> (try split) <;> (try split) <;> omega
      refine mm_one ⟨fun y => ?_, fun y => ?_⟩
      · refine mm_go (d := d + 2) (lv' := [(0, .ref 1), (1, .int (nI a)), (2, .int (nI g)), (3, .long (lN (hdN k f t n))), (5, .int (nI i + 1))]) 2 rfl trivial ?_
        rw [nI_1]
        exact ih (i + 1) hr o1 o2 (hi'.1 ((nI_eq (by omega) (by decide)).mp (show nI (isrN rf k t i) = nI 0 from y)))
      · obtain ⟨x, hx, hg, ex, hI'⟩ := hi'.2 (fun e => y (show nI (isrN rf k t i) = nI 0 by rw [e]))
        have i3 : vp_in (nI g + nI i) 64 := by rw [nI_add]; exact vp_in_nI hg (by decide)
        have e3 : ro (nI g + nI i).toNatClampNeg = nI x := by rw [nI_add, nI_clamp (by omega)]; exact ex
        refine mm_go (d := d + 2) (st' := [.int (ro (nI g + nI i).toNatClampNeg), .int (nI i), .int (nI a), .ref 1]) 9 rfl ⟨i3, trivial⟩ ?_
        rw [e3]
        refine mm_one (h2_setReference (d := d + 1) (by omega) hx ?_)
        refine mm_go (d := d + 2) (lv' := [(0, .ref 1), (1, .int (nI a)), (2, .int (nI g)), (3, .long (lN (hdN k f t n))), (5, .int (nI i + 1))]) 2 rfl trivial ?_
        rw [nI_1]
        exact ih (i + 1) _ o1 o2 hI'
theorem h7_capture {Inv : Nat → (Nat → Int64) → Prop} {g : Nat} (h : hdOk k f t n) (h1 : k = 1 → t < 100 ∧ n ≤ 64) (h5 : k = 5 → n ≤ 32) (ha : a + 1 + n ≤ 180001) (hh : hr a = lN (hdN k f t n)) (h0 : Inv 0 hr)
    (hs : ∀ i hr, i < n → Inv i hr → (isrN rf k t i = 0 → Inv (i + 1) hr) ∧ (¬ isrN rf k t i = 0 → ∃ x, x < 2 ^ 31 ∧ g + i < 64 ∧ ro (g + i) = nI x ∧ Inv (i + 1) (vp_updL hr (a + 1 + i) (lN x))))
    (hk : ∀ hr, Inv n hr → K (.inl none) (wC b ev un md tp ce pl wa sz fl pr rf ro hr th r)) : mm_cal (d + 3) al 21 [.ref 1, .int (nI a), .int (nI g)] (wC b ev un md tp ce pl wa sz fl pr rf ro hr th r) K := by
  have i1 : vp_in (nI a) 180001 := vp_in_nI (by omega) (by decide)
  have e1 : hr (nI a).toNatClampNeg = lN (hdN k f t n) := by rw [nI_clamp (by omega)]; exact hh
  cases b
  · refine mm_go (d := d + 2) (lv' := [(0, .ref 1), (1, .int (nI a)), (2, .int (nI g)), (3, .long (hr (nI a).toNatClampNeg)), (5, .int (nI 0))]) 7 rfl ⟨i1, trivial⟩ ?_
    rw [e1]
    exact h7_captureL (d := d) (al := al) h h1 h5 ha hs hk _ 0 hr rfl (Nat.zero_le _) h0
  · refine mm_go (d := d + 2) (lv' := [(0, .ref 1), (1, .int (nI a)), (2, .int (nI g)), (3, .long (hr (nI a).toNatClampNeg)), (5, .int (nI 0))]) 7 rfl ⟨i1, trivial⟩ ?_
    rw [e1]
    exact h7_captureL (d := d) (al := al) h h1 h5 ha hs hk _ 0 hr rfl (Nat.zero_le _) h0
theorem h7_mark_fL {Inv : Nat → Nat → (Nat → Int64) → Prop} {T : Nat} (hT : T ≤ 180001)
    (hb : ∀ s a th, Inv s a th → a ≤ T)
    (hs : ∀ s a th, Inv s a th → a < T → s < 180000 ∧ ∃ k f t n, hdOk k f t n ∧ hr a = lN (hdN k f t n) ∧ Inv (s + 1) (a + hdW k n) (vp_updL th a 1))
    (hk : ∀ s a th, Inv s a th → ¬ a < T → K (.inl none) (wC false ev un md (nI T) ce pl wa sz fl pr rf ro hr th r)) :
    ∀ (m s a : Nat) (th : Nat → Int64), 180000 - s = m → s ≤ 180000 → Inv s a th → mm_wp (d + 3) none al 33 K 0 0 17 [(0, .ref 1), (1, .int (nI a)), (2, .int (nI s))] [] (wC false ev un md (nI T) ce pl wa sz fl pr rf ro hr th r) := by
  intro m
  induction m with
  | zero =>
    intro s a th hm hsl hI
    have hna : ¬ a < T := fun h => absurd (hs s a th hI h).1 (by omega)
    refine mm_go (d := d + 2) 2 rfl trivial (mm_one ⟨fun u => ?_, fun u => ?_⟩)
    · exact mm_one (hk s a th hI hna)
    · have u : ¬ nI 180000 ≤ nI s := u
      exact absurd ((nI_leI (by omega) (by omega)).mpr (by omega)) u
  | succ m ih =>
    intro s a th hm hsl hI
    have ha := hb s a th hI
    refine mm_go (d := d + 2) 2 rfl trivial (mm_one ⟨fun u => ?_, fun u => ?_⟩)
    · have u : nI 180000 ≤ nI s := u
      exact absurd ((nI_leI (by omega) (by omega)).mp u) (by omega)
    · refine mm_go (d := d + 2) 3 rfl trivial (mm_one ⟨fun u => ?_, fun u => ?_⟩)
      · exact mm_one (hk s a th hI (by have := (nI_leI (by omega) (by omega)).mp u; omega))
      · have hlt : a < T := Nat.lt_of_not_le (fun g => u ((nI_leI (by omega) (by omega)).mpr g))
        obtain ⟨hs1, k, f, t, n, h, hh, hI'⟩ := hs s a th hI hlt
        have i1 : vp_in (nI a) 180001 := vp_in_nI (by omega) (by decide)
        have e1 : (nI a).toNatClampNeg = a := nI_clamp (by omega)
        refine mm_go (d := d + 2) (st' := [.long (hr (nI a).toNatClampNeg), .int (nI a)]) (w' := (wC false ev un md (nI T) ce pl wa sz fl pr rf ro hr (vp_updL th (nI a).toNatClampNeg 1) r)) 10 rfl ⟨i1, i1, trivial⟩ ?_
        rw [e1, hh]
        refine mm_one (h1_words (d := d) h ?_)
        refine mm_go (d := d + 2) (lv' := [(0, .ref 1), (1, .int (nI a + nI (hdW k n))), (2, .int (nI s + 1))]) 4 rfl trivial ?_
        rw [nI_1, nI_add]
        exact ih (s + 1) (a + hdW k n) _ (by omega) (by omega) hI'
theorem h7_mark_tL {Inv : Nat → Nat → (Nat → Int64) → Prop} {T : Nat} (hT : T ≤ 180001)
    (hb : ∀ s a th, Inv s a th → a ≤ T)
    (hs : ∀ s a th, Inv s a th → a < T → s < 180000 ∧ ∃ k f t n, hdOk k f t n ∧ hr a = lN (hdN k f t n) ∧ Inv (s + 1) (a + hdW k n) (vp_updL th a 1))
    (hk : ∀ s a th, Inv s a th → ¬ a < T → K (.inl none) (wC true ev un md (nI T) ce pl wa sz fl pr rf ro hr th r)) :
    ∀ (m s a : Nat) (th : Nat → Int64), 180000 - s = m → s ≤ 180000 → Inv s a th → mm_wp (d + 3) none al 33 K 0 0 17 [(0, .ref 1), (1, .int (nI a)), (2, .int (nI s))] [] (wC true ev un md (nI T) ce pl wa sz fl pr rf ro hr th r) := by
  intro m
  induction m with
  | zero =>
    intro s a th hm hsl hI
    have hna : ¬ a < T := fun h => absurd (hs s a th hI h).1 (by omega)
    refine mm_go (d := d + 2) 2 rfl trivial (mm_one ⟨fun u => ?_, fun u => ?_⟩)
    · exact mm_one (hk s a th hI hna)
    · have u : ¬ nI 180000 ≤ nI s := u
      exact absurd ((nI_leI (by omega) (by omega)).mpr (by omega)) u
  | succ m ih =>
    intro s a th hm hsl hI
    have ha := hb s a th hI
    refine mm_go (d := d + 2) 2 rfl trivial (mm_one ⟨fun u => ?_, fun u => ?_⟩)
    · have u : nI 180000 ≤ nI s := u
      exact absurd ((nI_leI (by omega) (by omega)).mp u) (by omega)
    · refine mm_go (d := d + 2) 3 rfl trivial (mm_one ⟨fun u => ?_, fun u => ?_⟩)
      · exact mm_one (hk s a th hI (by have := (nI_leI (by omega) (by omega)).mp u; omega))
      · have hlt : a < T := Nat.lt_of_not_le (fun g => u ((nI_leI (by omega) (by omega)).mpr g))
        obtain ⟨hs1, k, f, t, n, h, hh, hI'⟩ := hs s a th hI hlt
        have i1 : vp_in (nI a) 180001 := vp_in_nI (by omega) (by decide)
        have e1 : (nI a).toNatClampNeg = a := nI_clamp (by omega)
        refine mm_go (d := d + 2) (st' := [.long (hr (nI a).toNatClampNeg), .int (nI a)]) (w' := (wC true ev un md (nI T) ce pl wa sz fl pr rf ro hr (vp_updL th (nI a).toNatClampNeg 1) r)) 10 rfl ⟨i1, i1, trivial⟩ ?_
        rw [e1, hh]
        refine mm_one (h1_words (d := d) h ?_)
        refine mm_go (d := d + 2) (lv' := [(0, .ref 1), (1, .int (nI a + nI (hdW k n))), (2, .int (nI s + 1))]) 4 rfl trivial ?_
        rw [nI_1, nI_add]
        exact ih (s + 1) (a + hdW k n) _ (by omega) (by omega) hI'
theorem h7_mark {Inv : Nat → Nat → (Nat → Int64) → Prop} {T : Nat} (hT1 : 1 ≤ T) (hT : T ≤ 180001)
    (h0 : Inv 0 1 (zer th 1 T))
    (hb : ∀ s a th, Inv s a th → a ≤ T)
    (hs : ∀ s a th, Inv s a th → a < T → s < 180000 ∧ ∃ k f t n, hdOk k f t n ∧ hr a = lN (hdN k f t n) ∧ Inv (s + 1) (a + hdW k n) (vp_updL th a 1))
    (hk : ∀ s a th, Inv s a th → ¬ a < T → K (.inl none) (wC b ev un md (nI T) ce pl wa sz fl pr rf ro hr th r)) : mm_cal (d + 3) al 33 [.ref 1] (wC b ev un md (nI T) ce pl wa sz fl pr rf ro hr th r) K := by
  cases b
  · refine mm_go (d := d + 2) 6 rfl trivial (mm_one (h3_fillT_f (d := d) (x := 1) hT1 hT ?_))
    exact mm_go (d := d + 2) (lv' := [(0, .ref 1), (1, .int (nI 1)), (2, .int (nI 0))]) 4 rfl trivial (h7_mark_fL (d := d) (al := al) hT hb hs hk _ 0 1 _ rfl (Nat.zero_le _) h0)
  · refine mm_go (d := d + 2) 6 rfl trivial (mm_one (h3_fillT_t (d := d) (x := 1) hT1 hT ?_))
    exact mm_go (d := d + 2) (lv' := [(0, .ref 1), (1, .int (nI 1)), (2, .int (nI 0))]) 4 rfl trivial (h7_mark_tL (d := d) (al := al) hT hb hs hk _ 0 1 _ rfl (Nat.zero_le _) h0)
theorem h7_rootsL_f {Inv : Nat → Nat → (Nat → Int64) → (Nat → Int64) → (Nat → Int32) → Prop}
    (hs : ∀ i T hr th ro, i < 64 → Inv i T hr th ro → ∃ x q T' hr' th', ro i = nI x ∧ Mv T hr th x T' hr' th' q ∧ Inv (i + 1) T' hr' th' (upd ro i (nI q)))
    (hk : ∀ T hr th ro, Inv 64 T hr th ro → mm_wp (d + 5) none al 26 K 0 0 63 [(0, .ref 1), (1, .ref 8), (2, .int (nI 64))] [] (wC false ev un md (nI T) ce pl wa sz fl pr rf ro hr th r)) :
    ∀ (m i T : Nat) (hr th : Nat → Int64) (ro : Nat → Int32), 64 - i = m → i ≤ 64 → Inv i T hr th ro → mm_wp (d + 5) none al 26 K 0 0 35 [(0, .ref 1), (1, .ref 8), (2, .int (nI i))] [] (wC false ev un md (nI T) ce pl wa sz fl pr rf ro hr th r) := by
  intro m
  induction m with
  | zero =>
    intro i T hr th ro hm hi hI
    have e : i = 64 := by omega
    subst e
    refine mm_go (d := d + 4) 2 rfl trivial (mm_one ⟨fun u => ?_, fun u => ?_⟩)
    · exact hk T hr th ro hI
    · exact absurd (show nI 64 ≤ nI 64 from (nI_leI (by omega) (by omega)).mpr (Nat.le_refl _)) u
  | succ m ih =>
    intro i T hr th ro hm hi hI
    obtain ⟨x, q, T', hr', th', ex, hv, hI'⟩ := hs i T hr th ro (by omega) hI
    have i1 : vp_in (nI i) 64 := vp_in_nI (by omega) (by decide)
    have e1 : (nI i).toNatClampNeg = i := nI_clamp (by omega)
    refine mm_go (d := d + 4) 2 rfl trivial (mm_one ⟨fun u => ?_, fun u => ?_⟩)
    · have u : nI 64 ≤ nI i := u
      exact absurd ((nI_leI (by omega) (by omega)).mp u) (by omega)
    · refine mm_go (d := d + 4) (st' := [.int (ro (nI i).toNatClampNeg), .ref 1, .int (nI i), .ref 6]) 8 rfl ⟨i1, trivial⟩ ?_
      rw [e1, ex]
      refine mm_one (h6_moved (d := d + 1) hv ?_)
      refine mm_go (d := d + 4) (lv' := [(0, .ref 1), (1, .ref 8), (2, .int (nI i + 1))]) (w' := (wC false ev un md (nI T') ce pl wa sz fl pr rf (upd ro (nI i).toNatClampNeg (nI q)) hr' th' r)) 3 rfl ⟨i1, trivial⟩ ?_
      rw [nI_1, e1]
      exact ih (i + 1) T' hr' th' _ (by omega) (by omega) hI'
theorem h7_scanL_f {Jnv : Nat → Nat → Nat → (Nat → Int64) → (Nat → Int64) → Int32 → Int32 → Prop}
    (hb : ∀ s a T hr th ce pl, Jnv s a T hr th ce pl → a ≤ 180001 ∧ T ≤ 180001)
    (hs : ∀ s a T hr th ce pl, Jnv s a T hr th ce pl → a < T → s < 180000 ∧ ∃ k f t n, hdOk k f t n ∧ (k = 1 → t < 100 ∧ n ≤ 64) ∧ (k = 5 → n ≤ 32) ∧ a + 1 + refC k n ≤ 180001 ∧ hr a = lN (hdN k f t n) ∧ ∃ Inv : Nat → Nat → (Nat → Int64) → (Nat → Int64) → Prop, Inv 0 T hr th ∧ (∀ i T hr th, i < refC k n → Inv i T hr th → (hr (a + 1 + i) = 0 ∨ isrN rf k t i = 0 → Inv (i + 1) T hr th) ∧ (¬ hr (a + 1 + i) = 0 → ¬ isrN rf k t i = 0 → ∃ x q T' hr' th', q < 2 ^ 31 ∧ hr (a + 1 + i) = lN x ∧ Mv T hr th x T' hr' th' q ∧ Inv (i + 1) T' (vp_updL hr' (a + 1 + i) (lN q)) th')) ∧ ∀ T hr th, Inv (refC k n) T hr th → hr a = lN (hdN k f t n) ∧ Jnv (s + 1) (a + hdW k n) T hr th (ce + cstI pr k f t n) (pl + nI (hdP k n)))
    (hk : ∀ s a T hr th ce pl, Jnv s a T hr th ce pl → ¬ a < T → K (.inl none) (wC false ev un md (nI T) ce pl wa sz fl pr rf ro hr th r)) :
    ∀ (m s a T : Nat) (hr th : Nat → Int64) (ce pl : Int32), 180000 - s = m → s ≤ 180000 → Jnv s a T hr th ce pl → mm_wp (d + 5) none al 26 K 0 0 67 [(0, .ref 1), (1, .ref 8), (2, .int (nI a)), (3, .int (nI s))] [] (wC false ev un md (nI T) ce pl wa sz fl pr rf ro hr th r) := by
  intro m
  induction m with
  | zero =>
    intro s a T hr th ce pl hm hsl hI
    have hna : ¬ a < T := fun h => absurd (hs s a T hr th ce pl hI h).1 (by omega)
    refine mm_go (d := d + 4) 2 rfl trivial (mm_one ⟨fun u => ?_, fun u => ?_⟩)
    · exact mm_one (hk s a T hr th ce pl hI hna)
    · have u : ¬ nI 180000 ≤ nI s := u
      exact absurd ((nI_leI (by omega) (by omega)).mpr (by omega)) u
  | succ m ih =>
    intro s a T hr th ce pl hm hsl hI
    have hab := hb s a T hr th ce pl hI
    have ha1 := hab.1
    have ha2 := hab.2
    refine mm_go (d := d + 4) 2 rfl trivial (mm_one ⟨fun u => ?_, fun u => ?_⟩)
    · have u : nI 180000 ≤ nI s := u
      exact absurd ((nI_leI (by omega) (by omega)).mp u) (by omega)
    · refine mm_go (d := d + 4) 3 rfl trivial (mm_one ⟨fun u => ?_, fun u => ?_⟩)
      · exact mm_one (hk s a T hr th ce pl hI (by have := (nI_leI (by omega) (by omega)).mp u; omega))
      · have hlt : a < T := Nat.lt_of_not_le (fun g => u ((nI_leI (by omega) (by omega)).mpr g))
        obtain ⟨hs1, k, f, t, n, h, h1, h5, ha, hh, Inv, hI0, hst, hend⟩ := hs s a T hr th ce pl hI hlt
        have i1 : vp_in (nI a) 180001 := vp_in_nI (by omega) (by decide)
        have e1 : (nI a).toNatClampNeg = a := nI_clamp (by omega)
        refine mm_go (d := d + 4) 2 rfl trivial (mm_one (h6_refer (d := d) h h1 h5 ha hh hI0 hst (fun T' hr' th' hI' => ?_)))
        obtain ⟨hh', hJ⟩ := hend T' hr' th' hI'
        refine mm_go (d := d + 4) (st' := [.long (hr' (nI a).toNatClampNeg), .ref 1]) 5 rfl ⟨i1, trivial⟩ ?_
        rw [e1, hh']
        refine mm_one (h3_addToTotals (d := d) h (fun e => (h1 e).1) ?_)
        refine mm_go (d := d + 4) (st' := [.long (hr' (nI a).toNatClampNeg), .int (nI a)]) 5 rfl ⟨i1, trivial⟩ ?_
        rw [e1, hh']
        refine mm_one (h1_words (d := d + 2) h ?_)
        refine mm_go (d := d + 4) (lv' := [(0, .ref 1), (1, .ref 8), (2, .int (nI a + nI (hdW k n))), (3, .int (nI s + 1))]) 4 rfl trivial ?_
        rw [nI_1, nI_add]
        exact ih (s + 1) (a + hdW k n) T' hr' th' _ _ (by omega) (by omega) hJ
theorem h7_rootsL_t {Inv : Nat → Nat → (Nat → Int64) → (Nat → Int64) → (Nat → Int32) → Prop}
    (hs : ∀ i T hr th ro, i < 64 → Inv i T hr th ro → ∃ x q T' hr' th', ro i = nI x ∧ Mv T hr th x T' hr' th' q ∧ Inv (i + 1) T' hr' th' (upd ro i (nI q)))
    (hk : ∀ T hr th ro, Inv 64 T hr th ro → mm_wp (d + 5) none al 26 K 0 0 63 [(0, .ref 1), (1, .ref 7), (2, .int (nI 64))] [] (wC true ev un md (nI T) ce pl wa sz fl pr rf ro hr th r)) :
    ∀ (m i T : Nat) (hr th : Nat → Int64) (ro : Nat → Int32), 64 - i = m → i ≤ 64 → Inv i T hr th ro → mm_wp (d + 5) none al 26 K 0 0 35 [(0, .ref 1), (1, .ref 7), (2, .int (nI i))] [] (wC true ev un md (nI T) ce pl wa sz fl pr rf ro hr th r) := by
  intro m
  induction m with
  | zero =>
    intro i T hr th ro hm hi hI
    have e : i = 64 := by omega
    subst e
    refine mm_go (d := d + 4) 2 rfl trivial (mm_one ⟨fun u => ?_, fun u => ?_⟩)
    · exact hk T hr th ro hI
    · exact absurd (show nI 64 ≤ nI 64 from (nI_leI (by omega) (by omega)).mpr (Nat.le_refl _)) u
  | succ m ih =>
    intro i T hr th ro hm hi hI
    obtain ⟨x, q, T', hr', th', ex, hv, hI'⟩ := hs i T hr th ro (by omega) hI
    have i1 : vp_in (nI i) 64 := vp_in_nI (by omega) (by decide)
    have e1 : (nI i).toNatClampNeg = i := nI_clamp (by omega)
    refine mm_go (d := d + 4) 2 rfl trivial (mm_one ⟨fun u => ?_, fun u => ?_⟩)
    · have u : nI 64 ≤ nI i := u
      exact absurd ((nI_leI (by omega) (by omega)).mp u) (by omega)
    · refine mm_go (d := d + 4) (st' := [.int (ro (nI i).toNatClampNeg), .ref 1, .int (nI i), .ref 6]) 8 rfl ⟨i1, trivial⟩ ?_
      rw [e1, ex]
      refine mm_one (h6_moved (d := d + 1) hv ?_)
      refine mm_go (d := d + 4) (lv' := [(0, .ref 1), (1, .ref 7), (2, .int (nI i + 1))]) (w' := (wC true ev un md (nI T') ce pl wa sz fl pr rf (upd ro (nI i).toNatClampNeg (nI q)) hr' th' r)) 3 rfl ⟨i1, trivial⟩ ?_
      rw [nI_1, e1]
      exact ih (i + 1) T' hr' th' _ (by omega) (by omega) hI'
theorem h7_scanL_t {Jnv : Nat → Nat → Nat → (Nat → Int64) → (Nat → Int64) → Int32 → Int32 → Prop}
    (hb : ∀ s a T hr th ce pl, Jnv s a T hr th ce pl → a ≤ 180001 ∧ T ≤ 180001)
    (hs : ∀ s a T hr th ce pl, Jnv s a T hr th ce pl → a < T → s < 180000 ∧ ∃ k f t n, hdOk k f t n ∧ (k = 1 → t < 100 ∧ n ≤ 64) ∧ (k = 5 → n ≤ 32) ∧ a + 1 + refC k n ≤ 180001 ∧ hr a = lN (hdN k f t n) ∧ ∃ Inv : Nat → Nat → (Nat → Int64) → (Nat → Int64) → Prop, Inv 0 T hr th ∧ (∀ i T hr th, i < refC k n → Inv i T hr th → (hr (a + 1 + i) = 0 ∨ isrN rf k t i = 0 → Inv (i + 1) T hr th) ∧ (¬ hr (a + 1 + i) = 0 → ¬ isrN rf k t i = 0 → ∃ x q T' hr' th', q < 2 ^ 31 ∧ hr (a + 1 + i) = lN x ∧ Mv T hr th x T' hr' th' q ∧ Inv (i + 1) T' (vp_updL hr' (a + 1 + i) (lN q)) th')) ∧ ∀ T hr th, Inv (refC k n) T hr th → hr a = lN (hdN k f t n) ∧ Jnv (s + 1) (a + hdW k n) T hr th (ce + cstI pr k f t n) (pl + nI (hdP k n)))
    (hk : ∀ s a T hr th ce pl, Jnv s a T hr th ce pl → ¬ a < T → K (.inl none) (wC true ev un md (nI T) ce pl wa sz fl pr rf ro hr th r)) :
    ∀ (m s a T : Nat) (hr th : Nat → Int64) (ce pl : Int32), 180000 - s = m → s ≤ 180000 → Jnv s a T hr th ce pl → mm_wp (d + 5) none al 26 K 0 0 67 [(0, .ref 1), (1, .ref 7), (2, .int (nI a)), (3, .int (nI s))] [] (wC true ev un md (nI T) ce pl wa sz fl pr rf ro hr th r) := by
  intro m
  induction m with
  | zero =>
    intro s a T hr th ce pl hm hsl hI
    have hna : ¬ a < T := fun h => absurd (hs s a T hr th ce pl hI h).1 (by omega)
    refine mm_go (d := d + 4) 2 rfl trivial (mm_one ⟨fun u => ?_, fun u => ?_⟩)
    · exact mm_one (hk s a T hr th ce pl hI hna)
    · have u : ¬ nI 180000 ≤ nI s := u
      exact absurd ((nI_leI (by omega) (by omega)).mpr (by omega)) u
  | succ m ih =>
    intro s a T hr th ce pl hm hsl hI
    have hab := hb s a T hr th ce pl hI
    have ha1 := hab.1
    have ha2 := hab.2
    refine mm_go (d := d + 4) 2 rfl trivial (mm_one ⟨fun u => ?_, fun u => ?_⟩)
    · have u : nI 180000 ≤ nI s := u
      exact absurd ((nI_leI (by omega) (by omega)).mp u) (by omega)
    · refine mm_go (d := d + 4) 3 rfl trivial (mm_one ⟨fun u => ?_, fun u => ?_⟩)
      · exact mm_one (hk s a T hr th ce pl hI (by have := (nI_leI (by omega) (by omega)).mp u; omega))
      · have hlt : a < T := Nat.lt_of_not_le (fun g => u ((nI_leI (by omega) (by omega)).mpr g))
        obtain ⟨hs1, k, f, t, n, h, h1, h5, ha, hh, Inv, hI0, hst, hend⟩ := hs s a T hr th ce pl hI hlt
        have i1 : vp_in (nI a) 180001 := vp_in_nI (by omega) (by decide)
        have e1 : (nI a).toNatClampNeg = a := nI_clamp (by omega)
        refine mm_go (d := d + 4) 2 rfl trivial (mm_one (h6_refer (d := d) h h1 h5 ha hh hI0 hst (fun T' hr' th' hI' => ?_)))
        obtain ⟨hh', hJ⟩ := hend T' hr' th' hI'
        refine mm_go (d := d + 4) (st' := [.long (hr' (nI a).toNatClampNeg), .ref 1]) 5 rfl ⟨i1, trivial⟩ ?_
        rw [e1, hh']
        refine mm_one (h3_addToTotals (d := d) h (fun e => (h1 e).1) ?_)
        refine mm_go (d := d + 4) (st' := [.long (hr' (nI a).toNatClampNeg), .int (nI a)]) 5 rfl ⟨i1, trivial⟩ ?_
        rw [e1, hh']
        refine mm_one (h1_words (d := d + 2) h ?_)
        refine mm_go (d := d + 4) (lv' := [(0, .ref 1), (1, .ref 7), (2, .int (nI a + nI (hdW k n))), (3, .int (nI s + 1))]) 4 rfl trivial ?_
        rw [nI_1, nI_add]
        exact ih (s + 1) (a + hdW k n) T' hr' th' _ _ (by omega) (by omega) hJ
theorem h7_moveReached {Inv : Nat → Nat → (Nat → Int64) → (Nat → Int64) → (Nat → Int32) → Prop} {Jnv : (Nat → Int32) → Nat → Nat → Nat → (Nat → Int64) → (Nat → Int64) → Int32 → Int32 → Prop}
    (h0 : Inv 0 1 th hr ro)
    (hr1 : ∀ i T hr th ro, i < 64 → Inv i T hr th ro → ∃ x q T' hr' th', ro i = nI x ∧ Mv T hr th x T' hr' th' q ∧ Inv (i + 1) T' hr' th' (upd ro i (nI q)))
    (hj : ∀ T hr th ro, Inv 64 T hr th ro → Jnv ro 0 1 T hr th 0 0)
    (hb : ∀ ro s a T hr th ce pl, Jnv ro s a T hr th ce pl → a ≤ 180001 ∧ T ≤ 180001)
    (hs : ∀ ro s a T hr th ce pl, Jnv ro s a T hr th ce pl → a < T → s < 180000 ∧ ∃ k f t n, hdOk k f t n ∧ (k = 1 → t < 100 ∧ n ≤ 64) ∧ (k = 5 → n ≤ 32) ∧ a + 1 + refC k n ≤ 180001 ∧ hr a = lN (hdN k f t n) ∧ ∃ Inv : Nat → Nat → (Nat → Int64) → (Nat → Int64) → Prop, Inv 0 T hr th ∧ (∀ i T hr th, i < refC k n → Inv i T hr th → (hr (a + 1 + i) = 0 ∨ isrN rf k t i = 0 → Inv (i + 1) T hr th) ∧ (¬ hr (a + 1 + i) = 0 → ¬ isrN rf k t i = 0 → ∃ x q T' hr' th', q < 2 ^ 31 ∧ hr (a + 1 + i) = lN x ∧ Mv T hr th x T' hr' th' q ∧ Inv (i + 1) T' (vp_updL hr' (a + 1 + i) (lN q)) th')) ∧ ∀ T hr th, Inv (refC k n) T hr th → hr a = lN (hdN k f t n) ∧ Jnv ro (s + 1) (a + hdW k n) T hr th (ce + cstI pr k f t n) (pl + nI (hdP k n)))
    (hk : ∀ ro s a T hr th ce pl, Jnv ro s a T hr th ce pl → ¬ a < T → K (.inl none) (wC (!b) ev un md (nI T) ce pl wa sz fl pr rf ro hr th r)) : mm_cal (d + 5) al 26 [.ref 1] (wC b ev un md tp ce pl wa sz fl pr rf ro hr th r) K := by
  cases b
  · refine mm_go (d := d + 4) (lv' := [(0, .ref 1), (1, .ref 7), (2, .int (nI 0))]) (w' := (wC true ev un md (nI 1) 0 0 wa sz fl pr rf ro th hr r)) 21 rfl trivial ?_
    refine h7_rootsL_t (d := d) (al := al) (ce := 0) (pl := 0) hr1 (fun T hr th ro hI => ?_) _ 0 1 th hr ro rfl (Nat.zero_le _) h0
    exact mm_go (d := d + 4) (lv' := [(0, .ref 1), (1, .ref 7), (2, .int (nI 1)), (3, .int (nI 0))]) 4 rfl trivial (h7_scanL_t (d := d) (al := al) (hb ro) (hs ro) (hk ro) _ 0 1 T hr th 0 0 rfl (Nat.zero_le _) (hj T hr th ro hI))
  · refine mm_go (d := d + 4) (lv' := [(0, .ref 1), (1, .ref 8), (2, .int (nI 0))]) (w' := (wC false ev un md (nI 1) 0 0 wa sz fl pr rf ro th hr r)) 21 rfl trivial ?_
    refine h7_rootsL_f (d := d) (al := al) (ce := 0) (pl := 0) hr1 (fun T hr th ro hI => ?_) _ 0 1 th hr ro rfl (Nat.zero_le _) h0
    exact mm_go (d := d + 4) (lv' := [(0, .ref 1), (1, .ref 8), (2, .int (nI 1)), (3, .int (nI 0))]) 4 rfl trivial (h7_scanL_f (d := d) (al := al) (hb ro) (hs ro) (hk ro) _ 0 1 T hr th 0 0 rfl (Nat.zero_le _) (hj T hr th ro hI))
end
