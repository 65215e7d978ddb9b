/-- cells from x up to y are 0, the others as they were -/
def zer (g : Nat → Int64) (x y : Nat) : Nat → Int64 := fun j => if x ≤ j ∧ j < y then 0 else g j
theorem zer_0 (g : Nat → Int64) (x : Nat) : zer g x x = g := by
  funext j
  unfold zer
  rw [if_neg (by omega)]
theorem zer_s (g : Nat → Int64) {x i : Nat} (h : x ≤ i) : vp_updL (zer g x i) i 0 = zer g x (i + 1) := by
  funext j
  unfold vp_updL zer
  by_cases hj : j = i
  · rw [if_pos hj, if_pos (by omega)]
  · rw [if_neg hj]
    by_cases h2 : x ≤ j ∧ j < i
    · rw [if_pos h2, if_pos (by omega)]
    · rw [if_neg h2, if_neg (by omega)]
section
variable {d : Nat} {al : Bool} {K : mm_K} {k1 k2 : Nat} {w r : mm_W} {b : Bool} {ev un md tp ce pl wa sz : Int32} {fl pr ro : Nat → Int32} {rf hr th : Nat → Int64} {k f t n a i : Nat}
theorem h3_range {l x y : Nat} (hxy : x ≤ y) (hy : y ≤ l) (hl : l < 2 ^ 31) (hk : K (.inl none) w) : mm_cal (d + 1) al 101 [.int (nI l), .int (nI x), .int (nI y)] w K := by
  refine mm_go (d := d) 2 rfl trivial (mm_one ⟨fun c => ?_, fun c => ?_⟩)
  · refine mm_go (d := d) 1 rfl trivial (mm_one ⟨fun c => ?_, fun c => ?_⟩)
    · refine mm_go (d := d) 2 rfl trivial (mm_one ⟨fun c => ?_, fun c => ?_⟩)
      · exact mm_one hk
      · exact absurd ((nI_leI (by omega) (by omega)).mpr hy) c
    · exact absurd (nI_pos' (by omega)) c
  · exact absurd ((nI_leI (by omega) (by omega)).mpr hxy) c
theorem h3_fill_fL {x y : Nat} (hy : y ≤ 180001) (hk : K (.inl none) (wC false ev un md tp ce pl wa sz fl pr rf ro (zer hr x y) th r)) : ∀ (m i : Nat), y - i = m → x ≤ i → i ≤ y → mm_wp (d + 1) none al 102 K 0 0 10 [(0, .ref 7), (1, .int (nI x)), (2, .int (nI y)), (3, .long 0), (5, .int (nI i))] [] (wC false ev un md tp ce pl wa sz fl pr rf ro (zer hr x i) th r) := by
  intro m
  induction m with
  | zero =>
    intro i hm hx hi
    have e : i = y := by omega
    subst e
    refine mm_go (d := d) 2 rfl trivial (mm_one ⟨fun c => ?_, fun c => ?_⟩)
    · exact mm_one hk
    · exact absurd ((nI_leI (by omega) (by omega)).mpr (Nat.le_refl _)) c
  | succ m ih =>
    intro i hm hx hi
    refine mm_go (d := d) 2 rfl trivial (mm_one ⟨fun c => ?_, fun c => ?_⟩)
    · exact absurd ((nI_leI (by omega) (by omega)).mp c) (by omega)
    · have hin : vp_in (nI i) 180001 := vp_in_nI (by omega) (by decide)
      refine mm_go (d := d) (lv' := [(0, .ref 7), (1, .int (nI x)), (2, .int (nI y)), (3, .long 0), (5, .int (nI i + 1))]) (w' := (wC false ev un md tp ce pl wa sz fl pr rf ro (vp_updL (zer hr x i) (nI i).toNatClampNeg 0) th r)) 6 rfl ⟨hin, trivial⟩ ?_
      rw [nI_1, nI_clamp (by omega), zer_s hr hx]
      exact ih (i + 1) (by omega) (by omega) (by omega)
theorem h3_fill_f {x y : Nat} (hxy : x ≤ y) (hy : y ≤ 180001) (hk : K (.inl none) (wC false ev un md tp ce pl wa sz fl pr rf ro (zer hr x y) th r)) : mm_cal (d + 2) al 102 [.ref 7, .int (nI x), .int (nI y), .long 0] (wC false ev un md tp ce pl wa sz fl pr rf ro hr th r) K := by
  refine mm_go (d := d + 1) 4 rfl trivial (mm_one (h3_range (l := 180001) hxy hy (by decide) ?_))
  refine mm_go (d := d + 1) (lv' := [(0, .ref 7), (1, .int (nI x)), (2, .int (nI y)), (3, .long 0), (5, .int (nI x))]) (w' := (wC false ev un md tp ce pl wa sz fl pr rf ro hr th r)) 2 rfl trivial ?_
  have h := h3_fill_fL (d := d + 1) (al := al) (x := x) hy hk (y - x) x rfl (Nat.le_refl _) hxy
  rw [zer_0] at h
  exact h
theorem h3_fill_tL {x y : Nat} (hy : y ≤ 180001) (hk : K (.inl none) (wC true ev un md tp ce pl wa sz fl pr rf ro (zer hr x y) th r)) : ∀ (m i : Nat), y - i = m → x ≤ i → i ≤ y → mm_wp (d + 1) none al 102 K 0 0 10 [(0, .ref 8), (1, .int (nI x)), (2, .int (nI y)), (3, .long 0), (5, .int (nI i))] [] (wC true ev un md tp ce pl wa sz fl pr rf ro (zer hr x i) th r) := by
  intro m
  induction m with
  | zero =>
    intro i hm hx hi
    have e : i = y := by omega
    subst e
    refine mm_go (d := d) 2 rfl trivial (mm_one ⟨fun c => ?_, fun c => ?_⟩)
    · exact mm_one hk
    · exact absurd ((nI_leI (by omega) (by omega)).mpr (Nat.le_refl _)) c
  | succ m ih =>
    intro i hm hx hi
    refine mm_go (d := d) 2 rfl trivial (mm_one ⟨fun c => ?_, fun c => ?_⟩)
    · exact absurd ((nI_leI (by omega) (by omega)).mp c) (by omega)
    · have hin : vp_in (nI i) 180001 := vp_in_nI (by omega) (by decide)
      refine mm_go (d := d) (lv' := [(0, .ref 8), (1, .int (nI x)), (2, .int (nI y)), (3, .long 0), (5, .int (nI i + 1))]) (w' := (wC true ev un md tp ce pl wa sz fl pr rf ro (vp_updL (zer hr x i) (nI i).toNatClampNeg 0) th r)) 6 rfl ⟨hin, trivial⟩ ?_
      rw [nI_1, nI_clamp (by omega), zer_s hr hx]
      exact ih (i + 1) (by omega) (by omega) (by omega)
theorem h3_fill_t {x y : Nat} (hxy : x ≤ y) (hy : y ≤ 180001) (hk : K (.inl none) (wC true ev un md tp ce pl wa sz fl pr rf ro (zer hr x y) th r)) : mm_cal (d + 2) al 102 [.ref 8, .int (nI x), .int (nI y), .long 0] (wC true ev un md tp ce pl wa sz fl pr rf ro hr th r) K := by
  refine mm_go (d := d + 1) 4 rfl trivial (mm_one (h3_range (l := 180001) hxy hy (by decide) ?_))
  refine mm_go (d := d + 1) (lv' := [(0, .ref 8), (1, .int (nI x)), (2, .int (nI y)), (3, .long 0), (5, .int (nI x))]) (w' := (wC true ev un md tp ce pl wa sz fl pr rf ro hr th r)) 2 rfl trivial ?_
  have h := h3_fill_tL (d := d + 1) (al := al) (x := x) hy hk (y - x) x rfl (Nat.le_refl _) hxy
  rw [zer_0] at h
  exact h
theorem h3_fillT_fL {x y : Nat} (hy : y ≤ 180001) (hk : K (.inl none) (wC false ev un md tp ce pl wa sz fl pr rf ro hr (zer th x y) r)) : ∀ (m i : Nat), y - i = m → x ≤ i → i ≤ y → mm_wp (d + 1) none al 102 K 0 0 10 [(0, .ref 8), (1, .int (nI x)), (2, .int (nI y)), (3, .long 0), (5, .int (nI i))] [] (wC false ev un md tp ce pl wa sz fl pr rf ro hr (zer th x i) r) := by
  intro m
  induction m with
  | zero =>
    intro i hm hx hi
    have e : i = y := by omega
    subst e
    refine mm_go (d := d) 2 rfl trivial (mm_one ⟨fun c => ?_, fun c => ?_⟩)
    · exact mm_one hk
    · exact absurd ((nI_leI (by omega) (by omega)).mpr (Nat.le_refl _)) c
  | succ m ih =>
    intro i hm hx hi
    refine mm_go (d := d) 2 rfl trivial (mm_one ⟨fun c => ?_, fun c => ?_⟩)
    · exact absurd ((nI_leI (by omega) (by omega)).mp c) (by omega)
    · have hin : vp_in (nI i) 180001 := vp_in_nI (by omega) (by decide)
      refine mm_go (d := d) (lv' := [(0, .ref 8), (1, .int (nI x)), (2, .int (nI y)), (3, .long 0), (5, .int (nI i + 1))]) (w' := (wC false ev un md tp ce pl wa sz fl pr rf ro hr (vp_updL (zer th x i) (nI i).toNatClampNeg 0) r)) 6 rfl ⟨hin, trivial⟩ ?_
      rw [nI_1, nI_clamp (by omega), zer_s th hx]
      exact ih (i + 1) (by omega) (by omega) (by omega)
theorem h3_fillT_f {x y : Nat} (hxy : x ≤ y) (hy : y ≤ 180001) (hk : K (.inl none) (wC false ev un md tp ce pl wa sz fl pr rf ro hr (zer th x y) r)) : mm_cal (d + 2) al 102 [.ref 8, .int (nI x), .int (nI y), .long 0] (wC false ev un md tp ce pl wa sz fl pr rf ro hr th r) K := by
  refine mm_go (d := d + 1) 4 rfl trivial (mm_one (h3_range (l := 180001) hxy hy (by decide) ?_))
  refine mm_go (d := d + 1) (lv' := [(0, .ref 8), (1, .int (nI x)), (2, .int (nI y)), (3, .long 0), (5, .int (nI x))]) (w' := (wC false ev un md tp ce pl wa sz fl pr rf ro hr th r)) 2 rfl trivial ?_
  have h := h3_fillT_fL (d := d + 1) (al := al) (x := x) hy hk (y - x) x rfl (Nat.le_refl _) hxy
  rw [zer_0] at h
  exact h
theorem h3_fillT_tL {x y : Nat} (hy : y ≤ 180001) (hk : K (.inl none) (wC true ev un md tp ce pl wa sz fl pr rf ro hr (zer th x y) r)) : ∀ (m i : Nat), y - i = m → x ≤ i → i ≤ y → mm_wp (d + 1) none al 102 K 0 0 10 [(0, .ref 7), (1, .int (nI x)), (2, .int (nI y)), (3, .long 0), (5, .int (nI i))] [] (wC true ev un md tp ce pl wa sz fl pr rf ro hr (zer th x i) r) := by
  intro m
  induction m with
  | zero =>
    intro i hm hx hi
    have e : i = y := by omega
    subst e
    refine mm_go (d := d) 2 rfl trivial (mm_one ⟨fun c => ?_, fun c => ?_⟩)
    · exact mm_one hk
    · exact absurd ((nI_leI (by omega) (by omega)).mpr (Nat.le_refl _)) c
  | succ m ih =>
    intro i hm hx hi
    refine mm_go (d := d) 2 rfl trivial (mm_one ⟨fun c => ?_, fun c => ?_⟩)
    · exact absurd ((nI_leI (by omega) (by omega)).mp c) (by omega)
    · have hin : vp_in (nI i) 180001 := vp_in_nI (by omega) (by decide)
      refine mm_go (d := d) (lv' := [(0, .ref 7), (1, .int (nI x)), (2, .int (nI y)), (3, .long 0), (5, .int (nI i + 1))]) (w' := (wC true ev un md tp ce pl wa sz fl pr rf ro hr (vp_updL (zer th x i) (nI i).toNatClampNeg 0) r)) 6 rfl ⟨hin, trivial⟩ ?_
      rw [nI_1, nI_clamp (by omega), zer_s th hx]
      exact ih (i + 1) (by omega) (by omega) (by omega)
theorem h3_fillT_t {x y : Nat} (hxy : x ≤ y) (hy : y ≤ 180001) (hk : K (.inl none) (wC true ev un md tp ce pl wa sz fl pr rf ro hr (zer th x y) r)) : mm_cal (d + 2) al 102 [.ref 7, .int (nI x), .int (nI y), .long 0] (wC true ev un md tp ce pl wa sz fl pr rf ro hr th r) K := by
  refine mm_go (d := d + 1) 4 rfl trivial (mm_one (h3_range (l := 180001) hxy hy (by decide) ?_))
  refine mm_go (d := d + 1) (lv' := [(0, .ref 7), (1, .int (nI x)), (2, .int (nI y)), (3, .long 0), (5, .int (nI x))]) (w' := (wC true ev un md tp ce pl wa sz fl pr rf ro hr th r)) 2 rfl trivial ?_
  have h := h3_fillT_tL (d := d + 1) (al := al) (x := x) hy hk (y - x) x rfl (Nat.le_refl _) hxy
  rw [zer_0] at h
  exact h
theorem h3_addToTotals (h : hdOk k f t n) (ht : k = 1 → t < 100) (hk : K (.inl none) (wC b ev un md tp (ce + cstI pr k f t n) (pl + nI (hdP k n)) wa sz fl pr rf ro hr th r)) : mm_cal (d + 4) al 30 [.ref 1, .long (lN (hdN k f t n))] (wC b ev un md tp ce pl wa sz fl pr rf ro hr th r) K := by
  cases b
  · refine mm_go (d := d + 3) 5 rfl trivial (mm_one (h2_cellsOf (d := d + 1) h ht ?_))
    refine mm_go (d := d + 3) (w' := wC false ev un md tp (ce + cstI pr k f t n) pl wa sz fl pr rf ro hr th r) 6 rfl trivial (mm_one (h1_places h ?_))
    exact mm_go (d := d + 3) (w' := wC false ev un md tp (ce + cstI pr k f t n) (pl + nI (hdP k n)) wa sz fl pr rf ro hr th r) 2 rfl trivial (mm_one hk)
  · refine mm_go (d := d + 3) 5 rfl trivial (mm_one (h2_cellsOf (d := d + 1) h ht ?_))
    refine mm_go (d := d + 3) (w' := wC true ev un md tp (ce + cstI pr k f t n) pl wa sz fl pr rf ro hr th r) 6 rfl trivial (mm_one (h1_places h ?_))
    exact mm_go (d := d + 3) (w' := wC true ev un md tp (ce + cstI pr k f t n) (pl + nI (hdP k n)) wa sz fl pr rf ro hr th r) 2 rfl trivial (mm_one hk)
theorem h3_hasRoom (h : hdOk k f t n) (ht : k = 1 → t < 100) (hy : ce + cstI pr k f t n ≤ 100000 → pl + nI (hdP k n) ≤ 180000 → K (.inl (some (.int 1))) (wC b ev un md tp ce pl wa sz fl pr rf ro hr th r)) (hn : ¬ (ce + cstI pr k f t n ≤ 100000 ∧ pl + nI (hdP k n) ≤ 180000) → K (.inl (some (.int 0))) (wC b ev un md tp ce pl wa sz fl pr rf ro hr th r)) : mm_cal (d + 4) al 24 [.ref 1, .long (lN (hdN k f t n))] (wC b ev un md tp ce pl wa sz fl pr rf ro hr th r) K := by
  refine mm_go (d := d + 3) 4 rfl trivial (mm_one (h2_cellsOf (d := d + 1) h ht ?_))
  refine mm_go (d := d + 3) 2 rfl trivial (mm_one ⟨fun c => ?_, fun c => ?_⟩)
  · have c : 100000 < ce + cstI pr k f t n := c
    exact mm_go (d := d + 3) 1 rfl trivial (mm_one ⟨rfl, hn (fun z => absurd z.1 (Int32.not_le.mpr c))⟩)
  · have c1 : ce + cstI pr k f t n ≤ 100000 := Int32.not_lt.mp c
    refine mm_go (d := d + 3) 3 rfl trivial (mm_one (h1_places h ?_))
    refine mm_go (d := d + 3) 2 rfl trivial (mm_one ⟨fun c => ?_, fun c => ?_⟩)
    · have c : 180000 < pl + nI (hdP k n) := c
      exact mm_go (d := d + 3) 1 rfl trivial (mm_one ⟨rfl, hn (fun z => absurd z.2 (Int32.not_le.mpr c))⟩)
    · have c2 : pl + nI (hdP k n) ≤ 180000 := Int32.not_lt.mp c
      exact mm_go (d := d + 3) 2 rfl trivial (mm_one ⟨rfl, hy c1 c2⟩)
theorem h3_holdNew {q : Nat} (h : hdOk k f t n) (ht : k = 1 → t < 100) (hq : q < 64) (ha : a < 180001) (hh : hr a = lN (hdN k f t n)) (hk : K (.inl (some (.int (cstI pr k f t n)))) (wC b ev un md tp ce pl wa sz fl pr rf (upd ro q (nI a)) hr th r)) : mm_cal (d + 3) al 22 [.ref 1, .int (nI q), .int (nI a)] (wC b ev un md tp ce pl wa sz fl pr rf ro hr th r) K := by
  have hin : vp_in (nI q) 64 := vp_in_nI hq (by decide)
  have hin2 : vp_in (nI a) 180001 := vp_in_nI ha (by decide)
  have eq1 : (nI q).toNatClampNeg = q := nI_clamp (by omega)
  have eq2 : hr (nI a).toNatClampNeg = lN (hdN k f t n) := by rw [nI_clamp (by omega)]; exact hh
  cases b
  · refine mm_go (d := d + 2) (st' := [.long (hr (nI a).toNatClampNeg), .ref 1]) (w' := wC false ev un md tp ce pl wa sz fl pr rf (upd ro (nI q).toNatClampNeg (nI a)) hr th r) 10 rfl ⟨hin, hin2, trivial⟩ ?_
    rw [eq1, eq2]
    exact mm_one (h2_cellsOf (d := d) h ht (mm_one hk))
  · refine mm_go (d := d + 2) (st' := [.long (hr (nI a).toNatClampNeg), .ref 1]) (w' := wC true ev un md tp ce pl wa sz fl pr rf (upd ro (nI q).toNatClampNeg (nI a)) hr th r) 10 rfl ⟨hin, hin2, trivial⟩ ?_
    rw [eq1, eq2]
    exact mm_one (h2_cellsOf (d := d) h ht (mm_one hk))
end
