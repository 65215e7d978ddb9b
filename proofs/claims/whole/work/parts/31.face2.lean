section
variable {d : Nat} {al : Bool} {K : mm_K} {k1 k2 : Nat} {w r : mm_W} {b : Bool} {ev un md tp ce pl wa sz : Int32} {fl pr ro : Nat → Int32} {rf hr th : Nat → Int64} {k f t n a i j q v T e : Nat} {x y s : Int32} {z : Int64}
theorem f_putX (hc : ∀ K' : mm_K, K' (.inr e) (wC b ev un md tp ce pl wa sz fl pr rf ro hr th r) → mm_cal (d + 3) false 55 [.ref 0, .int x, .int y] (wC b ev un md tp ce pl wa sz fl pr rf ro hr th r) K') (hk : K (.inr e) (wC b ev un md tp ce pl wa sz fl pr rf ro hr th r)) : mm_cal (d + 4) al 42 [.ref 0, .int x, .int y, .long z] (wC b ev un md tp ce pl wa sz fl pr rf ro hr th r) K := by
  exact mm_go (d := d + 3) 3 rfl trivial (mm_one (hc _ hk))
theorem f_put (hv : v < 64) (hro : ro v = nI a) (ha : a < 180001) (h : hdOk k f t n) (h1 : k = 1 → t < 100 ∧ n ≤ 64) (h5 : k = 5 → n ≤ 32) (hh : hr a = lN (hdN k f t n)) (hj : j < n) (hw : a + hdW k n ≤ 180001) (hi0 : isrN rf k t j = 0) (hk : K (.inl (some (.long (numL hr k a j)))) (wC b ev un md tp ce pl wa sz fl pr rf ro (setL hr k a j z) th r)) : mm_cal (d + 4) al 42 [.ref 0, .int (nI v), .int (nI j), .long z] (wC b ev un md tp ce pl wa sz fl pr rf ro hr th r) K := by
  have hn : n ≤ 100000 := h.2.2.2
  have h4 : k = 4 → a + 1 + j / 4 < 180001 := fun c => by unfold hdW at hw; rw [if_pos c] at hw; omega
  have hN : ¬ k = 4 → a + 1 + j < 180001 := fun c => by unfold hdW at hw; rw [if_neg c] at hw; omega
  refine mm_go (d := d + 3) 3 rfl trivial (mm_one (f_num (d := d) hv hro ha h h1 h5 hh hj (fun c => absurd hi0 c) (fun _ => ?_)))
  refine mm_go (d := d + 3) 5 rfl trivial (mm_one (h4_number (d := d + 1) h ha (by omega) h4 hN hh ?_))
  refine mm_go (d := d + 3) 6 rfl trivial (mm_one (h4_setNumber (d := d + 1) h ha (by omega) h4 hN hh ?_))
  exact mm_go (d := d + 3) 1 rfl trivial (mm_one hk)
theorem f_getX (hc : ∀ K' : mm_K, K' (.inr e) (wC b ev un md tp ce pl wa sz fl pr rf ro hr th r) → mm_cal (d + 3) false 55 [.ref 0, .int x, .int y] (wC b ev un md tp ce pl wa sz fl pr rf ro hr th r) K') (hk : K (.inr e) (wC b ev un md tp ce pl wa sz fl pr rf ro hr th r)) : mm_cal (d + 4) al 43 [.ref 0, .int x, .int y] (wC b ev un md tp ce pl wa sz fl pr rf ro hr th r) K := by
  exact mm_go (d := d + 3) 5 rfl trivial (mm_one (hc _ hk))
theorem f_get (hv : v < 64) (hro : ro v = nI a) (ha : a < 180001) (h : hdOk k f t n) (h1 : k = 1 → t < 100 ∧ n ≤ 64) (h5 : k = 5 → n ≤ 32) (hh : hr a = lN (hdN k f t n)) (hj : j < n) (hw : a + hdW k n ≤ 180001) (hi0 : isrN rf k t j = 0) (hk : K (.inl (some (.long (numL hr k a j)))) (wC b ev un md tp ce pl wa sz fl pr rf ro hr th r)) : mm_cal (d + 4) al 43 [.ref 0, .int (nI v), .int (nI j)] (wC b ev un md tp ce pl wa sz fl pr rf ro hr th r) K := by
  have hn : n ≤ 100000 := h.2.2.2
  have h4 : k = 4 → a + 1 + j / 4 < 180001 := fun c => by unfold hdW at hw; rw [if_pos c] at hw; omega
  have hN : ¬ k = 4 → a + 1 + j < 180001 := fun c => by unfold hdW at hw; rw [if_neg c] at hw; omega
  refine mm_go (d := d + 3) 5 rfl trivial (mm_one (f_num (d := d) hv hro ha h h1 h5 hh hj (fun c => absurd hi0 c) (fun _ => ?_)))
  refine mm_go (d := d + 3) 1 rfl trivial (mm_one (h4_number (d := d + 1) h ha (by omega) h4 hN hh ?_))
  exact mm_one hk
theorem f_linkX (hc : ∀ K' : mm_K, K' (.inr e) (wC b ev un md tp ce pl wa sz fl pr rf ro hr th r) → mm_cal (d + 3) false 56 [.ref 0, .int x, .int y, .int s] (wC b ev un md tp ce pl wa sz fl pr rf ro hr th r) K') (hk : K (.inr e) (wC b ev un md tp ce pl wa sz fl pr rf ro hr th r)) : mm_cal (d + 4) al 44 [.ref 0, .int x, .int y, .int s] (wC b ev un md tp ce pl wa sz fl pr rf ro hr th r) K := by
  exact mm_go (d := d + 3) 4 rfl trivial (mm_one (hc _ hk))
theorem f_link {u : Nat} (hv : v < 64) (hro : ro v = nI a) (ha : a < 180001) (h : hdOk k f t n) (h1 : k = 1 → t < 100 ∧ n ≤ 64) (h5 : k = 5 → n ≤ 32) (hh : hr a = lN (hdN k f t n)) (hj : j < n) (hq : q < 64) (hu : ro q = nI u) (hu2 : u < 2 ^ 31) (hw : a + 1 + j < 180001) (hi0 : ¬ isrN rf k t j = 0) (hk : K (.inl none) (wC b ev un md tp ce pl wa sz fl pr rf ro (vp_updL hr (a + 1 + j) (lN u)) th r)) : mm_cal (d + 4) al 44 [.ref 0, .int (nI v), .int (nI j), .int (nI q)] (wC b ev un md tp ce pl wa sz fl pr rf ro hr th r) K := by
  have i1 : vp_in (nI q) 64 := vp_in_nI hq (by decide)
  have e1 : ro (nI q).toNatClampNeg = nI u := by rw [nI_clamp (by omega)]; exact hu
  refine mm_go (d := d + 3) 4 rfl trivial (mm_one (f_ref (d := d) hv hro ha h h1 h5 hh hj hq (fun c => absurd c hi0) (fun _ => ?_)))
  refine mm_go (d := d + 3) (st' := [.int (ro (nI q).toNatClampNeg), .int (nI j), .int (nI a), .ref 1]) 10 rfl ⟨i1, trivial⟩ ?_
  rw [e1]
  refine mm_one (h2_setReference (d := d + 2) hw hu2 ?_)
  exact mm_one hk
theorem f_followX (hc : ∀ K' : mm_K, K' (.inr e) (wC b ev un md tp ce pl wa sz fl pr rf ro hr th r) → mm_cal (d + 3) false 56 [.ref 0, .int x, .int y, .int s] (wC b ev un md tp ce pl wa sz fl pr rf ro hr th r) K') (hk : K (.inr e) (wC b ev un md tp ce pl wa sz fl pr rf ro hr th r)) : mm_cal (d + 4) al 45 [.ref 0, .int x, .int y, .int s] (wC b ev un md tp ce pl wa sz fl pr rf ro hr th r) K := by
  exact mm_go (d := d + 3) 4 rfl trivial (mm_one (hc _ hk))
theorem f_follow {u : Nat} (hv : v < 64) (hro : ro v = nI a) (ha : a < 180001) (h : hdOk k f t n) (h1 : k = 1 → t < 100 ∧ n ≤ 64) (h5 : k = 5 → n ≤ 32) (hh : hr a = lN (hdN k f t n)) (hj : j < n) (hq : q < 64) (hu : hr (a + 1 + j) = lN u) (hw : a + 1 + j < 180001) (hi0 : ¬ isrN rf k t j = 0) (hk : K (.inl none) (wC b ev un md tp ce pl wa sz fl pr rf (upd ro q (nI u)) hr th r)) : mm_cal (d + 4) al 45 [.ref 0, .int (nI v), .int (nI j), .int (nI q)] (wC b ev un md tp ce pl wa sz fl pr rf ro hr th r) K := by
  have i1 : vp_in (nI q) 64 := vp_in_nI hq (by decide)
  have e1 : (nI q).toNatClampNeg = q := nI_clamp (by omega)
  refine mm_go (d := d + 3) 4 rfl trivial (mm_one (f_ref (d := d) hv hro ha h h1 h5 hh hj hq (fun c => absurd c hi0) (fun _ => ?_)))
  refine mm_go (d := d + 3) 9 rfl trivial (mm_one (h6_reference (d := d + 2) hw hu ?_))
  refine mm_go (d := d + 3) (w' := wC b ev un md tp ce pl wa sz fl pr rf (upd ro (nI q).toNatClampNeg (nI u)) hr th r) 1 rfl ⟨i1, trivial⟩ ?_
  rw [e1]
  exact mm_one hk
theorem f_holdR (h : x < 0 ∨ 64 ≤ x) (hk : K (.inr 2) (wC b ev un md tp ce pl wa sz fl pr rf ro hr th r)) : mm_cal (d + 2) al 46 [.ref 0, .int x, .int y] (wC b ev un md tp ce pl wa sz fl pr rf ro hr th r) K := by
  exact mm_go (d := d + 1) 1 rfl trivial (mm_one (f_rootN h hk))
theorem f_hold0 (hv : v < 64) (hk : K (.inl none) (wC b ev un md tp ce pl wa sz fl pr rf (upd ro v (nI 0)) hr th r)) : mm_cal (d + 2) al 46 [.ref 0, .int (nI v), .int (-1)] (wC b ev un md tp ce pl wa sz fl pr rf ro hr th r) K := by
  have i1 : vp_in (nI v) 64 := vp_in_nI hv (by decide)
  have e1 : (nI v).toNatClampNeg = v := nI_clamp (by omega)
  refine mm_go (d := d + 1) 1 rfl trivial (mm_one (f_rootY hv ?_))
  refine mm_go (d := d + 1) 2 rfl trivial (mm_one ⟨fun c => ?_, fun c => ?_⟩)
  · exact absurd rfl c
  · refine mm_go (d := d + 1) (w' := wC b ev un md tp ce pl wa sz fl pr rf (upd ro (nI v).toNatClampNeg (nI 0)) hr th r) 6 rfl ⟨i1, trivial⟩ ?_
    rw [e1]
    exact mm_one hk
theorem f_holdS (hv : v < 64) (hy : ¬ y = -1) (h : y < 0 ∨ 64 ≤ y) (hk : K (.inr 2) (wC b ev un md tp ce pl wa sz fl pr rf ro hr th r)) : mm_cal (d + 2) al 46 [.ref 0, .int (nI v), .int y] (wC b ev un md tp ce pl wa sz fl pr rf ro hr th r) K := by
  refine mm_go (d := d + 1) 1 rfl trivial (mm_one (f_rootY hv ?_))
  refine mm_go (d := d + 1) 2 rfl trivial (mm_one ⟨fun c => ?_, fun c => ?_⟩)
  · exact mm_go (d := d + 1) 1 rfl trivial (mm_one (f_rootN h hk))
  · exact absurd (Classical.not_not.mp c) hy
theorem f_hold (hv : v < 64) (hq : q < 64) (hk : K (.inl none) (wC b ev un md tp ce pl wa sz fl pr rf (upd ro v (ro q)) hr th r)) : mm_cal (d + 2) al 46 [.ref 0, .int (nI v), .int (nI q)] (wC b ev un md tp ce pl wa sz fl pr rf ro hr th r) K := by
  have i1 : vp_in (nI v) 64 := vp_in_nI hv (by decide)
  have e1 : (nI v).toNatClampNeg = v := nI_clamp (by omega)
  have i2 : vp_in (nI q) 64 := vp_in_nI hq (by decide)
  have e2 : (nI q).toNatClampNeg = q := nI_clamp (by omega)
  refine mm_go (d := d + 1) 1 rfl trivial (mm_one (f_rootY hv ?_))
  refine mm_go (d := d + 1) 2 rfl trivial (mm_one ⟨fun c => ?_, fun c => ?_⟩)
  · refine mm_go (d := d + 1) 1 rfl trivial (mm_one (f_rootY hq ?_))
    refine mm_go (d := d + 1) (w' := wC b ev un md tp ce pl wa sz fl pr rf (upd ro (nI v).toNatClampNeg (ro (nI q).toNatClampNeg)) hr th r) 10 rfl ⟨i2, i1, trivial⟩ ?_
    rw [e1, e2]
    exact mm_one hk
  · have c : nI q = -1 := Classical.not_not.mp c
    exact absurd (show nI q < 0 by rw [c]; decide) (nI_pos (by omega))
end
