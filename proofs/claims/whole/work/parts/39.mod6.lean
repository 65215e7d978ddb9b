section
variable {d : Nat} {al : Bool} {K : mm_K} {w r : mm_W} {b : Bool} {ev un md tp ce pl wa sz : Int32} {fl pr ro : Nat → Int32} {rf hr th : Nat → Int64}
variable {cl tn ft bn fb us tk ma nt tr mk : Int32} {mf mp kd wh ca pa he fi mb td nx rt : Nat → Int32} {mr nu : Nat → Int64} {i l : Nat} {Inv : Nat → Int32 → (Nat → Int32) → Int32 → Prop}
theorem m_freeL (hi : i < 180100) (hs : ∀ m x nx fb, Inv (m + 1) x nx fb → ∃ q, x = nI q ∧ q < 190000 ∧ Inv m (nx q) (upd nx q fb) (nI q))
    (hk : ∀ x nx fb, Inv 0 x nx fb → K (.inl none) (wC b ev un md tp ce pl wa sz fl pr rf ro hr th (wM cl tn (nI i) bn fb us tk ma nt tr mk mf mr mp (upd kd i 0) wh ca pa he (upd fi i ft) mb td nu nx rt r))) :
    ∀ (m : Nat) (x : Int32) (nx : Nat → Int32) (fb : Int32), m < 2 ^ 31 → Inv m x nx fb → mm_wp (d + 3) none al 69 K 0 0 13 [(0, .ref 9), (1, .int (nI i)), (2, .int x), (3, .int (nI m))] [] (wC b ev un md tp ce pl wa sz fl pr rf ro hr th (wM cl tn ft bn fb us tk ma nt tr mk mf mr mp kd wh ca pa he fi mb td nu nx rt r)) := by
  have i1 : vp_in (nI i) 180100 := vp_in_nI hi (by decide)
  have e1 : (nI i).toNatClampNeg = i := nI_clamp (by omega)
  intro m
  induction m with
  | zero =>
    intro x nx fb hm hI
    refine mm_go (d := d + 2) 1 rfl trivial (mm_one ⟨fun c => ?_, fun c => absurd (show nI 0 ≤ 0 by decide) c⟩)
    refine mm_go (d := d + 2) (w' := (wC b ev un md tp ce pl wa sz fl pr rf ro hr th (wM cl tn (nI i) bn fb us tk ma nt tr mk mf mr mp (upd kd (nI i).toNatClampNeg 0) wh ca pa he (upd fi (nI i).toNatClampNeg ft) mb td nu nx rt r))) 14 rfl ⟨i1, i1, trivial⟩ ?_
    rw [e1]
    exact mm_one (hk x nx fb hI)
  | succ m ih =>
    intro x nx fb hm hI
    obtain ⟨q, rfl, hq, hI'⟩ := hs m x nx fb hI
    have i2 : vp_in (nI q) 190000 := vp_in_nI hq (by decide)
    have e2 : (nI q).toNatClampNeg = q := nI_clamp (by omega)
    refine mm_go (d := d + 2) 1 rfl trivial (mm_one ⟨fun c => absurd c (nI_nle (by omega) (by omega)), fun c => ?_⟩)
    refine mm_go (d := d + 2) (lv' := [(0, .ref 9), (1, .int (nI i)), (2, .int (nx (nI q).toNatClampNeg)), (3, .int (nI (m + 1) + -1)), (4, .int (nx (nI q).toNatClampNeg))]) (w' := (wC b ev un md tp ce pl wa sz fl pr rf ro hr th (wM cl tn ft bn (nI q) us tk ma nt tr mk mf mr mp kd wh ca pa he fi mb td nu (upd nx (nI q).toNatClampNeg fb) rt r))) 18 rfl ⟨i2, i2, trivial⟩ (mm_few [0, 1, 2, 3] rfl ?_)
    show mm_wp (d + 3) none al 69 K 0 0 13 [(0, .ref 9), (1, .int (nI i)), (2, .int (nx (nI q).toNatClampNeg)), (3, .int (nI (m + 1) + -1))] [] (wC b ev un md tp ce pl wa sz fl pr rf ro hr th (wM cl tn ft bn (nI q) us tk ma nt tr mk mf mr mp kd wh ca pa he fi mb td nu (upd nx (nI q).toNatClampNeg fb) rt r))
    rw [e2, nI_m1]
    exact ih _ _ _ (by omega) hI'
theorem m_free (hi : i < 180100) (hl : l < 2 ^ 31) (hbl : ∀ K' : mm_K, K' (.inl (some (.int (nI l)))) (wC b ev un md tp ce pl wa sz fl pr rf ro hr th (wM cl tn ft bn fb us tk ma nt tr mk mf mr mp kd wh ca pa he fi mb td nu nx rt r)) → mm_cal (d + 2) false 65 [.ref 9, .int (nI i)] (wC b ev un md tp ce pl wa sz fl pr rf ro hr th (wM cl tn ft bn fb us tk ma nt tr mk mf mr mp kd wh ca pa he fi mb td nu nx rt r)) K')
    (h0 : Inv l (fi i) nx fb) (hs : ∀ m x nx fb, Inv (m + 1) x nx fb → ∃ q, x = nI q ∧ q < 190000 ∧ Inv m (nx q) (upd nx q fb) (nI q))
    (hk : ∀ x nx fb, Inv 0 x nx fb → K (.inl none) (wC b ev un md tp ce pl wa sz fl pr rf ro hr th (wM cl tn (nI i) bn fb us tk ma nt tr mk mf mr mp (upd kd i 0) wh ca pa he (upd fi i ft) mb td nu nx rt r))) : mm_cal (d + 3) al 69 [.ref 9, .int (nI i)] (wC b ev un md tp ce pl wa sz fl pr rf ro hr th (wM cl tn ft bn fb us tk ma nt tr mk mf mr mp kd wh ca pa he fi mb td nu nx rt r)) K := by
  have i1 : vp_in (nI i) 180100 := vp_in_nI hi (by decide)
  have e1 : (nI i).toNatClampNeg = i := nI_clamp (by omega)
  refine mm_go (d := d + 2) (st' := [.int (nI i), .ref 9]) (lv' := [(0, .ref 9), (1, .int (nI i)), (2, .int (fi (nI i).toNatClampNeg))]) 7 rfl ⟨i1, trivial⟩ ?_
  rw [e1]
  refine mm_one (hbl _ ?_)
  exact mm_go (d := d + 2) (lv' := [(0, .ref 9), (1, .int (nI i)), (2, .int (fi i)), (3, .int (nI l))]) 1 rfl trivial (m_freeL hi hs hk l (fi i) nx fb hl h0)
end
