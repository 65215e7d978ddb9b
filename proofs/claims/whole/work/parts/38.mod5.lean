theorem nI_m1 (m : Nat) : nI (m + 1) + -1 = nI m := by
  rw [← Int32.sub_eq_add_neg]
  exact nI_pred m
section
variable {d : Nat} {al : Bool} {K : mm_K} {w r : mm_W} {b : Bool} {ev un md tp ce pl wa sz : Int32} {fl pr ro : Nat → Int32} {rf hr th : Nat → Int64}
variable {cl tn ft bn fb us tk ma nt tr mk : Int32} {mf mp kd wh ca pa he fi mb td nx rt : Nat → Int32} {mr nu : Nat → Int64} {i j c v k n q u : Nat} {B : Nat → Nat}
theorem m_placeL (hu : u ≤ 100000) (hB : ∀ s, s ≤ u / 4 → B s < 190000) (hs : ∀ s, s < u / 4 → nx (B s) = nI (B (s + 1))) (hk : K (.inl (some (.int (nI (4 * B (u / 4) + u % 4))))) (wC b ev un md tp ce pl wa sz fl pr rf ro hr th (wM cl tn ft bn fb us tk ma nt tr mk mf mr mp kd wh ca pa he fi mb td nu nx rt r))) :
    ∀ (m s : Nat), u / 4 - s = m → s ≤ u / 4 → mm_wp (d + 1) none al 66 K 0 0 31 [(0, .ref 9), (1, .int (nI i)), (2, .int (nI j)), (3, .int (nI u)), (4, .int (nI (B s))), (5, .int (nI m))] [] (wC b ev un md tp ce pl wa sz fl pr rf ro hr th (wM cl tn ft bn fb us tk ma nt tr mk mf mr mp kd wh ca pa he fi mb td nu nx rt r)) := by
  intro m
  induction m with
  | zero =>
    intro s hm hsu
    have e : s = u / 4 := by omega
    subst e
    refine mm_go (d := d) 1 rfl trivial (mm_one ⟨fun c => ?_, fun c => absurd (show nI 0 ≤ 0 by decide) c⟩)
    refine mm_go (d := d) (st' := [.int (4 * nI (B (u / 4)) + (nI u - nI u / 4 * 4))]) 7 rfl trivial ?_
    rw [show (4 : Int32) = nI 4 from rfl, pk_rem (by omega) (by decide) (by decide), pk_mul, nI_add]
    exact mm_one hk
  | succ m ih =>
    intro s hm hsu
    have hb := hB s hsu
    have i1 : vp_in (nI (B s)) 190000 := vp_in_nI hb (by decide)
    have e1 : (nI (B s)).toNatClampNeg = B s := nI_clamp (by omega)
    refine mm_go (d := d) 1 rfl trivial (mm_one ⟨fun c => absurd c (nI_nle (by omega) (by omega)), fun c => ?_⟩)
    refine mm_go (d := d) (lv' := [(0, .ref 9), (1, .int (nI i)), (2, .int (nI j)), (3, .int (nI u)), (4, .int (nx (nI (B s)).toNatClampNeg)), (5, .int (nI (m + 1) + -1))]) 7 rfl ⟨i1, trivial⟩ ?_
    rw [e1, hs s (by omega), nI_m1]
    exact ih (s + 1) (by omega) (by omega)
theorem m_place18 (hi : i < 180100) (hu : u ≤ 100000) (hB : ∀ s, s ≤ u / 4 → B s < 190000) (h0 : fi i = nI (B 0)) (hs : ∀ s, s < u / 4 → nx (B s) = nI (B (s + 1))) (hk : K (.inl (some (.int (nI (4 * B (u / 4) + u % 4))))) (wC b ev un md tp ce pl wa sz fl pr rf ro hr th (wM cl tn ft bn fb us tk ma nt tr mk mf mr mp kd wh ca pa he fi mb td nu nx rt r))) :
    mm_wp (d + 1) none al 66 K 0 0 18 [(0, .ref 9), (1, .int (nI i)), (2, .int (nI j)), (3, .int (nI u))] [] (wC b ev un md tp ce pl wa sz fl pr rf ro hr th (wM cl tn ft bn fb us tk ma nt tr mk mf mr mp kd wh ca pa he fi mb td nu nx rt r)) := by
  have i1 : vp_in (nI i) 180100 := vp_in_nI hi (by decide)
  have e1 : (nI i).toNatClampNeg = i := nI_clamp (by omega)
  refine mm_go (d := d) (lv' := [(0, .ref 9), (1, .int (nI i)), (2, .int (nI j)), (3, .int (nI u)), (4, .int (fi (nI i).toNatClampNeg)), (5, .int (nI u / 4))]) 9 rfl ⟨i1, trivial⟩ ?_
  rw [e1, h0, show (4 : Int32) = nI 4 from rfl, pk_div (by omega) (by decide) (by decide)]
  exact m_placeL hu hB hs hk (u / 4) 0 rfl (Nat.zero_le _)
theorem m_placeT (hi : i < 180100) (h4 : kd i = 4) (hj : j ≤ 100000) (hB : ∀ s, s ≤ j / 4 / 4 → B s < 190000) (h0 : fi i = nI (B 0)) (hs : ∀ s, s < j / 4 / 4 → nx (B s) = nI (B (s + 1))) (hk : K (.inl (some (.int (nI (4 * B (j / 4 / 4) + j / 4 % 4))))) (wC b ev un md tp ce pl wa sz fl pr rf ro hr th (wM cl tn ft bn fb us tk ma nt tr mk mf mr mp kd wh ca pa he fi mb td nu nx rt r))) : mm_cal (d + 1) al 66 [.ref 9, .int (nI i), .int (nI j)] (wC b ev un md tp ce pl wa sz fl pr rf ro hr th (wM cl tn ft bn fb us tk ma nt tr mk mf mr mp kd wh ca pa he fi mb td nu nx rt r)) K := by
  have i1 : vp_in (nI i) 180100 := vp_in_nI hi (by decide)
  have e1 : (nI i).toNatClampNeg = i := nI_clamp (by omega)
  refine mm_go (d := d) (st' := [.int 4, .int (kd (nI i).toNatClampNeg)]) 5 rfl ⟨i1, trivial⟩ ?_
  rw [e1]
  refine mm_one ⟨fun c => absurd h4 c, fun c => ?_⟩
  refine mm_go (d := d) (lv' := [(0, .ref 9), (1, .int (nI i)), (2, .int (nI j)), (3, .int (nI j / 4))]) 5 rfl trivial ?_
  rw [show (4 : Int32) = nI 4 from rfl, pk_div (by omega) (by decide) (by decide)]
  exact m_place18 hi (by omega) hB h0 hs hk
theorem m_placeE (hi : i < 180100) (h4 : ¬ kd i = 4) (hj : j ≤ 100000) (hB : ∀ s, s ≤ j / 4 → B s < 190000) (h0 : fi i = nI (B 0)) (hs : ∀ s, s < j / 4 → nx (B s) = nI (B (s + 1))) (hk : K (.inl (some (.int (nI (4 * B (j / 4) + j % 4))))) (wC b ev un md tp ce pl wa sz fl pr rf ro hr th (wM cl tn ft bn fb us tk ma nt tr mk mf mr mp kd wh ca pa he fi mb td nu nx rt r))) : mm_cal (d + 1) al 66 [.ref 9, .int (nI i), .int (nI j)] (wC b ev un md tp ce pl wa sz fl pr rf ro hr th (wM cl tn ft bn fb us tk ma nt tr mk mf mr mp kd wh ca pa he fi mb td nu nx rt r)) K := by
  have i1 : vp_in (nI i) 180100 := vp_in_nI hi (by decide)
  have e1 : (nI i).toNatClampNeg = i := nI_clamp (by omega)
  refine mm_go (d := d) (st' := [.int 4, .int (kd (nI i).toNatClampNeg)]) 5 rfl ⟨i1, trivial⟩ ?_
  rw [e1]
  refine mm_one ⟨fun c => ?_, fun c => absurd (Classical.not_not.mp c) h4⟩
  exact mm_go (d := d) (lv' := [(0, .ref 9), (1, .int (nI i)), (2, .int (nI j)), (3, .int (nI j))]) 2 rfl trivial (m_place18 hi hj hB h0 hs hk)
end
