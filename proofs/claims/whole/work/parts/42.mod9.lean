section
variable {d : Nat} {al : Bool} {K : mm_K} {w r : mm_W} {b : Bool} {ev un md tp ce pl wa sz : Int32} {fl pr ro : Nat → Int32} {rf hr th : Nat → Int64}
variable {cl tn ft bn fb us tk ma nt tr mk : Int32} {mf mp kd wh ca pa he fi mb td nx rt : Nat → Int32} {mr nu : Nat → Int64} {v q : Nat} {x y : Int32}
theorem m_holdR (h : x < 0 ∨ 64 ≤ x) (hk : K (.inl none) (wC b ev un md tp ce pl wa sz fl pr rf ro hr th (wM cl tn ft bn fb us tk ma nt 1 mk mf mr mp kd wh ca pa he fi mb td nu nx rt r))) : mm_cal (d + 2) al 82 [.ref 9, .int x, .int y] (wC b ev un md tp ce pl wa sz fl pr rf ro hr th (wM cl tn ft bn fb us tk ma nt tr mk mf mr mp kd wh ca pa he fi mb td nu nx rt r)) K := by
  refine mm_go (d := d + 1) 2 rfl trivial (mm_one (m_isRootN (d := d) h ?_))
  refine mm_one ⟨fun _ => ?_, fun u => absurd rfl u⟩
  refine mm_go (d := d + 1) (w' := (wC b ev un md tp ce pl wa sz fl pr rf ro hr th (wM cl tn ft bn fb us tk ma nt 1 mk mf mr mp kd wh ca pa he fi mb td nu nx rt r))) 5 rfl trivial (mm_one ⟨fun _ => mm_one hk, fun u => absurd (Classical.not_not.mp u) (by decide)⟩)
theorem m_holdS (hv : v < 64) (hy : ¬ y = -1) (h : y < 0 ∨ 64 ≤ y) (hk : K (.inl none) (wC b ev un md tp ce pl wa sz fl pr rf ro hr th (wM cl tn ft bn fb us tk ma nt 1 mk mf mr mp kd wh ca pa he fi mb td nu nx rt r))) : mm_cal (d + 2) al 82 [.ref 9, .int (nI v), .int y] (wC b ev un md tp ce pl wa sz fl pr rf ro hr th (wM cl tn ft bn fb us tk ma nt tr mk mf mr mp kd wh ca pa he fi mb td nu nx rt r)) K := by
  refine mm_go (d := d + 1) 2 rfl trivial (mm_one (m_isRootY (d := d) hv ?_))
  refine mm_one ⟨fun u => absurd (show nI 1 = 0 from u) (by decide), fun _ => ?_⟩
  refine mm_go (d := d + 1) 2 rfl trivial (mm_one ⟨fun u => absurd u hy, fun _ => ?_⟩)
  refine mm_go (d := d + 1) 1 rfl trivial (mm_one (m_isRootN (d := d) h ?_))
  refine mm_one ⟨fun u => absurd rfl u, fun _ => ?_⟩
  refine mm_go (d := d + 1) (w' := (wC b ev un md tp ce pl wa sz fl pr rf ro hr th (wM cl tn ft bn fb us tk ma nt 1 mk mf mr mp kd wh ca pa he fi mb td nu nx rt r))) 5 rfl trivial (mm_one ⟨fun _ => mm_one hk, fun u => absurd (Classical.not_not.mp u) (by decide)⟩)
theorem m_hold0 (hv : v < 64) (hk : K (.inl none) (wC b ev un md tp ce pl wa sz fl pr rf ro hr th (wM cl tn ft bn fb us tk ma nt 0 mk mf mr mp kd wh ca pa he fi mb td nu nx (upd rt v (-1)) r))) : mm_cal (d + 2) al 82 [.ref 9, .int (nI v), .int (-1)] (wC b ev un md tp ce pl wa sz fl pr rf ro hr th (wM cl tn ft bn fb us tk ma nt tr mk mf mr mp kd wh ca pa he fi mb td nu nx rt r)) K := by
  have i1 : vp_in (nI v) 64 := vp_in_nI hv (by decide)
  have e1 : (nI v).toNatClampNeg = v := nI_clamp (by omega)
  refine mm_go (d := d + 1) 2 rfl trivial (mm_one (m_isRootY (d := d) hv ?_))
  refine mm_one ⟨fun u => absurd (show nI 1 = 0 from u) (by decide), fun _ => ?_⟩
  refine mm_go (d := d + 1) 2 rfl trivial (mm_one ⟨fun _ => ?_, fun u => absurd rfl u⟩)
  refine mm_go (d := d + 1) (w' := (wC b ev un md tp ce pl wa sz fl pr rf ro hr th (wM cl tn ft bn fb us tk ma nt 0 mk mf mr mp kd wh ca pa he fi mb td nu nx rt r))) 4 rfl trivial (mm_one ⟨fun u => absurd rfl u, fun _ => ?_⟩)
  refine mm_go (d := d + 1) 5 rfl trivial (mm_one ⟨fun u => absurd rfl u, fun _ => ?_⟩)
  refine mm_go (d := d + 1) (w' := (wC b ev un md tp ce pl wa sz fl pr rf ro hr th (wM cl tn ft bn fb us tk ma nt 0 mk mf mr mp kd wh ca pa he fi mb td nu nx (upd rt (nI v).toNatClampNeg (-1)) r))) 3 rfl ⟨i1, trivial⟩ ?_
  rw [e1]
  exact mm_one hk
theorem m_hold (hv : v < 64) (hq : q < 64) (hk : K (.inl none) (wC b ev un md tp ce pl wa sz fl pr rf ro hr th (wM cl tn ft bn fb us tk ma nt 0 mk mf mr mp kd wh ca pa he fi mb td nu nx (upd rt v (rt q)) r))) : mm_cal (d + 2) al 82 [.ref 9, .int (nI v), .int (nI q)] (wC b ev un md tp ce pl wa sz fl pr rf ro hr th (wM cl tn ft bn fb us tk ma nt tr mk mf mr mp kd wh ca pa he fi mb td nu nx rt r)) K := by
  have i1 : vp_in (nI v) 64 := vp_in_nI hv (by decide)
  have e1 : (nI v).toNatClampNeg = v := nI_clamp (by omega)
  have i2 : vp_in (nI q) 64 := vp_in_nI hq (by decide)
  have e2 : (nI q).toNatClampNeg = q := nI_clamp (by omega)
  have hy : ¬ nI q = -1 := fun e => absurd (show nI q < 0 by rw [e]; decide) (nI_pos (by omega))
  refine mm_go (d := d + 1) 2 rfl trivial (mm_one (m_isRootY (d := d) hv ?_))
  refine mm_one ⟨fun u => absurd (show nI 1 = 0 from u) (by decide), fun _ => ?_⟩
  refine mm_go (d := d + 1) 2 rfl trivial (mm_one ⟨fun u => absurd u hy, fun _ => ?_⟩)
  refine mm_go (d := d + 1) 1 rfl trivial (mm_one (m_isRootY (d := d) hq ?_))
  refine mm_one ⟨fun _ => ?_, fun u => absurd (Classical.not_not.mp u) (by decide)⟩
  refine mm_go (d := d + 1) (w' := (wC b ev un md tp ce pl wa sz fl pr rf ro hr th (wM cl tn ft bn fb us tk ma nt 0 mk mf mr mp kd wh ca pa he fi mb td nu nx rt r))) 4 rfl trivial (mm_one ⟨fun u => absurd rfl u, fun _ => ?_⟩)
  refine mm_go (d := d + 1) 5 rfl trivial (mm_one ⟨fun _ => ?_, fun u => absurd (Classical.not_not.mp u) hy⟩)
  refine mm_go (d := d + 1) (w' := (wC b ev un md tp ce pl wa sz fl pr rf ro hr th (wM cl tn ft bn fb us tk ma nt 0 mk mf mr mp kd wh ca pa he fi mb td nu nx (upd rt (nI v).toNatClampNeg (rt (nI q).toNatClampNeg)) r))) 5 rfl ⟨i2, i1, trivial⟩ ?_
  rw [e1, e2]
  exact mm_one hk
end
