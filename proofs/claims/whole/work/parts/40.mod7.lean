section
variable {d : Nat} {al : Bool} {K : mm_K} {w r : mm_W} {b : Bool} {ev un md tp ce pl wa sz : Int32} {fl pr ro : Nat → Int32} {rf hr th : Nat → Int64}
variable {cl tn ft bn fb us tk ma nt tr mk : Int32} {mf mp kd wh ca pa he fi mb td nx rt : Nat → Int32} {mr nu : Nat → Int64} {x : Int32}
theorem m_everyN (h : x < 0) (hk : K (.inl (some (.int (nI 0)))) (wC b ev un md tp ce pl wa sz fl pr rf ro hr th (wM cl tn ft bn fb us tk ma nt 1 mk mf mr mp kd wh ca pa he fi mb td nu nx rt r))) : mm_cal (d + 2) al 85 [.ref 9, .int x] (wC b ev un md tp ce pl wa sz fl pr rf ro hr th (wM cl tn ft bn fb us tk ma nt tr mk mf mr mp kd wh ca pa he fi mb td nu nx rt r)) K := by
  refine mm_go (d := d + 1) 1 rfl trivial (mm_one ⟨fun u => absurd h (Int32.not_lt.mpr u), fun _ => ?_⟩)
  refine mm_go (d := d + 1) 2 rfl trivial (mm_one (m_fails (d := d) ?_))
  exact mm_one hk
theorem m_everyY (h : ¬ x < 0) (hk : K (.inl (some (.int nt))) (wC b ev un md tp ce pl wa sz fl pr rf ro hr th (wM cl tn ft bn fb us tk ma x 0 mk mf mr mp kd wh ca pa he fi mb td nu nx rt r))) : mm_cal (d + 2) al 85 [.ref 9, .int x] (wC b ev un md tp ce pl wa sz fl pr rf ro hr th (wM cl tn ft bn fb us tk ma nt tr mk mf mr mp kd wh ca pa he fi mb td nu nx rt r)) K := by
  refine mm_go (d := d + 1) 1 rfl trivial (mm_one ⟨fun _ => ?_, fun u => absurd (Int32.not_lt.mp h) u⟩)
  exact mm_go (d := d + 1) (w' := (wC b ev un md tp ce pl wa sz fl pr rf ro hr th (wM cl tn ft bn fb us tk ma x 0 mk mf mr mp kd wh ca pa he fi mb td nu nx rt r))) 10 rfl trivial (mm_one hk)
theorem m_made (hk : K (.inl (some (.int ma))) (wC b ev un md tp ce pl wa sz fl pr rf ro hr th (wM cl tn ft bn fb us tk ma nt 0 mk mf mr mp kd wh ca pa he fi mb td nu nx rt r))) : mm_cal (d + 1) al 86 [.ref 9] (wC b ev un md tp ce pl wa sz fl pr rf ro hr th (wM cl tn ft bn fb us tk ma nt tr mk mf mr mp kd wh ca pa he fi mb td nu nx rt r)) K := by
  exact mm_go (d := d) (w' := (wC b ev un md tp ce pl wa sz fl pr rf ro hr th (wM cl tn ft bn fb us tk ma nt 0 mk mf mr mp kd wh ca pa he fi mb td nu nx rt r))) 5 rfl trivial (mm_one hk)
theorem m_audit (hk : K (.inl (some (.int (nI 0)))) (wC b ev un md tp ce pl wa sz fl pr rf ro hr th (wM cl tn ft bn fb us tk ma nt 0 mk mf mr mp kd wh ca pa he fi mb td nu nx rt r))) : mm_cal (d + 1) al 87 [.ref 9] (wC b ev un md tp ce pl wa sz fl pr rf ro hr th (wM cl tn ft bn fb us tk ma nt tr mk mf mr mp kd wh ca pa he fi mb td nu nx rt r)) K := by
  exact mm_go (d := d) (w' := (wC b ev un md tp ce pl wa sz fl pr rf ro hr th (wM cl tn ft bn fb us tk ma nt 0 mk mf mr mp kd wh ca pa he fi mb td nu nx rt r))) 4 rfl trivial (mm_one hk)
end
