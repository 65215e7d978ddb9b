section
variable {d : Nat} {al : Bool} {K : mm_K} {w r : mm_W} {b : Bool} {ev un md tp ce pl wa sz : Int32} {fl pr ro : Nat → Int32} {rf hr th : Nat → Int64}
variable {cl tn ft bn fb us tk ma nt tr mk : Int32} {mf mp kd wh ca pa he fi mb td nx rt : Nat → Int32} {mr nu : Nat → Int64} {v : Nat} {x y z o : Int32}
theorem m_objR (h : x < 0 ∨ 64 ≤ x) (hk : K (.inl (some (.int (nI 0)))) (wC b ev un md tp ce pl wa sz fl pr rf ro hr th (wM cl tn ft bn fb us tk ma nt 1 mk mf mr mp kd wh ca pa he fi mb td nu nx rt r))) : mm_cal (d + 2) al 72 [.ref 9, .int x, .int y, .int z] (wC b ev un md tp ce pl wa sz fl pr rf ro hr th (wM cl tn ft bn fb us tk ma nt tr mk mf mr mp kd wh ca pa he fi mb td nu nx rt r)) K := by
  refine mm_go (d := d + 1) 1 rfl trivial (mm_one (m_isRootN (d := d) h ?_))
  refine mm_one ⟨fun u => absurd rfl u, fun _ => ?_⟩
  refine mm_go (d := d + 1) 2 rfl trivial (mm_one (m_fails (d := d) ?_))
  exact mm_one hk
theorem m_objN (hv : v < 64) (h : y < 0 ∨ cl ≤ y) (hk : K (.inl (some (.int (nI 0)))) (wC b ev un md tp ce pl wa sz fl pr rf ro hr th (wM cl tn ft bn fb us tk ma nt 2 mk mf mr mp kd wh ca pa he fi mb td nu nx rt r))) : mm_cal (d + 2) al 72 [.ref 9, .int (nI v), .int y, .int z] (wC b ev un md tp ce pl wa sz fl pr rf ro hr th (wM cl tn ft bn fb us tk ma nt tr mk mf mr mp kd wh ca pa he fi mb td nu nx rt r)) K := by
  refine mm_go (d := d + 1) 1 rfl trivial (mm_one (m_isRootY (d := d) hv ?_))
  refine mm_one ⟨fun _ => ?_, fun u => absurd (Classical.not_not.mp u) (by decide)⟩
  refine mm_go (d := d + 1) 1 rfl trivial (mm_one ⟨fun u => ?_, fun u => ?_⟩)
  · refine mm_go (d := d + 1) 2 rfl trivial (mm_one (m_fails (d := d) ?_))
    exact mm_one hk
  · refine mm_go (d := d + 1) 3 rfl trivial (mm_one ⟨fun u2 => h.elim (fun g => absurd g u) (fun g => absurd g (Int32.not_le.mpr u2)), fun u2 => ?_⟩)
    refine mm_go (d := d + 1) 2 rfl trivial (mm_one (m_fails (d := d) ?_))
    exact mm_one hk
theorem m_arrR (h : x < 0 ∨ 64 ≤ x) (hk : K (.inl (some (.int (nI 0)))) (wC b ev un md tp ce pl wa sz fl pr rf ro hr th (wM cl tn ft bn fb us tk ma nt 1 mk mf mr mp kd wh ca pa he fi mb td nu nx rt r))) : mm_cal (d + 2) al 73 [.ref 9, .int x, .int y, .int z] (wC b ev un md tp ce pl wa sz fl pr rf ro hr th (wM cl tn ft bn fb us tk ma nt tr mk mf mr mp kd wh ca pa he fi mb td nu nx rt r)) K := by
  refine mm_go (d := d + 1) 1 rfl trivial (mm_one (m_isRootN (d := d) h ?_))
  refine mm_one ⟨fun u => absurd rfl u, fun _ => ?_⟩
  refine mm_go (d := d + 1) 2 rfl trivial (mm_one (m_fails (d := d) ?_))
  exact mm_one hk
theorem m_arrN (hv : v < 64) (h : y < 0 ∨ 100000 < y) (hk : K (.inl (some (.int (nI 0)))) (wC b ev un md tp ce pl wa sz fl pr rf ro hr th (wM cl tn ft bn fb us tk ma nt 2 mk mf mr mp kd wh ca pa he fi mb td nu nx rt r))) : mm_cal (d + 2) al 73 [.ref 9, .int (nI v), .int y, .int z] (wC b ev un md tp ce pl wa sz fl pr rf ro hr th (wM cl tn ft bn fb us tk ma nt tr mk mf mr mp kd wh ca pa he fi mb td nu nx rt r)) K := by
  refine mm_go (d := d + 1) 1 rfl trivial (mm_one (m_isRootY (d := d) hv ?_))
  refine mm_one ⟨fun _ => ?_, fun u => absurd (Classical.not_not.mp u) (by decide)⟩
  refine mm_go (d := d + 1) 1 rfl trivial (mm_one ⟨fun u => ?_, fun u => ?_⟩)
  · refine mm_go (d := d + 1) 2 rfl trivial (mm_one (m_fails (d := d) ?_))
    exact mm_one hk
  · refine mm_go (d := d + 1) 2 rfl trivial (mm_one ⟨fun u2 => h.elim (fun g => absurd g u) (fun g => absurd g (Int32.not_lt.mpr u2)), fun u2 => ?_⟩)
    refine mm_go (d := d + 1) 2 rfl trivial (mm_one (m_fails (d := d) ?_))
    exact mm_one hk
theorem m_txtR (h : x < 0 ∨ 64 ≤ x) (hk : K (.inl (some (.int (nI 0)))) (wC b ev un md tp ce pl wa sz fl pr rf ro hr th (wM cl tn ft bn fb us tk ma nt 1 mk mf mr mp kd wh ca pa he fi mb td nu nx rt r))) : mm_cal (d + 2) al 74 [.ref 9, .int x, .int y, .int z] (wC b ev un md tp ce pl wa sz fl pr rf ro hr th (wM cl tn ft bn fb us tk ma nt tr mk mf mr mp kd wh ca pa he fi mb td nu nx rt r)) K := by
  refine mm_go (d := d + 1) 1 rfl trivial (mm_one (m_isRootN (d := d) h ?_))
  refine mm_one ⟨fun u => absurd rfl u, fun _ => ?_⟩
  refine mm_go (d := d + 1) 2 rfl trivial (mm_one (m_fails (d := d) ?_))
  exact mm_one hk
theorem m_txtN (hv : v < 64) (h : y < 0 ∨ 100000 < y) (hk : K (.inl (some (.int (nI 0)))) (wC b ev un md tp ce pl wa sz fl pr rf ro hr th (wM cl tn ft bn fb us tk ma nt 2 mk mf mr mp kd wh ca pa he fi mb td nu nx rt r))) : mm_cal (d + 2) al 74 [.ref 9, .int (nI v), .int y, .int z] (wC b ev un md tp ce pl wa sz fl pr rf ro hr th (wM cl tn ft bn fb us tk ma nt tr mk mf mr mp kd wh ca pa he fi mb td nu nx rt r)) K := by
  refine mm_go (d := d + 1) 1 rfl trivial (mm_one (m_isRootY (d := d) hv ?_))
  refine mm_one ⟨fun _ => ?_, fun u => absurd (Classical.not_not.mp u) (by decide)⟩
  refine mm_go (d := d + 1) 1 rfl trivial (mm_one ⟨fun u => ?_, fun u => ?_⟩)
  · refine mm_go (d := d + 1) 2 rfl trivial (mm_one (m_fails (d := d) ?_))
    exact mm_one hk
  · refine mm_go (d := d + 1) 2 rfl trivial (mm_one ⟨fun u2 => h.elim (fun g => absurd g u) (fun g => absurd g (Int32.not_lt.mpr u2)), fun u2 => ?_⟩)
    refine mm_go (d := d + 1) 2 rfl trivial (mm_one (m_fails (d := d) ?_))
    exact mm_one hk
theorem m_cloR (h : x < 0 ∨ 64 ≤ x) (hk : K (.inl (some (.int (nI 0)))) (wC b ev un md tp ce pl wa sz fl pr rf ro hr th (wM cl tn ft bn fb us tk ma nt 1 mk mf mr mp kd wh ca pa he fi mb td nu nx rt r))) : mm_cal (d + 2) al 75 [.ref 9, .int x, .int y, .int z, .int o] (wC b ev un md tp ce pl wa sz fl pr rf ro hr th (wM cl tn ft bn fb us tk ma nt tr mk mf mr mp kd wh ca pa he fi mb td nu nx rt r)) K := by
  refine mm_go (d := d + 1) 1 rfl trivial (mm_one (m_isRootN (d := d) h ?_))
  refine mm_one ⟨fun u => absurd rfl u, fun _ => ?_⟩
  refine mm_go (d := d + 1) 2 rfl trivial (mm_one (m_fails (d := d) ?_))
  exact mm_one hk
theorem m_cloN (hv : v < 64) (h : y < 0 ∨ 8 < y) (hk : K (.inl (some (.int (nI 0)))) (wC b ev un md tp ce pl wa sz fl pr rf ro hr th (wM cl tn ft bn fb us tk ma nt 2 mk mf mr mp kd wh ca pa he fi mb td nu nx rt r))) : mm_cal (d + 2) al 75 [.ref 9, .int (nI v), .int y, .int z, .int o] (wC b ev un md tp ce pl wa sz fl pr rf ro hr th (wM cl tn ft bn fb us tk ma nt tr mk mf mr mp kd wh ca pa he fi mb td nu nx rt r)) K := by
  refine mm_go (d := d + 1) 1 rfl trivial (mm_one (m_isRootY (d := d) hv ?_))
  refine mm_one ⟨fun _ => ?_, fun u => absurd (Classical.not_not.mp u) (by decide)⟩
  refine mm_go (d := d + 1) 1 rfl trivial (mm_one ⟨fun u => ?_, fun u => ?_⟩)
  · refine mm_go (d := d + 1) 2 rfl trivial (mm_one (m_fails (d := d) ?_))
    exact mm_one hk
  · refine mm_go (d := d + 1) 2 rfl trivial (mm_one ⟨fun u2 => h.elim (fun g => absurd g u) (fun g => absurd g (Int32.not_lt.mpr u2)), fun u2 => ?_⟩)
    refine mm_go (d := d + 1) 2 rfl trivial (mm_one (m_fails (d := d) ?_))
    exact mm_one hk
end
