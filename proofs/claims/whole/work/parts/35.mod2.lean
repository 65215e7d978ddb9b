section
variable {d : Nat} {al : Bool} {K : mm_K} {w r : mm_W} {b : Bool} {ev un md tp ce pl wa sz : Int32} {fl pr ro : Nat → Int32} {rf hr th : Nat → Int64}
variable {cl tn ft bn fb us tk ma nt tr mk : Int32} {mf mp kd wh ca pa he fi mb td nx rt : Nat → Int32} {mr nu : Nat → Int64} {i c v k : Nat} {x : Int32}
theorem m_thrown (hk : K (.inl (some (.int tr))) (wC b ev un md tp ce pl wa sz fl pr rf ro hr th (wM cl tn ft bn fb us tk ma nt tr mk mf mr mp kd wh ca pa he fi mb td nu nx rt r))) : mm_cal (d + 1) al 59 [.ref 9] (wC b ev un md tp ce pl wa sz fl pr rf ro hr th (wM cl tn ft bn fb us tk ma nt tr mk mf mr mp kd wh ca pa he fi mb td nu nx rt r)) K := by
  exact mm_go (d := d) 2 rfl trivial (mm_one hk)
theorem m_fails (hk : K (.inl (some (.int (nI 0)))) (wC b ev un md tp ce pl wa sz fl pr rf ro hr th (wM cl tn ft bn fb us tk ma nt x mk mf mr mp kd wh ca pa he fi mb td nu nx rt r))) : mm_cal (d + 1) al 60 [.ref 9, .int x] (wC b ev un md tp ce pl wa sz fl pr rf ro hr th (wM cl tn ft bn fb us tk ma nt tr mk mf mr mp kd wh ca pa he fi mb td nu nx rt r)) K := by
  exact mm_go (d := d) (w' := (wC b ev un md tp ce pl wa sz fl pr rf ro hr th (wM cl tn ft bn fb us tk ma nt x mk mf mr mp kd wh ca pa he fi mb td nu nx rt r))) 4 rfl trivial (mm_one hk)
theorem m_isRootY (h : v < 64) (hk : K (.inl (some (.int (nI 1)))) w) : mm_cal (d + 1) al 61 [.int (nI v)] w K := by
  refine mm_go (d := d) 1 rfl trivial (mm_one ⟨fun c => ?_, fun c => ?_⟩)
  · exact absurd c (nI_pos (by omega))
  · refine mm_go (d := d) 2 rfl trivial (mm_one ⟨fun c => ?_, fun c => ?_⟩)
    · exact absurd (show nI 64 ≤ nI v from c) (nI_ge h (by decide))
    · exact mm_go (d := d) 2 rfl trivial (mm_one ⟨rfl, hk⟩)
theorem m_isRootN (h : x < 0 ∨ 64 ≤ x) (hk : K (.inl (some (.int (nI 0)))) w) : mm_cal (d + 1) al 61 [.int x] w K := by
  refine mm_go (d := d) 1 rfl trivial (mm_one ⟨fun c => ?_, fun c => ?_⟩)
  · exact mm_go (d := d) 1 rfl trivial (mm_one ⟨rfl, hk⟩)
  · refine mm_go (d := d) 2 rfl trivial (mm_one ⟨fun c2 => ?_, fun c2 => ?_⟩)
    · exact mm_go (d := d) 1 rfl trivial (mm_one ⟨rfl, hk⟩)
    · exact h.elim (fun g => absurd g c) (fun g => absurd g c2)
theorem m_sizeO (hi : i < 180100) (h1 : kd i = 1) (hc : c < 100) (hw : wh i = nI c) (hk : K (.inl (some (.int (mf c)))) (wC b ev un md tp ce pl wa sz fl pr rf ro hr th (wM cl tn ft bn fb us tk ma nt tr mk mf mr mp kd wh ca pa he fi mb td nu nx rt r))) : mm_cal (d + 1) al 63 [.ref 9, .int (nI i)] (wC b ev un md tp ce pl wa sz fl pr rf ro hr th (wM cl tn ft bn fb us tk ma nt tr mk mf mr mp kd wh ca pa he fi mb td nu nx rt r)) K := by
  have i1 : vp_in (nI i) 180100 := vp_in_nI hi (by decide)
  have e1 : (nI i).toNatClampNeg = i := nI_clamp (by omega)
  have e2 : wh (nI i).toNatClampNeg = nI c := by rw [e1]; exact hw
  have e3 : (nI c).toNatClampNeg = c := nI_clamp (by omega)
  refine mm_go (d := d) (st' := [.int 1, .int (kd (nI i).toNatClampNeg)]) 5 rfl ⟨i1, trivial⟩ ?_
  rw [e1]
  refine mm_one ⟨fun u => absurd h1 u, fun u => ?_⟩
  refine mm_go (d := d) (st' := [.int (mf (wh (nI i).toNatClampNeg).toNatClampNeg)]) 8 rfl ⟨i1, (by rw [e2]; exact vp_in_nI hc (by decide) : vp_in (wh (nI i).toNatClampNeg) 100), trivial⟩ ?_
  rw [e2, e3]
  exact mm_one hk
theorem m_sizeE (hi : i < 180100) (h1 : ¬ kd i = 1) (hk : K (.inl (some (.int (wh i)))) (wC b ev un md tp ce pl wa sz fl pr rf ro hr th (wM cl tn ft bn fb us tk ma nt tr mk mf mr mp kd wh ca pa he fi mb td nu nx rt r))) : mm_cal (d + 1) al 63 [.ref 9, .int (nI i)] (wC b ev un md tp ce pl wa sz fl pr rf ro hr th (wM cl tn ft bn fb us tk ma nt tr mk mf mr mp kd wh ca pa he fi mb td nu nx rt r)) K := by
  have i1 : vp_in (nI i) 180100 := vp_in_nI hi (by decide)
  have e1 : (nI i).toNatClampNeg = i := nI_clamp (by omega)
  refine mm_go (d := d) (st' := [.int 1, .int (kd (nI i).toNatClampNeg)]) 5 rfl ⟨i1, trivial⟩ ?_
  rw [e1]
  refine mm_one ⟨fun u => ?_, fun u => absurd (Classical.not_not.mp u) h1⟩
  refine mm_go (d := d) (st' := [.int (wh (nI i).toNatClampNeg)]) 4 rfl ⟨i1, trivial⟩ ?_
  rw [e1]
  exact mm_one hk
end
