section
variable {d : Nat} {al : Bool} {K : mm_K} {w r : mm_W} {b : Bool} {ev un md tp ce pl wa sz : Int32} {fl pr ro : Nat → Int32} {rf hr th : Nat → Int64}
variable {cl tn ft bn fb us tk ma nt tr mk : Int32} {mf mp kd wh ca pa he fi mb td nx rt : Nat → Int32} {mr nu : Nat → Int64} {i j c v k n q : Nat} {x y z : Int32}
theorem m_isRefO (hi : i < 180100) (h1 : kd i = 1) (hc : c < 100) (hw : wh i = nI c)
    (hy : mr c >>> ((nI j).toInt64 &&& 63) &&& 1 = 1 → K (.inl (some (.int (nI 1)))) (wC b ev un md tp ce pl wa sz fl pr rf ro hr th (wM cl tn ft bn fb us tk ma nt tr mk mf mr mp kd wh ca pa he fi mb td nu nx rt r))) (hn : ¬ mr c >>> ((nI j).toInt64 &&& 63) &&& 1 = 1 → K (.inl (some (.int (nI 0)))) (wC b ev un md tp ce pl wa sz fl pr rf ro hr th (wM cl tn ft bn fb us tk ma nt tr mk mf mr mp kd wh ca pa he fi mb td nu nx rt r))) : mm_cal (d + 1) al 64 [.ref 9, .int (nI i), .int (nI j)] (wC b ev un md tp ce pl wa sz fl pr rf ro hr th (wM cl tn ft bn fb us tk ma nt tr mk mf mr mp kd wh ca pa he fi mb td nu nx rt r)) K := by
  have i1 : vp_in (nI i) 180100 := vp_in_nI hi (by decide)
  have e1 : (nI i).toNatClampNeg = i := nI_clamp (by omega)
  have e2 : wh (nI i).toNatClampNeg = nI c := by rw [e1]; exact hw
  have e3 : (nI c).toNatClampNeg = c := nI_clamp (by omega)
  refine mm_go (d := d) (st' := [.int 1, .int (kd (nI i).toNatClampNeg)]) 5 rfl ⟨i1, trivial⟩ ?_
  rw [e1]
  refine mm_one ⟨fun u => absurd h1 u, fun u => ?_⟩
  refine mm_go (d := d) (st' := [.int (lg_cmp (mr (wh (nI i).toNatClampNeg).toNatClampNeg >>> ((nI j).toInt64 &&& 63) &&& 1) 1)]) 13 rfl ⟨i1, (by rw [e2]; exact vp_in_nI hc (by decide) : vp_in (wh (nI i).toNatClampNeg) 100), trivial⟩ ?_
  rw [e2, e3]
  refine mm_one ⟨fun u => ?_, fun u => ?_⟩
  · exact mm_go (d := d) 1 rfl trivial (mm_one ⟨rfl, hn (fun e => u ((lg_cmp_eq _ _).mpr e))⟩)
  · exact mm_go (d := d) 2 rfl trivial (mm_one ⟨rfl, hy ((lg_cmp_eq _ _).mp (Classical.not_not.mp u))⟩)
theorem m_isRefE (hi : i < 180100) (h1 : ¬ kd i = 1) (k3 : kd i = 3 → K (.inl (some (.int (nI 1)))) (wC b ev un md tp ce pl wa sz fl pr rf ro hr th (wM cl tn ft bn fb us tk ma nt tr mk mf mr mp kd wh ca pa he fi mb td nu nx rt r)))
    (k5 : kd i = 5 → he i >>> (nI j &&& 31) &&& 1 = 1 → K (.inl (some (.int (nI 1)))) (wC b ev un md tp ce pl wa sz fl pr rf ro hr th (wM cl tn ft bn fb us tk ma nt tr mk mf mr mp kd wh ca pa he fi mb td nu nx rt r))) (n5 : kd i = 5 → ¬ he i >>> (nI j &&& 31) &&& 1 = 1 → K (.inl (some (.int (nI 0)))) (wC b ev un md tp ce pl wa sz fl pr rf ro hr th (wM cl tn ft bn fb us tk ma nt tr mk mf mr mp kd wh ca pa he fi mb td nu nx rt r)))
    (kn : ¬ kd i = 3 → ¬ kd i = 5 → K (.inl (some (.int (nI 0)))) (wC b ev un md tp ce pl wa sz fl pr rf ro hr th (wM cl tn ft bn fb us tk ma nt tr mk mf mr mp kd wh ca pa he fi mb td nu nx rt r))) : mm_cal (d + 1) al 64 [.ref 9, .int (nI i), .int (nI j)] (wC b ev un md tp ce pl wa sz fl pr rf ro hr th (wM cl tn ft bn fb us tk ma nt tr mk mf mr mp kd wh ca pa he fi mb td nu nx rt r)) K := by
  have i1 : vp_in (nI i) 180100 := vp_in_nI hi (by decide)
  have e1 : (nI i).toNatClampNeg = i := nI_clamp (by omega)
  refine mm_go (d := d) (st' := [.int 1, .int (kd (nI i).toNatClampNeg)]) 5 rfl ⟨i1, trivial⟩ ?_
  rw [e1]
  refine mm_one ⟨fun _ => ?_, fun u => absurd (Classical.not_not.mp u) h1⟩
  refine mm_go (d := d) (st' := [.int 3, .int (kd (nI i).toNatClampNeg)]) 5 rfl ⟨i1, trivial⟩ ?_
  rw [e1]
  refine mm_one ⟨fun u3 => ?_, fun u3 => ?_⟩
  · exact mm_go (d := d) 2 rfl trivial (mm_one ⟨rfl, k3 u3⟩)
  · refine mm_go (d := d) (st' := [.int 5, .int (kd (nI i).toNatClampNeg)]) 5 rfl ⟨i1, trivial⟩ ?_
    rw [e1]
    refine mm_one ⟨fun u5 => ?_, fun u5 => ?_⟩
    · exact mm_go (d := d) 1 rfl trivial (mm_one ⟨rfl, kn u3 u5⟩)
    · have u5 : kd i = 5 := Classical.not_not.mp u5
      refine mm_go (d := d) (st' := [.int 1, .int (he (nI i).toNatClampNeg >>> (nI j &&& 31) &&& 1)]) 9 rfl ⟨i1, trivial⟩ ?_
      rw [e1]
      refine mm_one ⟨fun u => ?_, fun u => ?_⟩
      · exact mm_go (d := d) 1 rfl trivial (mm_one ⟨rfl, n5 u5 u⟩)
      · exact mm_go (d := d) 2 rfl trivial (mm_one ⟨rfl, k5 u5 (Classical.not_not.mp u)⟩)
theorem m_comeN (hk : K (.inl (some (.int (nI 0)))) (wC b ev un md tp ce pl wa sz fl pr rf ro hr th (wM cl tn ft bn fb us tk ma nt 3 mk mf mr mp kd wh ca pa he fi mb td nu nx rt r))) : mm_cal (d + 2) al 71 [.ref 9, .int x, .int (-1), .int z] (wC b ev un md tp ce pl wa sz fl pr rf ro hr th (wM cl tn ft bn fb us tk ma nt tr mk mf mr mp kd wh ca pa he fi mb td nu nx rt r)) K := by
  refine mm_go (d := d + 1) 2 rfl trivial (mm_one ⟨fun u => absurd rfl u, fun _ => ?_⟩)
  refine mm_go (d := d + 1) 2 rfl trivial (mm_one (m_fails (d := d) ?_))
  exact mm_one hk
theorem m_comeY (hv : v < 64) (hy : ¬ y = -1) (hk : K (.inl (some (.int z))) (wC b ev un md tp ce pl wa sz fl pr rf ro hr th (wM cl tn ft bn fb us tk ma nt 0 mk mf mr mp kd wh ca pa he fi mb td nu nx (upd rt v y) r))) : mm_cal (d + 2) al 71 [.ref 9, .int (nI v), .int y, .int z] (wC b ev un md tp ce pl wa sz fl pr rf ro hr th (wM cl tn ft bn fb us tk ma nt tr mk mf mr mp kd wh ca pa he fi mb td nu nx rt r)) K := by
  have i1 : vp_in (nI v) 64 := vp_in_nI hv (by decide)
  have e1 : (nI v).toNatClampNeg = v := nI_clamp (by omega)
  refine mm_go (d := d + 1) 2 rfl trivial (mm_one ⟨fun _ => ?_, fun u => absurd (Classical.not_not.mp u) hy⟩)
  refine mm_go (d := d + 1) (w' := (wC b ev un md tp ce pl wa sz fl pr rf ro hr th (wM cl tn ft bn fb us tk ma nt 0 mk mf mr mp kd wh ca pa he fi mb td nu nx (upd rt (nI v).toNatClampNeg y) r))) 9 rfl ⟨i1, trivial⟩ ?_
  rw [e1]
  exact mm_one hk
end
