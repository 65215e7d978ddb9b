section
variable {d : Nat} {al : Bool} {K : mm_K} {w r : mm_W} {b : Bool} {ev un md tp ce pl wa sz : Int32} {fl pr ro : Nat → Int32} {rf hr th : Nat → Int64}
variable {cl tn ft bn fb us tk ma nt tr mk : Int32} {mf mp kd wh ca pa he fi mb td nx rt : Nat → Int32} {mr nu : Nat → Int64} {i c v k n q : Nat} {x : Int32}
theorem m_blocksT (hi : i < 180100) (h4 : kd i = 4) (hn : n ≤ 100000) (hw : wh i = nI n) (hk : K (.inl (some (.int (nI ((n + 15) / 16))))) (wC b ev un md tp ce pl wa sz fl pr rf ro hr th (wM cl tn ft bn fb us tk ma nt tr mk mf mr mp kd wh ca pa he fi mb td nu nx rt r))) : mm_cal (d + 2) al 65 [.ref 9, .int (nI i)] (wC b ev un md tp ce pl wa sz fl pr rf ro hr th (wM cl tn ft bn fb us tk ma nt tr mk mf mr mp kd wh ca pa he fi mb td nu nx rt r)) K := by
  have i1 : vp_in (nI i) 180100 := vp_in_nI hi (by decide)
  have e1 : (nI i).toNatClampNeg = i := nI_clamp (by omega)
  refine mm_go (d := d + 1) (st' := [.int 4, .int (kd (nI i).toNatClampNeg)]) 5 rfl ⟨i1, trivial⟩ ?_
  rw [e1]
  refine mm_one ⟨fun u => absurd h4 u, fun u => ?_⟩
  refine mm_go (d := d + 1) (st' := [.int ((wh (nI i).toNatClampNeg + 15) / 16)]) 9 rfl ⟨i1, trivial⟩ ?_
  rw [e1, hw, show (15 : Int32) = nI 15 from rfl, show (16 : Int32) = nI 16 from rfl, nI_add, pk_div (by omega) (by decide) (by decide)]
  exact mm_one hk
theorem m_blocksE (hi : i < 180100) (h4 : ¬ kd i = 4) (hn : n ≤ 100000) (hs : ∀ K' : mm_K, K' (.inl (some (.int (nI n)))) (wC b ev un md tp ce pl wa sz fl pr rf ro hr th (wM cl tn ft bn fb us tk ma nt tr mk mf mr mp kd wh ca pa he fi mb td nu nx rt r)) → mm_cal (d + 1) false 63 [.ref 9, .int (nI i)] (wC b ev un md tp ce pl wa sz fl pr rf ro hr th (wM cl tn ft bn fb us tk ma nt tr mk mf mr mp kd wh ca pa he fi mb td nu nx rt r)) K') (hk : K (.inl (some (.int (nI ((n + 3) / 4))))) (wC b ev un md tp ce pl wa sz fl pr rf ro hr th (wM cl tn ft bn fb us tk ma nt tr mk mf mr mp kd wh ca pa he fi mb td nu nx rt r))) : mm_cal (d + 2) al 65 [.ref 9, .int (nI i)] (wC b ev un md tp ce pl wa sz fl pr rf ro hr th (wM cl tn ft bn fb us tk ma nt tr mk mf mr mp kd wh ca pa he fi mb td nu nx rt r)) K := by
  have i1 : vp_in (nI i) 180100 := vp_in_nI hi (by decide)
  have e1 : (nI i).toNatClampNeg = i := nI_clamp (by omega)
  refine mm_go (d := d + 1) (st' := [.int 4, .int (kd (nI i).toNatClampNeg)]) 5 rfl ⟨i1, trivial⟩ ?_
  rw [e1]
  refine mm_one ⟨fun u => ?_, fun u => absurd (Classical.not_not.mp u) h4⟩
  refine mm_go (d := d + 1) 2 rfl trivial (mm_one (hs _ ?_))
  refine mm_go (d := d + 1) (st' := [.int ((nI n + 3) / 4)]) 4 rfl trivial ?_
  rw [show (3 : Int32) = nI 3 from rfl, show (4 : Int32) = nI 4 from rfl, nI_add, pk_div (by omega) (by decide) (by decide)]
  exact mm_one hk
theorem m_mark0 (hk : K (.inl none) (wC b ev un md tp ce pl wa sz fl pr rf ro hr th (wM cl tn ft bn fb us tk ma nt tr mk mf mr mp kd wh ca pa he fi mb td nu nx rt r))) : mm_cal (d + 1) al 67 [.ref 9, .int (-1)] (wC b ev un md tp ce pl wa sz fl pr rf ro hr th (wM cl tn ft bn fb us tk ma nt tr mk mf mr mp kd wh ca pa he fi mb td nu nx rt r)) K := by
  exact mm_go (d := d) 2 rfl trivial (mm_one ⟨fun _ => mm_one hk, fun u => absurd rfl u⟩)
theorem m_mark1 (hi : i < 180100) (hm : ¬ mb i = 0) (hk : K (.inl none) (wC b ev un md tp ce pl wa sz fl pr rf ro hr th (wM cl tn ft bn fb us tk ma nt tr mk mf mr mp kd wh ca pa he fi mb td nu nx rt r))) : mm_cal (d + 1) al 67 [.ref 9, .int (nI i)] (wC b ev un md tp ce pl wa sz fl pr rf ro hr th (wM cl tn ft bn fb us tk ma nt tr mk mf mr mp kd wh ca pa he fi mb td nu nx rt r)) K := by
  have i1 : vp_in (nI i) 180100 := vp_in_nI hi (by decide)
  have e1 : (nI i).toNatClampNeg = i := nI_clamp (by omega)
  refine mm_go (d := d) 2 rfl trivial (mm_one ⟨fun _ => mm_one hk, fun u => ?_⟩)
  refine mm_go (d := d) (st' := [.int (mb (nI i).toNatClampNeg)]) 4 rfl ⟨i1, trivial⟩ ?_
  rw [e1]
  exact mm_one ⟨fun u => absurd u hm, fun _ => mm_one hk⟩
theorem m_mark2 (hi : i < 180100) (hm : mb i = 0) (hq : q < 180100) (hk : K (.inl none) (wC b ev un md tp ce pl wa sz fl pr rf ro hr th (wM cl tn ft bn fb us tk ma nt tr (nI (q + 1)) mf mr mp kd wh ca pa he fi (upd mb i 1) (upd td q (nI i)) nu nx rt r))) : mm_cal (d + 1) al 67 [.ref 9, .int (nI i)] (wC b ev un md tp ce pl wa sz fl pr rf ro hr th (wM cl tn ft bn fb us tk ma nt tr (nI q) mf mr mp kd wh ca pa he fi mb td nu nx rt r)) K := by
  have i1 : vp_in (nI i) 180100 := vp_in_nI hi (by decide)
  have e1 : (nI i).toNatClampNeg = i := nI_clamp (by omega)
  have i2 : vp_in (nI q) 180100 := vp_in_nI hq (by decide)
  have e2 : (nI q).toNatClampNeg = q := nI_clamp (by omega)
  refine mm_go (d := d) 2 rfl trivial (mm_one ⟨fun u => ?_, fun u => ?_⟩)
  · have u : nI i = -1 := u
    exact absurd (show nI i < 0 by rw [u]; decide) (nI_pos (by omega))
  · refine mm_go (d := d) (st' := [.int (mb (nI i).toNatClampNeg)]) 4 rfl ⟨i1, trivial⟩ ?_
    rw [e1]
    refine mm_one ⟨fun _ => ?_, fun u => absurd hm u⟩
    refine mm_go (d := d) (w' := (wC b ev un md tp ce pl wa sz fl pr rf ro hr th (wM cl tn ft bn fb us tk ma nt tr (nI q + 1) mf mr mp kd wh ca pa he fi (upd mb (nI i).toNatClampNeg 1) (upd td (nI q).toNatClampNeg (nI i)) nu nx rt r))) 17 rfl ⟨i1, i2, trivial⟩ ?_
    rw [e1, e2, nI_1]
    exact mm_one hk
end
