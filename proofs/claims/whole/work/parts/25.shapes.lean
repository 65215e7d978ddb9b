/-- is o the number of a class, where z are there -/
def hasB (z : Nat) (o : Int32) : Prop := 0 ≤ o ∧ o < nI z
theorem hasB_in {z : Nat} {o : Int32} (hz : z ≤ 100) (h : hasB z o) : ∃ c, c < z ∧ o = nI c := by
  obtain ⟨j, hj, e⟩ := nI_of (x := o) (Int32.not_lt.mpr h.1)
  refine ⟨j, ?_, e⟩
  have h2 := h.2
  rw [e] at h2
  exact (nI_ltI hj (by omega)).mp h2
/-- fields and references that a class under o takes over -/
noncomputable def abvI (z : Nat) (fl : Nat → Int32) (o : Int32) : Int32 := by
  classical exact if hasB z o then fl o.toNatClampNeg else 0
noncomputable def inhL (z : Nat) (rf : Nat → Int64) (o : Int32) : Int64 := by
  classical exact if hasB z o then rf o.toNatClampNeg else 0
theorem abvI_y {z : Nat} {fl : Nat → Int32} {o : Int32} (h : hasB z o) : abvI z fl o = fl o.toNatClampNeg := if_pos h
theorem abvI_n {z : Nat} {fl : Nat → Int32} {o : Int32} (h : ¬ hasB z o) : abvI z fl o = 0 := if_neg h
theorem inhL_y {z : Nat} {fl : Nat → Int64} {o : Int32} (h : hasB z o) : inhL z fl o = fl o.toNatClampNeg := if_pos h
theorem inhL_n {z : Nat} {fl : Nat → Int64} {o : Int32} (h : ¬ hasB z o) : inhL z fl o = 0 := if_neg h
section
variable {d : Nat} {al : Bool} {K : mm_K} {k1 k2 : Nat} {w r : mm_W} {b : Bool} {ev un md tp ce pl wa sz : Int32} {fl pr ro : Nat → Int32} {rf hr th : Nat → Int64} {k f t n a i z : Nat} {o : Int32}
theorem h5_hasY (h : hasB z o) (hk : K (.inl (some (.int 1))) (wC b ev un md tp ce pl wa (nI z) fl pr rf ro hr th r)) : mm_cal (d + 1) al 9 [.ref 2, .int o] (wC b ev un md tp ce pl wa (nI z) fl pr rf ro hr th r) K := by
  refine h_has ?_
  rw [if_pos (show 0 ≤ o ∧ o < nI z from h)]
  exact hk
theorem h5_hasN (h : ¬ hasB z o) (hk : K (.inl (some (.int 0))) (wC b ev un md tp ce pl wa (nI z) fl pr rf ro hr th r)) : mm_cal (d + 1) al 9 [.ref 2, .int o] (wC b ev un md tp ce pl wa (nI z) fl pr rf ro hr th r) K := by
  refine h_has ?_
  rw [if_neg (show ¬ (0 ≤ o ∧ o < nI z) from h)]
  exact hk
theorem h5_above (hz : z ≤ 100) (hk : K (.inl (some (.int (abvI z fl o)))) (wC b ev un md tp ce pl wa (nI z) fl pr rf ro hr th r)) : mm_cal (d + 2) al 12 [.ref 2, .int o] (wC b ev un md tp ce pl wa (nI z) fl pr rf ro hr th r) K := by
  classical
  by_cases h : hasB z o
  · obtain ⟨c, hc, e⟩ := hasB_in hz h
    rw [abvI_y h] at hk
    refine mm_go (d := d + 1) 2 rfl trivial (mm_one (h5_hasY h ?_))
    refine mm_one ⟨fun c => ?_, fun c => ?_⟩
    · exact absurd (show (1 : Int32) = 0 from c) (by decide)
    · exact mm_go (d := d + 1) 5 rfl ⟨(by rw [e]; exact vp_in_nI (by omega) (by decide) : vp_in o 100), trivial⟩ (mm_one hk)
  · rw [abvI_n h] at hk
    refine mm_go (d := d + 1) 2 rfl trivial (mm_one (h5_hasN h ?_))
    refine mm_one ⟨fun c => ?_, fun c => ?_⟩
    · exact mm_go (d := d + 1) 1 rfl trivial (mm_one hk)
    · exact absurd rfl (show ¬ (0 : Int32) = 0 from c)
theorem h5_hasRoomN {v : Int32} (hz : z ≤ 100) (h : ¬ (z < 100 ∧ abvI z fl o + v ≤ 64)) (hk : K (.inl (some (.int 0))) (wC b ev un md tp ce pl wa (nI z) fl pr rf ro hr th r)) : mm_cal (d + 3) al 10 [.ref 2, .int o, .int v] (wC b ev un md tp ce pl wa (nI z) fl pr rf ro hr th r) K := by
  refine mm_go (d := d + 2) 3 rfl trivial (mm_one ⟨fun c => ?_, fun c => ?_⟩)
  · exact mm_go (d := d + 2) 1 rfl trivial (mm_one ⟨rfl, hk⟩)
  · have c : ¬ nI 100 ≤ nI z := c
    have c1 : z < 100 := by
      rcases Nat.lt_or_ge z 100 with g | g
      · exact g
      · exact absurd (nI_le g (by omega)) c
    refine mm_go (d := d + 2) 2 rfl trivial (mm_one (h5_above hz ?_))
    refine mm_go (d := d + 2) 3 rfl trivial (mm_one ⟨fun c => ?_, fun c => ?_⟩)
    · exact mm_go (d := d + 2) 1 rfl trivial (mm_one ⟨rfl, hk⟩)
    · exact absurd ⟨c1, Int32.not_lt.mp c⟩ h
theorem h5_hasRoomY {v : Int32} (hz : z < 100) (h : abvI z fl o + v ≤ 64) (hk : K (.inl (some (.int 1))) (wC b ev un md tp ce pl wa (nI z) fl pr rf ro hr th r)) : mm_cal (d + 3) al 10 [.ref 2, .int o, .int v] (wC b ev un md tp ce pl wa (nI z) fl pr rf ro hr th r) K := by
  refine mm_go (d := d + 2) 3 rfl trivial (mm_one ⟨fun c => ?_, fun c => ?_⟩)
  · have c : nI 100 ≤ nI z := c
    exact absurd ((nI_leI (by decide) (by omega)).mp c) (by omega)
  · refine mm_go (d := d + 2) 2 rfl trivial (mm_one (h5_above (by omega) ?_))
    refine mm_go (d := d + 2) 3 rfl trivial (mm_one ⟨fun c => ?_, fun c => ?_⟩)
    · exact absurd h (Int32.not_le.mpr c)
    · exact mm_go (d := d + 2) 2 rfl trivial (mm_one ⟨rfl, hk⟩)
theorem h5_add {v x p : Int32} (hz : z < 100) (hk : K (.inl (some (.int (nI z)))) (wC b ev un md tp ce pl wa (nI (z + 1)) (upd fl z (abvI z fl o + v)) (upd pr z p) (vp_updL rf z (inhL z rf o ||| (x &&& (1 <<< (v &&& 31) - 1)).toInt64 <<< ((abvI z fl o).toInt64 &&& 63))) ro hr th r)) : mm_cal (d + 3) al 11 [.ref 2, .int o, .int v, .int x, .int p] (wC b ev un md tp ce pl wa (nI z) fl pr rf ro hr th r) K := by
  classical
  have iz : vp_in (nI z) 100 := vp_in_nI hz (by decide)
  have ez : (nI z).toNatClampNeg = z := nI_clamp (by omega)
  refine mm_go (d := d + 2) 2 rfl trivial (mm_one (h5_above (by omega) ?_))
  by_cases h : hasB z o
  · obtain ⟨c, hc, e⟩ := hasB_in (by omega) h
    rw [inhL_y h] at hk
    refine mm_go (d := d + 2) 3 rfl trivial (mm_one (h5_hasY h ?_))
    refine mm_one ⟨fun c => ?_, fun c => ?_⟩
    · exact absurd (show (1 : Int32) = 0 from c) (by decide)
    · refine mm_go (d := d + 2) (w' := wC b ev un md tp ce pl wa (nI z + 1) (upd fl (nI z).toNatClampNeg (abvI z fl o + v)) (upd pr (nI z).toNatClampNeg p) (vp_updL rf (nI z).toNatClampNeg (rf o.toNatClampNeg ||| (x &&& (1 <<< (v &&& 31) - 1)).toInt64 <<< ((abvI z fl o).toInt64 &&& 63))) ro hr th r) (st' := [.int (nI z + 1 - 1)]) 49 rfl ⟨(by rw [e]; exact vp_in_nI (by omega) (by decide) : vp_in o 100), iz, iz, iz, trivial⟩ (mm_one ?_)
      rw [ez, nI_1, nI_pred]
      exact hk
  · rw [inhL_n h] at hk
    refine mm_go (d := d + 2) 3 rfl trivial (mm_one (h5_hasN h ?_))
    refine mm_one ⟨fun c => ?_, fun c => ?_⟩
    · refine mm_go (d := d + 2) (w' := wC b ev un md tp ce pl wa (nI z + 1) (upd fl (nI z).toNatClampNeg (abvI z fl o + v)) (upd pr (nI z).toNatClampNeg p) (vp_updL rf (nI z).toNatClampNeg ((0 : Int64) ||| (x &&& (1 <<< (v &&& 31) - 1)).toInt64 <<< ((abvI z fl o).toInt64 &&& 63))) ro hr th r) (st' := [.int (nI z + 1 - 1)]) 45 rfl ⟨iz, iz, iz, trivial⟩ (mm_one ?_)
      rw [ez, nI_1, nI_pred]
      exact hk
    · exact absurd rfl (show ¬ (0 : Int32) = 0 from c)
end
