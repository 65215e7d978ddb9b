/-! the world of the system: nine cells, and whatever lies behind them -/
def wC (b : Bool) (ev un md tp ce pl wa sz : Int32) (fl pr : Nat → Int32) (rf : Nat → Int64) (ro : Nat → Int32) (hr th : Nat → Int64) (r : mm_W) : mm_W :=
  (0, .inr (0, [.ref 2, .ref 1, .int ev, .int un, .int md])) ::
  (1, .inr (1, [.ref 2, .ref 6, .ref (match b with | true => 8 | false => 7), .ref (match b with | true => 7 | false => 8), .int tp, .int ce, .int pl, .int wa])) ::
  (2, .inr (2, [.int sz, .ref 3, .ref 4, .ref 5])) ::
  (3, .inl (0, 100, .inl fl)) :: (4, .inl (0, 100, .inl pr)) :: (5, .inl (1, 100, .inr (.inl rf))) :: (6, .inl (0, 64, .inl ro)) ::
  (7, .inl (1, 180001, .inr (.inl (match b with | true => th | false => hr)))) :: (8, .inl (1, 180001, .inr (.inl (match b with | true => hr | false => th)))) :: r
section
variable {d : Nat} {al : Bool} {K : mm_K} {k1 k2 : Nat} {w r : mm_W} {b : Bool} {ev un md tp ce pl wa sz : Int32} {fl pr ro : Nat → Int32} {rf hr th : Nat → Int64}
theorem h_kind {h : Int64} (hk : K (.inl (some (.int (h.toInt32 &&& 7)))) w) : mm_cal (d + 1) al 1 [.long h] w K := by
  refine mm_go (d := d) 4 rfl trivial ?_
  exact mm_one hk
theorem h_count {h : Int64} (hk : K (.inl (some (.int (h >>> ((12 : Int32).toInt64 &&& 63)).toInt32))) w) : mm_cal (d + 1) al 4 [.long h] w K := by
  refine mm_go (d := d) 4 rfl trivial ?_
  exact mm_one hk
theorem h_detail {h : Int64} (hk : K (.inl (some (.int ((h >>> ((4 : Int32).toInt64 &&& 63)).toInt32 &&& 255)))) w) : mm_cal (d + 1) al 3 [.long h] w K := by
  refine mm_go (d := d) 6 rfl trivial ?_
  exact mm_one hk
theorem h_head {i : Int32} (hi : vp_in i 180001) (hk : K (.inl (some (.long (hr i.toNatClampNeg)))) (wC b ev un md tp ce pl wa sz fl pr rf ro hr th r)) : mm_cal (d + 1) al 14 [.ref 1, .int i] (wC b ev un md tp ce pl wa sz fl pr rf ro hr th r) K := by
  cases b
  · refine mm_go (d := d) 4 rfl ⟨hi, trivial⟩ ?_
    exact mm_one hk
  · refine mm_go (d := d) 4 rfl ⟨hi, trivial⟩ ?_
    exact mm_one hk
theorem h_has {c : Int32} (hk : K (.inl (some (.int (if 0 ≤ c ∧ c < sz then 1 else 0)))) (wC b ev un md tp ce pl wa sz fl pr rf ro hr th r)) : mm_cal (d + 1) al 9 [.ref 2, .int c] (wC b ev un md tp ce pl wa sz fl pr rf ro hr th r) K := by
  refine mm_go (d := d) 1 rfl trivial ?_
  refine mm_one ⟨fun h1 => ?_, fun h1 => ?_⟩
  · refine mm_go (d := d) 1 rfl trivial ?_
    refine mm_one ⟨rfl, ?_⟩
    have h1 : c < 0 := h1
    rwa [if_neg (fun h => absurd h.1 (Int32.not_le.mpr h1))] at hk
  · refine mm_go (d := d) 3 rfl trivial ?_
    refine mm_one ⟨fun h2 => ?_, fun h2 => ?_⟩
    · refine mm_go (d := d) 1 rfl trivial ?_
      refine mm_one ⟨rfl, ?_⟩
      have h2 : sz ≤ c := h2
      rwa [if_neg (fun h => absurd h.2 (Int32.not_lt.mpr h2))] at hk
    · refine mm_go (d := d) 2 rfl trivial ?_
      refine mm_one ⟨rfl, ?_⟩
      have h1 : ¬ c < 0 := h1
      have h2 : ¬ sz ≤ c := h2
      rwa [if_pos ⟨Int32.not_lt.mp h1, Int32.not_le.mp h2⟩] at hk
end
