/-- is there room for such a thing -/
def rmP (ce pl : Int32) (pr : Nat → Int32) (k f t n : Nat) : Prop := ce + cstI pr k f t n ≤ 100000 ∧ pl + nI (hdP k n) ≤ 180000
section
variable {d : Nat} {al : Bool} {K : mm_K} {k1 k2 : Nat} {w r : mm_W} {b : Bool} {ev un md tp ce pl wa sz : Int32} {fl pr ro : Nat → Int32} {rf hr th : Nat → Int64} {k f t n a i j q v T : Nat} {x y : Int32}
theorem f_rootY (h : v < 64) (hk : K (.inl none) w) : mm_cal (d + 1) al 52 [.int (nI v)] w K := by
  refine mm_go (d := d) 1 rfl trivial (mm_one ⟨fun c => ?_, fun c => ?_⟩)
  · exact absurd c (nI_pos (by omega))
  · refine mm_go (d := d) 2 rfl trivial (mm_one ⟨fun c => ?_, fun c => ?_⟩)
    · exact mm_one hk
    · exact absurd (show nI v < nI 64 from nI_lt h (by decide)) c
theorem f_rootN (h : x < 0 ∨ 64 ≤ x) (hk : K (.inr 2) w) : mm_cal (d + 1) al 52 [.int x] w K := by
  refine mm_go (d := d) 1 rfl trivial (mm_one ⟨fun c => ?_, fun c => ?_⟩)
  · exact mm_one hk
  · refine mm_go (d := d) 2 rfl trivial (mm_one ⟨fun c2 => ?_, fun c2 => ?_⟩)
    · exact h.elim (fun g => absurd g c) (fun g => absurd g (Int32.not_le.mpr c2))
    · exact mm_one hk
theorem f_rootE (x : Int32) : (∃ v, v < 64 ∧ x = nI v) ∨ (x < 0 ∨ 64 ≤ x) := by
  by_cases h : x < 0
  · exact Or.inr (Or.inl h)
  · by_cases h2 : 64 ≤ x
    · exact Or.inr (Or.inr h2)
    · obtain ⟨j, hj, e⟩ := nI_of h
      refine Or.inl ⟨j, ?_, e⟩
      rcases Nat.lt_or_ge j 64 with g | g
      · exact g
      · rw [e] at h2
        exact absurd (show nI 64 ≤ nI j from nI_le g hj) h2
theorem f_lenY (h : v ≤ 100000) (hk : K (.inl none) w) : mm_cal (d + 1) al 53 [.int (nI v)] w K := by
  refine mm_go (d := d) 1 rfl trivial (mm_one ⟨fun c => ?_, fun c => ?_⟩)
  · exact absurd c (nI_pos (by omega))
  · refine mm_go (d := d) 2 rfl trivial (mm_one ⟨fun c => ?_, fun c => ?_⟩)
    · exact mm_one hk
    · exact absurd (show nI v ≤ nI 100000 from nI_le h (by decide)) c
theorem f_lenN (h : x < 0 ∨ 100000 < x) (hk : K (.inr 0) w) : mm_cal (d + 1) al 53 [.int x] w K := by
  refine mm_go (d := d) 1 rfl trivial (mm_one ⟨fun c => ?_, fun c => ?_⟩)
  · exact mm_one hk
  · refine mm_go (d := d) 2 rfl trivial (mm_one ⟨fun c2 => ?_, fun c2 => ?_⟩)
    · exact h.elim (fun g => absurd g c) (fun g => absurd g (Int32.not_lt.mpr c2))
    · exact mm_one hk
theorem f_lenE (x : Int32) : (∃ v, v ≤ 100000 ∧ x = nI v) ∨ (x < 0 ∨ 100000 < x) := by
  by_cases h : x < 0
  · exact Or.inr (Or.inl h)
  · by_cases h2 : 100000 < x
    · exact Or.inr (Or.inr h2)
    · obtain ⟨j, hj, e⟩ := nI_of h
      refine Or.inl ⟨j, ?_, e⟩
      rcases Nat.lt_or_ge 100000 j with g | g
      · rw [e] at h2
        exact absurd (show nI 100000 < nI j from nI_lt g hj) h2
      · exact g
theorem f_head (ha : a < 180001) (hh : hr a = lN (hdN k f t n)) (hk : K (.inl (some (.long (lN (hdN k f t n))))) (wC b ev un md tp ce pl wa sz fl pr rf ro hr th r)) : mm_cal (d + 1) al 14 [.ref 1, .int (nI a)] (wC b ev un md tp ce pl wa sz fl pr rf ro hr th r) K := by
  refine h_head (vp_in_nI ha (by decide)) ?_
  rw [nI_clamp (by omega), hh]
  exact hk
theorem f_thingR (h : x < 0 ∨ 64 ≤ x) (hk : K (.inr 2) (wC b ev un md tp ce pl wa sz fl pr rf ro hr th r)) : mm_cal (d + 2) al 54 [.ref 0, .int x, .int y] (wC b ev un md tp ce pl wa sz fl pr rf ro hr th r) K := by
  exact mm_go (d := d + 1) 1 rfl trivial (mm_one (f_rootN h hk))
theorem f_thingN (hv : v < 64) (hro : ro v = nI a) (ha : a < 180001) (h : hdOk k f t n) (hh : hr a = lN (hdN k f t n)) (hy : y < 0 ∨ nI n ≤ y) (hk : K (.inr 2) (wC b ev un md tp ce pl wa sz fl pr rf ro hr th r)) : mm_cal (d + 2) al 54 [.ref 0, .int (nI v), .int y] (wC b ev un md tp ce pl wa sz fl pr rf ro hr th r) K := by
  have i1 : vp_in (nI v) 64 := vp_in_nI hv (by decide)
  have e1 : ro (nI v).toNatClampNeg = nI a := by rw [nI_clamp (by omega)]; exact hro
  refine mm_go (d := d + 1) 1 rfl trivial (mm_one (f_rootY hv ?_))
  refine mm_go (d := d + 1) (st' := [.int y]) (lv' := [(0, .ref 0), (1, .int (nI v)), (2, .int y), (3, .int (ro (nI v).toNatClampNeg))]) 7 rfl ⟨i1, trivial⟩ ?_
  rw [e1]
  refine mm_one ⟨fun c => ?_, fun c => ?_⟩
  · exact mm_one hk
  · refine mm_go (d := d + 1) 4 rfl trivial (mm_one (f_head ha hh ?_))
    refine mm_one (h1_count h ?_)
    refine mm_one ⟨fun c2 => ?_, fun c2 => ?_⟩
    · exact hy.elim (fun g => absurd g c) (fun g => absurd g (Int32.not_le.mpr c2))
    · exact mm_one hk
theorem f_thingY (hv : v < 64) (hro : ro v = nI a) (ha : a < 180001) (h : hdOk k f t n) (hh : hr a = lN (hdN k f t n)) (hj : j < n) (hk : K (.inl (some (.int (nI a)))) (wC b ev un md tp ce pl wa sz fl pr rf ro hr th r)) : mm_cal (d + 2) al 54 [.ref 0, .int (nI v), .int (nI j)] (wC b ev un md tp ce pl wa sz fl pr rf ro hr th r) K := by
  have hn : n ≤ 100000 := h.2.2.2
  have i1 : vp_in (nI v) 64 := vp_in_nI hv (by decide)
  have e1 : ro (nI v).toNatClampNeg = nI a := by rw [nI_clamp (by omega)]; exact hro
  refine mm_go (d := d + 1) 1 rfl trivial (mm_one (f_rootY hv ?_))
  refine mm_go (d := d + 1) (st' := [.int (nI j)]) (lv' := [(0, .ref 0), (1, .int (nI v)), (2, .int (nI j)), (3, .int (ro (nI v).toNatClampNeg))]) 7 rfl ⟨i1, trivial⟩ ?_
  rw [e1]
  refine mm_one ⟨fun c => ?_, fun c => ?_⟩
  · exact absurd c (nI_pos (by omega))
  · refine mm_go (d := d + 1) 4 rfl trivial (mm_one (f_head ha hh ?_))
    refine mm_one (h1_count h ?_)
    refine mm_one ⟨fun c2 => ?_, fun c2 => ?_⟩
    · exact mm_go (d := d + 1) 1 rfl trivial (mm_one hk)
    · exact absurd (nI_lt hj (by omega)) c2
theorem isrN_2 (rf : Nat → Int64) (k t i : Nat) : isrN rf k t i < 2 := by unfold isrN; split <;> (try split) <;> (try split) <;> omega
theorem f_numR (h : x < 0 ∨ 64 ≤ x) (hk : K (.inr 2) (wC b ev un md tp ce pl wa sz fl pr rf ro hr th r)) : mm_cal (d + 3) al 55 [.ref 0, .int x, .int y] (wC b ev un md tp ce pl wa sz fl pr rf ro hr th r) K := by
  exact mm_go (d := d + 2) 3 rfl trivial (mm_one (f_thingR (d := d) h hk))
theorem f_numN (hv : v < 64) (hro : ro v = nI a) (ha : a < 180001) (h : hdOk k f t n) (hh : hr a = lN (hdN k f t n)) (hy : y < 0 ∨ nI n ≤ y) (hk : K (.inr 2) (wC b ev un md tp ce pl wa sz fl pr rf ro hr th r)) : mm_cal (d + 3) al 55 [.ref 0, .int (nI v), .int y] (wC b ev un md tp ce pl wa sz fl pr rf ro hr th r) K := by
  exact mm_go (d := d + 2) 3 rfl trivial (mm_one (f_thingN (d := d) hv hro ha h hh hy hk))
theorem f_num (hv : v < 64) (hro : ro v = nI a) (ha : a < 180001) (h : hdOk k f t n) (h1 : k = 1 → t < 100 ∧ n ≤ 64) (h5 : k = 5 → n ≤ 32) (hh : hr a = lN (hdN k f t n)) (hj : j < n)
    (hn : ¬ isrN rf k t j = 0 → K (.inr 0) (wC b ev un md tp ce pl wa sz fl pr rf ro hr th r)) (hk : isrN rf k t j = 0 → K (.inl (some (.int (nI a)))) (wC b ev un md tp ce pl wa sz fl pr rf ro hr th r)) : mm_cal (d + 3) al 55 [.ref 0, .int (nI v), .int (nI j)] (wC b ev un md tp ce pl wa sz fl pr rf ro hr th r) K := by
  have h2 := isrN_2 rf k t j
  refine mm_go (d := d + 2) 3 rfl trivial (mm_one (f_thingY (d := d) hv hro ha h hh hj ?_))
  refine mm_go (d := d + 2) 6 rfl trivial (mm_one (f_head (d := d + 1) ha hh ?_))
  refine mm_go (d := d + 2) 1 rfl trivial (mm_one (h2_isReference (d := d) h (fun e => ⟨(h1 e).1, by have := (h1 e).2; omega⟩) (fun e => by have := h5 e; omega) ?_))
  refine mm_one ⟨fun c => ?_, fun c => ?_⟩
  · exact mm_go (d := d + 2) 1 rfl trivial (mm_one (hk ((nI_eq (by omega) (by decide)).mp (show nI (isrN rf k t j) = nI 0 from c))))
  · exact mm_one (hn (fun e => c (show nI (isrN rf k t j) = nI 0 by rw [e])))
theorem f_refR (h : x < 0 ∨ 64 ≤ x) (hk : K (.inr 2) (wC b ev un md tp ce pl wa sz fl pr rf ro hr th r)) {s : Int32} : mm_cal (d + 3) al 56 [.ref 0, .int x, .int y, .int s] (wC b ev un md tp ce pl wa sz fl pr rf ro hr th r) K := by
  exact mm_go (d := d + 2) 3 rfl trivial (mm_one (f_thingR (d := d) h hk))
theorem f_refN {s : Int32} (hv : v < 64) (hro : ro v = nI a) (ha : a < 180001) (h : hdOk k f t n) (hh : hr a = lN (hdN k f t n)) (hy : y < 0 ∨ nI n ≤ y) (hk : K (.inr 2) (wC b ev un md tp ce pl wa sz fl pr rf ro hr th r)) : mm_cal (d + 3) al 56 [.ref 0, .int (nI v), .int y, .int s] (wC b ev un md tp ce pl wa sz fl pr rf ro hr th r) K := by
  exact mm_go (d := d + 2) 3 rfl trivial (mm_one (f_thingN (d := d) hv hro ha h hh hy hk))
theorem f_refS {s : Int32} (hv : v < 64) (hro : ro v = nI a) (ha : a < 180001) (h : hdOk k f t n) (hh : hr a = lN (hdN k f t n)) (hj : j < n) (hs : s < 0 ∨ 64 ≤ s) (hk : K (.inr 2) (wC b ev un md tp ce pl wa sz fl pr rf ro hr th r)) : mm_cal (d + 3) al 56 [.ref 0, .int (nI v), .int (nI j), .int s] (wC b ev un md tp ce pl wa sz fl pr rf ro hr th r) K := by
  refine mm_go (d := d + 2) 3 rfl trivial (mm_one (f_thingY (d := d) hv hro ha h hh hj ?_))
  exact mm_go (d := d + 2) 2 rfl trivial (mm_one (f_rootN hs hk))
theorem f_ref (hv : v < 64) (hro : ro v = nI a) (ha : a < 180001) (h : hdOk k f t n) (h1 : k = 1 → t < 100 ∧ n ≤ 64) (h5 : k = 5 → n ≤ 32) (hh : hr a = lN (hdN k f t n)) (hj : j < n) (hq : q < 64)
    (hn : isrN rf k t j = 0 → K (.inr 0) (wC b ev un md tp ce pl wa sz fl pr rf ro hr th r)) (hk : ¬ isrN rf k t j = 0 → K (.inl (some (.int (nI a)))) (wC b ev un md tp ce pl wa sz fl pr rf ro hr th r)) : mm_cal (d + 3) al 56 [.ref 0, .int (nI v), .int (nI j), .int (nI q)] (wC b ev un md tp ce pl wa sz fl pr rf ro hr th r) K := by
  have h2 := isrN_2 rf k t j
  refine mm_go (d := d + 2) 3 rfl trivial (mm_one (f_thingY (d := d) hv hro ha h hh hj ?_))
  refine mm_go (d := d + 2) 2 rfl trivial (mm_one (f_rootY hq ?_))
  refine mm_go (d := d + 2) 5 rfl trivial (mm_one (f_head (d := d + 1) ha hh ?_))
  refine mm_go (d := d + 2) 1 rfl trivial (mm_one (h2_isReference (d := d) h (fun e => ⟨(h1 e).1, by have := (h1 e).2; omega⟩) (fun e => by have := h5 e; omega) ?_))
  refine mm_one ⟨fun c => ?_, fun c => ?_⟩
  · exact mm_go (d := d + 2) 1 rfl trivial (mm_one (hk (fun e => c (show nI (isrN rf k t j) = nI 0 by rw [e]))))
  · exact mm_one (hn ((nI_eq (by omega) (by decide)).mp (show nI (isrN rf k t j) = nI 0 from Classical.not_not.mp c)))
theorem f_everyN (h : x < 0) (hk : K (.inr 0) (wC b ev un md tp ce pl wa sz fl pr rf ro hr th r)) : mm_cal (d + 1) al 49 [.ref 0, .int x] (wC b ev un md tp ce pl wa sz fl pr rf ro hr th r) K := by
  refine mm_go (d := d) 1 rfl trivial (mm_one ⟨fun c => ?_, fun c => ?_⟩)
  · exact absurd h (Int32.not_lt.mpr c)
  · exact mm_one hk
theorem f_everyY (h : ¬ x < 0) (hk : K (.inl (some (.int ev))) (wC b x x md tp ce pl wa sz fl pr rf ro hr th r)) : mm_cal (d + 1) al 49 [.ref 0, .int x] (wC b ev un md tp ce pl wa sz fl pr rf ro hr th r) K := by
  refine mm_go (d := d) 1 rfl trivial (mm_one ⟨fun c => ?_, fun c => ?_⟩)
  · exact mm_go (d := d) 10 rfl trivial (mm_one hk)
  · exact absurd (Int32.not_lt.mp h) c
theorem f_made (hk : K (.inl (some (.int md))) (wC b ev un md tp ce pl wa sz fl pr rf ro hr th r)) : mm_cal (d + 1) al 50 [.ref 0] (wC b ev un md tp ce pl wa sz fl pr rf ro hr th r) K := by
  exact mm_go (d := d) 2 rfl trivial (mm_one hk)
theorem f_audit (hm : ∀ K' : mm_K, (∀ wa th, K (.inl (some (.int (nI 0)))) (wC b ev un md tp ce pl wa sz fl pr rf ro hr th r) → K' (.inl (some (.int (nI 0)))) (wC b ev un md tp ce pl wa sz fl pr rf ro hr th r)) → mm_cal (d + 5) false 27 [.ref 1] (wC b ev un md tp ce pl wa sz fl pr rf ro hr th r) K') : mm_cal (d + 6) al 51 [.ref 0] (wC b ev un md tp ce pl wa sz fl pr rf ro hr th r) K := by
  exact mm_go (d := d + 5) 2 rfl trivial (mm_one (hm _ (fun wa th hk => mm_one hk)))
theorem f_collect {P : Bool → Int32 → Int32 → Int32 → (Nat → Int32) → (Nat → Int64) → (Nat → Int64) → Prop}
    (hm : ∀ K' : mm_K, (∀ b tp ce pl ro hr th, P b tp ce pl ro hr th → K' (.inl none) (wC b ev un md tp ce pl wa sz fl pr rf ro hr th r)) → mm_cal (d + 5) false 26 [.ref 1] (wC b ev un md tp ce pl wa sz fl pr rf ro hr th r) K')
    (hk : ∀ b tp ce pl ro hr th, P b tp ce pl ro hr th → K (.inl (some (.int ce))) (wC b ev un md tp ce pl wa sz fl pr rf ro hr th r)) : mm_cal (d + 6) al 48 [.ref 0] (wC b ev un md tp ce pl wa sz fl pr rf ro hr th r) K := by
  refine mm_go (d := d + 5) 2 rfl trivial (mm_one (hm _ (fun b tp ce pl ro hr th hp => ?_)))
  exact mm_go (d := d + 5) 3 rfl trivial (mm_one (hk b tp ce pl ro hr th hp))
end
