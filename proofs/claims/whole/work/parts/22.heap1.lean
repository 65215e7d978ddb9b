/-- the cells that a thing costs, as it was made -/
def cstI (pr : Nat → Int32) (k f t n : Nat) : Int32 := if f = 1 then 0 else if k = 1 then pr t else if k = 2 ∨ k = 3 ∨ k = 4 then nI (2 + n) else if k = 5 then 10 else 0
/-- is place i of such a thing a reference (1) or not (0) -/
def isrN (rf : Nat → Int64) (k t i : Nat) : Nat := if k = 1 then (rf t).toBitVec.toNat / 2 ^ i % 2 else if k = 3 then 1 else if k = 5 then t / 2 ^ i % 2 else 0
theorem nx_sl : ∀ l, l < 32 → (((nI l).toUInt32 &&& Int32.toUInt32 31).toBitVec % 32).toNat = l := by decide +kernel
theorem nI_cl {n : Nat} (h : n < 2 ^ 31) : (nI n).toNatClampNeg = n := nI_clamp h
section
variable {d : Nat} {al : Bool} {K : mm_K} {k1 k2 : Nat} {w r : mm_W} {b : Bool} {ev un md tp ce pl wa sz : Int32} {fl pr ro : Nat → Int32} {rf hr th : Nat → Int64} {k f t n a i : Nat}
theorem h2_cellsOf (h : hdOk k f t n) (ht : k = 1 → t < 100) (hk : K (.inl (some (.int (cstI pr k f t n)))) (wC b ev un md tp ce pl wa sz fl pr rf ro hr th r)) : mm_cal (d + 2) al 15 [.ref 1, .long (lN (hdN k f t n))] (wC b ev un md tp ce pl wa sz fl pr rf ro hr th r) K := by
  have hk8 : k < 8 := h.1
  have hn : n ≤ 100000 := h.2.2.2
  have key : ∀ j, j < 8 → (nI k = nI j ↔ k = j) := fun j hj => nI_eq (by omega) (by omega)
  refine mm_go (d := d + 1) 1 rfl trivial (mm_one (h1_isFree h ?_))
  refine mm_one ⟨fun c => ?_, fun c => ?_⟩
  · have hf : f = 0 := (nI_eq (by have := h.2.1; omega) (by decide)).mp (show nI f = nI 0 from c)
    subst hf
    unfold cstI at hk
    rw [if_neg (by decide)] at hk
    refine mm_go (d := d + 1) 1 rfl trivial (mm_one (h1_kind h ?_))
    refine mm_one ⟨fun c => ?_, fun c1 => ⟨fun c => ?_, fun c2 => ⟨fun c => ?_, fun c3 => ⟨fun c => ?_, fun c4 => ⟨fun c => ?_, fun c5 => ?_⟩⟩⟩⟩⟩
    · have e : k = 1 := (key 1 (by decide)).mp c
      subst e
      rw [if_pos rfl] at hk
      refine mm_go (d := d + 1) 4 rfl trivial (mm_one (h1_detail h ?_))
      refine mm_go (d := d + 1) 1 rfl ⟨vp_in_nI (N := 100) (ht rfl) (by decide), trivial⟩ (mm_one ?_)
      show K (.inl (some (.int (pr (nI t).toNatClampNeg)))) (wC b ev un md tp ce pl wa sz fl pr rf ro hr th r)
      rw [nI_clamp (by have := h.2.2.1; omega)]
      exact hk
    · have e : k = 2 := (key 2 (by decide)).mp c
      subst e
      rw [if_neg (by decide), if_pos (by decide)] at hk
      refine mm_go (d := d + 1) 2 rfl trivial (mm_one (h1_count h ?_))
      refine mm_go (d := d + 1) 1 rfl trivial (mm_one ?_)
      show K (.inl (some (.int (2 + nI n)))) (wC b ev un md tp ce pl wa sz fl pr rf ro hr th r)
      rw [show (2 : Int32) = nI 2 from rfl, nI_add]
      exact hk
    · have e : k = 3 := (key 3 (by decide)).mp c
      subst e
      rw [if_neg (by decide), if_pos (by decide)] at hk
      refine mm_go (d := d + 1) 2 rfl trivial (mm_one (h1_count h ?_))
      refine mm_go (d := d + 1) 1 rfl trivial (mm_one ?_)
      show K (.inl (some (.int (2 + nI n)))) (wC b ev un md tp ce pl wa sz fl pr rf ro hr th r)
      rw [show (2 : Int32) = nI 2 from rfl, nI_add]
      exact hk
    · have e : k = 4 := (key 4 (by decide)).mp c
      subst e
      rw [if_neg (by decide), if_pos (by decide)] at hk
      refine mm_go (d := d + 1) 2 rfl trivial (mm_one (h1_count h ?_))
      refine mm_go (d := d + 1) 1 rfl trivial (mm_one ?_)
      show K (.inl (some (.int (2 + nI n)))) (wC b ev un md tp ce pl wa sz fl pr rf ro hr th r)
      rw [show (2 : Int32) = nI 2 from rfl, nI_add]
      exact hk
    · have e : k = 5 := (key 5 (by decide)).mp c
      subst e
      rw [if_neg (by decide), if_neg (by decide), if_pos rfl] at hk
      exact mm_go (d := d + 1) 1 rfl trivial (mm_one hk)
    · have e1 : ¬ k = 1 := fun e => c1 ((key 1 (by decide)).mpr e)
      have e2 : ¬ k = 2 := fun e => c2 ((key 2 (by decide)).mpr e)
      have e3 : ¬ k = 3 := fun e => c3 ((key 3 (by decide)).mpr e)
      have e4 : ¬ k = 4 := fun e => c4 ((key 4 (by decide)).mpr e)
      have e5 : ¬ k = 5 := fun e => c5 ((key 5 (by decide)).mpr e)
      rw [if_neg e1, if_neg (by omega), if_neg e5] at hk
      exact mm_go (d := d + 1) 1 rfl trivial (mm_one hk)
  · have hf : f = 1 := by
      have := h.2.1
      rcases (show f = 0 ∨ f = 1 by omega) with e | e
      · exact absurd (show nI f = 0 by rw [e]; rfl) c
      · exact e
    subst hf
    unfold cstI at hk
    rw [if_pos rfl] at hk
    exact mm_go (d := d + 1) 1 rfl trivial (mm_one hk)
theorem h2_isReference (h : hdOk k f t n) (h1 : k = 1 → t < 100 ∧ i < 64) (h5 : k = 5 → i < 32) (hk : K (.inl (some (.int (nI (isrN rf k t i))))) (wC b ev un md tp ce pl wa sz fl pr rf ro hr th r)) : mm_cal (d + 2) al 16 [.ref 1, .long (lN (hdN k f t n)), .int (nI i)] (wC b ev un md tp ce pl wa sz fl pr rf ro hr th r) K := by
  have hk8 : k < 8 := h.1
  have ht : t < 256 := h.2.2.1
  have key : ∀ j, j < 8 → (nI k = nI j ↔ k = j) := fun j hj => nI_eq (by omega) (by omega)
  unfold isrN at hk
  refine mm_go (d := d + 1) 1 rfl trivial (mm_one (h1_kind h ?_))
  refine mm_one ⟨fun c => ?_, fun c1 => ⟨fun c => ?_, fun c2 => ⟨fun c => ?_, fun c3 => ⟨fun c => ?_, fun c4 => ⟨fun c => ?_, fun c5 => ?_⟩⟩⟩⟩⟩
  · have e : k = 1 := (key 1 (by decide)).mp c
    subst e
    obtain ⟨ht1, hi1⟩ := h1 rfl
    rw [if_pos rfl] at hk
    obtain ⟨m, hm, em⟩ := wb_of (rf t)
    have emn : (rf t).toBitVec.toNat = m := by rw [em, wb_tn hm]
    rw [emn] at hk
    have hbit : ((rf (nI t).toNatClampNeg).toUInt64 >>> ((nI i).toInt64.toUInt64 &&& Int64.toUInt64 63)).toInt64 &&& 1 = lN (m / 2 ^ i % 2) := by
      rw [nI_clamp (by omega), em]
      exact wb_bit hm hi1
    refine mm_go (d := d + 1) 4 rfl trivial (mm_one (h1_detail h ?_))
    refine mm_go (d := d + 1) 7 rfl ⟨vp_in_nI (N := 100) ht1 (by decide), trivial⟩ (mm_one ⟨fun c => ?_, fun c => ?_⟩)
    · have c : ¬ lg_cmp (((rf (nI t).toNatClampNeg).toUInt64 >>> ((nI i).toInt64.toUInt64 &&& Int64.toUInt64 63)).toInt64 &&& 1) 1 = 0 := c
      rw [hbit] at c
      have e0 : m / 2 ^ i % 2 = 0 := by
        rcases Nat.mod_two_eq_zero_or_one (m / 2 ^ i) with e | e
        · exact e
        · rw [e] at c
          exact absurd (by decide) c
      rw [e0] at hk
      exact mm_go (d := d + 1) 1 rfl trivial (mm_one ⟨rfl, hk⟩)
    · have c : ¬ ¬ lg_cmp (((rf (nI t).toNatClampNeg).toUInt64 >>> ((nI i).toInt64.toUInt64 &&& Int64.toUInt64 63)).toInt64 &&& 1) 1 = 0 := c
      rw [hbit] at c
      have e0 : m / 2 ^ i % 2 = 1 := by
        rcases Nat.mod_two_eq_zero_or_one (m / 2 ^ i) with e | e
        · rw [e] at c
          exact absurd (by decide) c
        · exact e
      rw [e0] at hk
      exact mm_go (d := d + 1) 2 rfl trivial (mm_one ⟨rfl, hk⟩)
  · have e : k = 2 := (key 2 (by decide)).mp c
    subst e
    rw [if_neg (by decide), if_neg (by decide), if_neg (by decide)] at hk
    exact mm_go (d := d + 1) 1 rfl trivial (mm_one ⟨rfl, hk⟩)
  · have e : k = 3 := (key 3 (by decide)).mp c
    subst e
    rw [if_neg (by decide), if_pos rfl] at hk
    exact mm_go (d := d + 1) 1 rfl trivial (mm_one ⟨rfl, hk⟩)
  · have e : k = 4 := (key 4 (by decide)).mp c
    subst e
    rw [if_neg (by decide), if_neg (by decide), if_neg (by decide)] at hk
    exact mm_go (d := d + 1) 1 rfl trivial (mm_one ⟨rfl, hk⟩)
  · have e : k = 5 := (key 5 (by decide)).mp c
    subst e
    have hi5 := h5 rfl
    rw [if_neg (by decide), if_neg (by decide), if_pos rfl] at hk
    have hbit : ((nI t).toUInt32 >>> ((nI i).toUInt32 &&& Int32.toUInt32 31)).toInt32 &&& 1 = nI (t / 2 ^ i % 2) := by
      rw [pk_ushrN (by omega) (nI i) i (nx_sl i hi5), pk_andN (Nat.lt_of_le_of_lt (Nat.div_le_self _ _) (by omega)) 1 rfl]
    refine mm_go (d := d + 1) 1 rfl trivial (mm_one (h1_detail h ?_))
    refine mm_go (d := d + 1) 5 rfl trivial (mm_one ⟨fun c => ?_, fun c => ?_⟩)
    · have c : ¬ ((nI t).toUInt32 >>> ((nI i).toUInt32 &&& Int32.toUInt32 31)).toInt32 &&& 1 = 1 := c
      rw [hbit] at c
      have e0 : t / 2 ^ i % 2 = 0 := by
        rcases Nat.mod_two_eq_zero_or_one (t / 2 ^ i) with e | e
        · exact e
        · rw [e] at c
          exact absurd rfl c
      rw [e0] at hk
      exact mm_go (d := d + 1) 1 rfl trivial (mm_one ⟨rfl, hk⟩)
    · have c : ¬ ¬ ((nI t).toUInt32 >>> ((nI i).toUInt32 &&& Int32.toUInt32 31)).toInt32 &&& 1 = 1 := c
      rw [hbit] at c
      have e0 : t / 2 ^ i % 2 = 1 := by
        rcases Nat.mod_two_eq_zero_or_one (t / 2 ^ i) with e | e
        · rw [e] at c
          exact absurd (by decide) c
        · exact e
      rw [e0] at hk
      exact mm_go (d := d + 1) 2 rfl trivial (mm_one ⟨rfl, hk⟩)
  · have e1 : ¬ k = 1 := fun e => c1 ((key 1 (by decide)).mpr e)
    have e3 : ¬ k = 3 := fun e => c3 ((key 3 (by decide)).mpr e)
    have e5 : ¬ k = 5 := fun e => c5 ((key 5 (by decide)).mpr e)
    rw [if_neg e1, if_neg e3, if_neg e5] at hk
    exact mm_go (d := d + 1) 1 rfl trivial (mm_one ⟨rfl, hk⟩)
theorem h2_reference (ha : a + 1 + i < 180001) (hk : K (.inl (some (.int (hr (a + 1 + i)).toInt32))) (wC b ev un md tp ce pl wa sz fl pr rf ro hr th r)) : mm_cal (d + 1) al 19 [.ref 1, .int (nI a), .int (nI i)] (wC b ev un md tp ce pl wa sz fl pr rf ro hr th r) K := by
  have e : nI a + 1 + nI i = nI (a + 1 + i) := by rw [nI_1, nI_add]
  have hin : vp_in (nI a + 1 + nI i) 180001 := by rw [e]; exact vp_in_nI ha (by decide)
  have ec : (nI a + 1 + nI i).toNatClampNeg = a + 1 + i := by rw [e]; exact nI_clamp (by omega)
  cases b
  · refine mm_go (d := d) 9 rfl ⟨hin, trivial⟩ (mm_one ?_)
    show K (.inl (some (.int (hr (nI a + 1 + nI i).toNatClampNeg).toInt32))) _
    rw [ec]
    exact hk
  · refine mm_go (d := d) 9 rfl ⟨hin, trivial⟩ (mm_one ?_)
    show K (.inl (some (.int (hr (nI a + 1 + nI i).toNatClampNeg).toInt32))) _
    rw [ec]
    exact hk
theorem h2_setReference {v : Nat} (ha : a + 1 + i < 180001) (hv : v < 2 ^ 31) (hk : K (.inl none) (wC b ev un md tp ce pl wa sz fl pr rf ro (vp_updL hr (a + 1 + i) (lN v)) th r)) : mm_cal (d + 1) al 20 [.ref 1, .int (nI a), .int (nI i), .int (nI v)] (wC b ev un md tp ce pl wa sz fl pr rf ro hr th r) K := by
  have e : nI a + 1 + nI i = nI (a + 1 + i) := by rw [nI_1, nI_add]
  have hin : vp_in (nI a + 1 + nI i) 180001 := by rw [e]; exact vp_in_nI ha (by decide)
  have ec : (nI a + 1 + nI i).toNatClampNeg = a + 1 + i := by rw [e]; exact nI_clamp (by omega)
  cases b
  · refine mm_go (d := d) 10 rfl ⟨hin, trivial⟩ (mm_one ?_)
    show K (.inl none) (wC false ev un md tp ce pl wa sz fl pr rf ro (vp_updL hr (nI a + 1 + nI i).toNatClampNeg (nI v).toInt64) th r)
    rw [ec, nI_l hv]
    exact hk
  · refine mm_go (d := d) 10 rfl ⟨hin, trivial⟩ (mm_one ?_)
    show K (.inl none) (wC true ev un md tp ce pl wa sz fl pr rf ro (vp_updL hr (nI a + 1 + nI i).toNatClampNeg (nI v).toInt64) th r)
    rw [ec, nI_l hv]
    exact hk
theorem h2_wordOf (ha : a + 1 + i / 4 < 2 ^ 31) (hi : i < 2 ^ 31) (hk : K (.inl (some (.int (nI (a + 1 + i / 4))))) w) : mm_cal (d + 1) al 28 [.int (nI a), .int (nI i)] w K := by
  refine mm_go (d := d) 7 rfl trivial (mm_one ?_)
  show K (.inl (some (.int (nI a + 1 + nI i / 4)))) w
  rw [show (4 : Int32) = nI 4 from rfl, pk_div hi (by decide) (by decide), nI_1, nI_add]
  exact hk
theorem h2_shiftOf (hi : i < 2 ^ 31) (hk : K (.inl (some (.int (nI (i % 4 * 16))))) w) : mm_cal (d + 1) al 29 [.int (nI i)] w K := by
  refine mm_go (d := d) 5 rfl trivial (mm_one ?_)
  show K (.inl (some (.int ((nI i - nI i / 4 * 4) * 16)))) w
  rw [show (4 : Int32) = nI 4 from rfl, show (16 : Int32) = nI 16 from rfl, pk_rem hi (by decide) (by decide), pk_mul]
  exact hk
end
