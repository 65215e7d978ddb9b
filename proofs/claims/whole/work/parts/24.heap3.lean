section
variable {d : Nat} {al : Bool} {K : mm_K} {k1 k2 : Nat} {w r : mm_W} {b : Bool} {ev un md tp ce pl wa sz : Int32} {fl pr ro : Nat → Int32} {rf hr th : Nat → Int64} {k f t n a i : Nat}
theorem h4_add {T : Nat} (h : hdOk k f t n) (ht : k = 1 → t < 100) (hT : T + hdW k n ≤ 180001) (hk : K (.inl (some (.int (nI T)))) (wC b ev un md (nI (T + hdW k n)) (ce + cstI pr k f t n) (pl + nI (hdP k n)) wa sz fl pr rf ro (vp_updL (zer hr T (T + hdW k n)) T (lN (hdN k f t n))) th r)) :
    mm_cal (d + 5) al 25 [.ref 1, .long (lN (hdN k f t n))] (wC b ev un md (nI T) ce pl wa sz fl pr rf ro hr th r) K := by
  have hw1 : 1 ≤ hdW k n := by unfold hdW; omega
  have hin : vp_in (nI T) 180001 := vp_in_nI (by omega) (by decide)
  cases b
  · refine mm_go (d := d + 4) 7 rfl trivial (mm_one (h1_words (d := d + 2) h ?_))
    refine mm_go (d := d + 4) (w' := wC false ev un md (nI T + nI (hdW k n)) ce pl wa sz fl pr rf ro hr th r) 4 rfl trivial (mm_one (h3_addToTotals (d := d) h ht ?_))
    rw [nI_add]
    refine mm_go (d := d + 4) 6 rfl trivial (mm_one (h3_fill_f (d := d + 2) (by omega) hT ?_))
    refine mm_go (d := d + 4) (w' := wC false ev un md (nI (T + hdW k n)) (ce + cstI pr k f t n) (pl + nI (hdP k n)) wa sz fl pr rf ro (vp_updL (zer hr T (T + hdW k n)) (nI T).toNatClampNeg (lN (hdN k f t n))) th r) 6 rfl ⟨hin, trivial⟩ (mm_one ?_)
    rw [nI_clamp (by omega)]
    exact hk
  · refine mm_go (d := d + 4) 7 rfl trivial (mm_one (h1_words (d := d + 2) h ?_))
    refine mm_go (d := d + 4) (w' := wC true ev un md (nI T + nI (hdW k n)) ce pl wa sz fl pr rf ro hr th r) 4 rfl trivial (mm_one (h3_addToTotals (d := d) h ht ?_))
    rw [nI_add]
    refine mm_go (d := d + 4) 6 rfl trivial (mm_one (h3_fill_t (d := d + 2) (by omega) hT ?_))
    refine mm_go (d := d + 4) (w' := wC true ev un md (nI (T + hdW k n)) (ce + cstI pr k f t n) (pl + nI (hdP k n)) wa sz fl pr rf ro (vp_updL (zer hr T (T + hdW k n)) (nI T).toNatClampNeg (lN (hdN k f t n))) th r) 6 rfl ⟨hin, trivial⟩ (mm_one ?_)
    rw [nI_clamp (by omega)]
    exact hk
/-- the least root that holds what root q holds -/
theorem h4_least {q : Nat} (hq : q < 64) (hk : ∀ s, s ≤ q → ro s = ro q → (∀ j, j < s → ¬ ro j = ro q) → K (.inl (some (.int (nI s)))) (wC b ev un md tp ce pl wa sz fl pr rf ro hr th r)) : mm_cal (d + 1) al 23 [.ref 1, .int (nI q)] (wC b ev un md tp ce pl wa sz fl pr rf ro hr th r) K := by
  have key : ∀ (m s : Nat), q - s = m → s ≤ q → (∀ j, j < s → ¬ ro j = ro q) → mm_wp (d + 1) none al 23 K 0 0 2 [(0, .ref 1), (1, .int (nI q)), (2, .int (nI s))] [] (wC b ev un md tp ce pl wa sz fl pr rf ro hr th r) := by
    intro m
    induction m with
    | zero =>
      intro s hm hs hj
      have e : s = q := by omega
      subst e
      refine mm_go (d := d) 2 rfl trivial (mm_one ⟨fun c => ?_, fun c => ?_⟩)
      · exact mm_go (d := d) 1 rfl trivial (mm_one (hk s (Nat.le_refl _) rfl hj))
      · exact absurd ((nI_leI (by omega) (by omega)).mpr (Nat.le_refl _)) c
    | succ m ih =>
      intro s hm hs hj
      refine mm_go (d := d) 2 rfl trivial (mm_one ⟨fun c => ?_, fun c => ?_⟩)
      · exact absurd ((nI_leI (by omega) (by omega)).mp c) (by omega)
      · have i1 : vp_in (nI s) 64 := vp_in_nI (by omega) (by decide)
        have i2 : vp_in (nI q) 64 := vp_in_nI (by omega) (by decide)
        have e1 : (nI s).toNatClampNeg = s := nI_clamp (by omega)
        have e2 : (nI q).toNatClampNeg = q := nI_clamp (by omega)
        refine mm_go (d := d) (st' := [.int (ro (nI q).toNatClampNeg), .int (ro (nI s).toNatClampNeg)]) 8 rfl ⟨i1, i2, trivial⟩ (mm_one ⟨fun c => ?_, fun c => ?_⟩)
        · have c : ¬ ro (nI s).toNatClampNeg = ro (nI q).toNatClampNeg := c
          rw [e1, e2] at c
          refine mm_go (d := d) (lv' := [(0, .ref 1), (1, .int (nI q)), (2, .int (nI s + 1))]) 2 rfl trivial ?_
          rw [nI_1]
          exact ih (s + 1) (by omega) (by omega) (fun j hj' => by
            by_cases hjs : j = s
            · rw [hjs]; exact c
            · exact hj j (by omega))
        · have c : ¬ ¬ ro (nI s).toNatClampNeg = ro (nI q).toNatClampNeg := c
          rw [e1, e2] at c
          exact mm_go (d := d) 1 rfl trivial (mm_one (hk s hs (Classical.not_not.mp c) hj))
  exact mm_go (d := d) (lv' := [(0, .ref 1), (1, .int (nI q)), (2, .int (nI 0))]) 2 rfl trivial (key (q - 0) 0 rfl (Nat.zero_le _) (fun j hj => absurd hj (Nat.not_lt_zero _)))
/-- number i of the thing at a -/
def numL (g : Nat → Int64) (k a i : Nat) : Int64 := if k = 4 then ((g (a + 1 + i / 4)).toUInt64 >>> ((nI (i % 4 * 16)).toInt64.toUInt64 &&& Int64.toUInt64 63)).toInt64 &&& 65535 else g (a + 1 + i)
theorem h4_number (h : hdOk k f t n) (ha : a < 180001) (hi : i ≤ 100000) (ha4 : k = 4 → a + 1 + i / 4 < 180001) (han : ¬ k = 4 → a + 1 + i < 180001) (hh : hr a = lN (hdN k f t n)) (hk : K (.inl (some (.long (numL hr k a i)))) (wC b ev un md tp ce pl wa sz fl pr rf ro hr th r)) : mm_cal (d + 2) al 17 [.ref 1, .int (nI a), .int (nI i)] (wC b ev un md tp ce pl wa sz fl pr rf ro hr th r) K := by
  have hk8 : k < 8 := h.1
  have i1 : vp_in (nI a) 180001 := vp_in_nI (by omega) (by decide)
  have e1 : hr (nI a).toNatClampNeg = lN (hdN k f t n) := by rw [nI_clamp (by omega)]; exact hh
  have e2 : nI a + 1 + nI i = nI (a + 1 + i) := by rw [nI_1, nI_add]
  have i2 : ¬ k = 4 → vp_in (nI a + 1 + nI i) 180001 := fun c => by rw [e2]; exact vp_in_nI (han c) (by decide)
  have e3 : (nI a + 1 + nI i).toNatClampNeg = a + 1 + i := by rw [e2]; exact nI_clamp (by omega)
  have i4 : k = 4 → vp_in (nI (a + 1 + i / 4)) 180001 := fun c => vp_in_nI (ha4 c) (by decide)
  have e4 : (nI (a + 1 + i / 4)).toNatClampNeg = a + 1 + i / 4 := nI_clamp (by omega)
  unfold numL at hk
  cases b
  · refine mm_go (d := d + 1) (st' := [.long (hr (nI a).toNatClampNeg)]) 4 rfl ⟨i1, trivial⟩ ?_
    rw [e1]
    refine mm_one (h1_kind h ?_)
    refine mm_go (d := d + 1) 1 rfl trivial (mm_one ⟨fun c => ?_, fun c => ?_⟩)
    · have c4 : ¬ k = 4 := fun e => c (by rw [e]; rfl)
      rw [if_neg c4] at hk
      refine mm_go (d := d + 1) 8 rfl ⟨i2 c4, trivial⟩ (mm_one ?_)
      show K (.inl (some (.long (hr (nI a + 1 + nI i).toNatClampNeg)))) _
      rw [e3]
      exact hk
    · have c4 : k = 4 := (nI_eq (by omega) (by decide)).mp ((Classical.not_not.mp c).trans (rfl : (4 : Int32) = nI 4))
      rw [if_pos c4] at hk
      refine mm_go (d := d + 1) 4 rfl trivial (mm_one (h2_wordOf (d := d) (by omega) (by omega) ?_))
      refine mm_go (d := d + 1) 2 rfl ⟨i4 c4, trivial⟩ (mm_one (h2_shiftOf (d := d) (by omega) ?_))
      refine mm_go (d := d + 1) 3 rfl trivial (mm_one ?_)
      show K (.inl (some (.long (((hr (nI (a + 1 + i / 4)).toNatClampNeg).toUInt64 >>> ((nI (i % 4 * 16)).toInt64.toUInt64 &&& Int64.toUInt64 63)).toInt64 &&& 65535)))) _
      rw [e4]
      exact hk
  · refine mm_go (d := d + 1) (st' := [.long (hr (nI a).toNatClampNeg)]) 4 rfl ⟨i1, trivial⟩ ?_
    rw [e1]
    refine mm_one (h1_kind h ?_)
    refine mm_go (d := d + 1) 1 rfl trivial (mm_one ⟨fun c => ?_, fun c => ?_⟩)
    · have c4 : ¬ k = 4 := fun e => c (by rw [e]; rfl)
      rw [if_neg c4] at hk
      refine mm_go (d := d + 1) 8 rfl ⟨i2 c4, trivial⟩ (mm_one ?_)
      show K (.inl (some (.long (hr (nI a + 1 + nI i).toNatClampNeg)))) _
      rw [e3]
      exact hk
    · have c4 : k = 4 := (nI_eq (by omega) (by decide)).mp ((Classical.not_not.mp c).trans (rfl : (4 : Int32) = nI 4))
      rw [if_pos c4] at hk
      refine mm_go (d := d + 1) 4 rfl trivial (mm_one (h2_wordOf (d := d) (by omega) (by omega) ?_))
      refine mm_go (d := d + 1) 2 rfl ⟨i4 c4, trivial⟩ (mm_one (h2_shiftOf (d := d) (by omega) ?_))
      refine mm_go (d := d + 1) 3 rfl trivial (mm_one ?_)
      show K (.inl (some (.long (((hr (nI (a + 1 + i / 4)).toNatClampNeg).toUInt64 >>> ((nI (i % 4 * 16)).toInt64.toUInt64 &&& Int64.toUInt64 63)).toInt64 &&& 65535)))) _
      rw [e4]
      exact hk
/-- the half behind number i of the thing at a is set to v -/
def setL (g : Nat → Int64) (k a i : Nat) (v : Int64) : Nat → Int64 := if k = 4 then vp_updL g (a + 1 + i / 4) (g (a + 1 + i / 4) &&& ((65535 : Int64) <<< ((nI (i % 4 * 16)).toInt64 &&& 63) ^^^ (-1)) ||| (v &&& 65535) <<< ((nI (i % 4 * 16)).toInt64 &&& 63)) else vp_updL g (a + 1 + i) v
theorem h4_setNumber {v : Int64} (h : hdOk k f t n) (ha : a < 180001) (hi : i ≤ 100000) (ha4 : k = 4 → a + 1 + i / 4 < 180001) (han : ¬ k = 4 → a + 1 + i < 180001) (hh : hr a = lN (hdN k f t n)) (hk : K (.inl none) (wC b ev un md tp ce pl wa sz fl pr rf ro (setL hr k a i v) th r)) : mm_cal (d + 2) al 18 [.ref 1, .int (nI a), .int (nI i), .long v] (wC b ev un md tp ce pl wa sz fl pr rf ro hr th r) K := by
  have hk8 : k < 8 := h.1
  have i1 : vp_in (nI a) 180001 := vp_in_nI (by omega) (by decide)
  have e1 : hr (nI a).toNatClampNeg = lN (hdN k f t n) := by rw [nI_clamp (by omega)]; exact hh
  have e2 : nI a + 1 + nI i = nI (a + 1 + i) := by rw [nI_1, nI_add]
  have i2 : ¬ k = 4 → vp_in (nI a + 1 + nI i) 180001 := fun c => by rw [e2]; exact vp_in_nI (han c) (by decide)
  have e3 : (nI a + 1 + nI i).toNatClampNeg = a + 1 + i := by rw [e2]; exact nI_clamp (by omega)
  have i4 : k = 4 → vp_in (nI (a + 1 + i / 4)) 180001 := fun c => vp_in_nI (ha4 c) (by decide)
  have e4 : (nI (a + 1 + i / 4)).toNatClampNeg = a + 1 + i / 4 := nI_clamp (by omega)
  unfold setL at hk
  cases b
  · refine mm_go (d := d + 1) (st' := [.long (hr (nI a).toNatClampNeg)]) 4 rfl ⟨i1, trivial⟩ ?_
    rw [e1]
    refine mm_one (h1_kind h ?_)
    refine mm_go (d := d + 1) 1 rfl trivial (mm_one ⟨fun c => ?_, fun c => ?_⟩)
    · have c4 : ¬ k = 4 := fun e => c (by rw [e]; rfl)
      rw [if_neg c4] at hk
      refine mm_go (d := d + 1) (w' := wC false ev un md tp ce pl wa sz fl pr rf ro (vp_updL hr (nI a + 1 + nI i).toNatClampNeg v) th r) 9 rfl ⟨i2 c4, trivial⟩ (mm_one ?_)
      rw [e3]
      exact hk
    · have c4 : k = 4 := (nI_eq (by omega) (by decide)).mp ((Classical.not_not.mp c).trans (rfl : (4 : Int32) = nI 4))
      rw [if_pos c4] at hk
      refine mm_go (d := d + 1) 2 rfl trivial (mm_one (h2_wordOf (d := d) (by omega) (by omega) ?_))
      refine mm_go (d := d + 1) 2 rfl trivial (mm_one (h2_shiftOf (d := d) (by omega) ?_))
      refine mm_go (d := d + 1) (w' := wC false ev un md tp ce pl wa sz fl pr rf ro (vp_updL hr (nI (a + 1 + i / 4)).toNatClampNeg (hr (nI (a + 1 + i / 4)).toNatClampNeg &&& ((65535 : Int64) <<< ((nI (i % 4 * 16)).toInt64 &&& 63) ^^^ (-1)) ||| (v &&& 65535) <<< ((nI (i % 4 * 16)).toInt64 &&& 63))) th r) 22 rfl ⟨i4 c4, i4 c4, trivial⟩ (mm_one ?_)
      rw [e4]
      exact hk
  · refine mm_go (d := d + 1) (st' := [.long (hr (nI a).toNatClampNeg)]) 4 rfl ⟨i1, trivial⟩ ?_
    rw [e1]
    refine mm_one (h1_kind h ?_)
    refine mm_go (d := d + 1) 1 rfl trivial (mm_one ⟨fun c => ?_, fun c => ?_⟩)
    · have c4 : ¬ k = 4 := fun e => c (by rw [e]; rfl)
      rw [if_neg c4] at hk
      refine mm_go (d := d + 1) (w' := wC true ev un md tp ce pl wa sz fl pr rf ro (vp_updL hr (nI a + 1 + nI i).toNatClampNeg v) th r) 9 rfl ⟨i2 c4, trivial⟩ (mm_one ?_)
      rw [e3]
      exact hk
    · have c4 : k = 4 := (nI_eq (by omega) (by decide)).mp ((Classical.not_not.mp c).trans (rfl : (4 : Int32) = nI 4))
      rw [if_pos c4] at hk
      refine mm_go (d := d + 1) 2 rfl trivial (mm_one (h2_wordOf (d := d) (by omega) (by omega) ?_))
      refine mm_go (d := d + 1) 2 rfl trivial (mm_one (h2_shiftOf (d := d) (by omega) ?_))
      refine mm_go (d := d + 1) (w' := wC true ev un md tp ce pl wa sz fl pr rf ro (vp_updL hr (nI (a + 1 + i / 4)).toNatClampNeg (hr (nI (a + 1 + i / 4)).toNatClampNeg &&& ((65535 : Int64) <<< ((nI (i % 4 * 16)).toInt64 &&& 63) ^^^ (-1)) ||| (v &&& 65535) <<< ((nI (i % 4 * 16)).toInt64 &&& 63))) th r) 22 rfl ⟨i4 c4, i4 c4, trivial⟩ (mm_one ?_)
      rw [e4]
      exact hk
theorem neg_l {T : Nat} (h : T < 2 ^ 31) : (-nI T).toInt64 = -lN T := by
  apply Int64.toInt_inj.mp
  rw [Int32.toInt_toInt64, Int64.toInt_neg, sb_negT h, pk_lT (by omega)]
  symm
  exact Int.bmod_eq_of_le (by omega) (by omega)
/-- a reference that is none stays none -/
theorem h4_moved0 (hk : K (.inl (some (.int (nI 0)))) (wC b ev un md tp ce pl wa sz fl pr rf ro hr th r)) : mm_cal (d + 1) al 31 [.ref 1, .int (nI 0)] (wC b ev un md tp ce pl wa sz fl pr rf ro hr th r) K := by
  refine mm_go (d := d) 1 rfl trivial (mm_one ⟨fun c => ?_, fun c => ?_⟩)
  · exact absurd (show nI 0 = 0 from rfl) c
  · exact mm_go (d := d) 1 rfl trivial (mm_one hk)
/-- a thing that has gone ahead -/
theorem h4_moved1 {q : Nat} (ha0 : 0 < a) (ha : a < 180001) (hq0 : 0 < q) (hq : q < 2 ^ 31) (hh : th a = -lN q) (hk : K (.inl (some (.int (nI q)))) (wC b ev un md tp ce pl wa sz fl pr rf ro hr th r)) : mm_cal (d + 1) al 31 [.ref 1, .int (nI a)] (wC b ev un md tp ce pl wa sz fl pr rf ro hr th r) K := by
  have i1 : vp_in (nI a) 180001 := vp_in_nI (by omega) (by decide)
  have e1 : th (nI a).toNatClampNeg = -lN q := by rw [nI_clamp (by omega)]; exact hh
  have hneg : -lN q < 0 := by
    apply Int64.lt_iff_toInt_lt.mpr
    rw [Int64.toInt_neg, pk_lT (by omega), Int.bmod_eq_of_le (by omega) (by omega)]
    show -(q : Int) < 0
    omega
  have hcmp : ¬ 0 ≤ lg_cmp (-lN q) 0 := fun h => absurd ((lg_cmp_ge _ _).mp h) (Int64.not_le.mpr hneg)
  have hres : (- -lN q).toInt32 = nI q := by rw [Int64.neg_neg, lN_i]
  refine mm_go (d := d) 1 rfl trivial (mm_one ⟨fun c => ?_, fun c => ?_⟩)
  · cases b
    · refine mm_go (d := d) (st' := [.int (lg_cmp (th (nI a).toNatClampNeg) 0)]) (lv' := [(0, .ref 1), (1, .int (nI a)), (2, .long (th (nI a).toNatClampNeg))]) 8 rfl ⟨i1, trivial⟩ ?_
      rw [e1]
      refine mm_one ⟨fun c => absurd c hcmp, fun c => ?_⟩
      refine mm_go (d := d) (st' := [.int ((- -lN q).toInt32)]) 3 rfl trivial ?_
      rw [hres]
      exact mm_one hk
    · refine mm_go (d := d) (st' := [.int (lg_cmp (th (nI a).toNatClampNeg) 0)]) (lv' := [(0, .ref 1), (1, .int (nI a)), (2, .long (th (nI a).toNatClampNeg))]) 8 rfl ⟨i1, trivial⟩ ?_
      rw [e1]
      refine mm_one ⟨fun c => absurd c hcmp, fun c => ?_⟩
      refine mm_go (d := d) (st' := [.int ((- -lN q).toInt32)]) 3 rfl trivial ?_
      rw [hres]
      exact mm_one hk
  · exact absurd (Classical.not_not.mp c) (nI_ne0 ha0 (by omega))
/-- a thing that is moved now -/
theorem h4_moved2 {T : Nat} (h : hdOk k f t n) (ha0 : 0 < a) (ha : a + hdW k n ≤ 180001) (hT : T + hdW k n ≤ 180001) (hh : th a = lN (hdN k f t n))
    (hk : K (.inl (some (.int (nI T)))) (wC b ev un md (nI (T + hdW k n)) ce pl wa sz fl pr rf ro (va_cpy th hr a T (hdW k n)) (vp_updL th a (-lN T)) r)) : mm_cal (d + 3) al 31 [.ref 1, .int (nI a)] (wC b ev un md (nI T) ce pl wa sz fl pr rf ro hr th r) K := by
  have hw1 : 1 ≤ hdW k n := by unfold hdW; omega
  have hlt := hdN_lt h
  have i1 : vp_in (nI a) 180001 := vp_in_nI (by omega) (by decide)
  have e0 : (nI a).toNatClampNeg = a := nI_clamp (by omega)
  have e1 : th (nI a).toNatClampNeg = lN (hdN k f t n) := by rw [e0]; exact hh
  have eT : (nI T).toNatClampNeg = T := nI_clamp (by omega)
  have eW : (nI (hdW k n)).toNatClampNeg = hdW k n := nI_clamp (by omega)
  have hcmp : 0 ≤ lg_cmp (lN (hdN k f t n)) 0 := (lg_cmp_ge _ _).mpr (by
    rw [show (0 : Int64) = lN 0 from rfl]
    exact (pk_lLE (by decide) (by omega)).mpr (Nat.zero_le _))
  refine mm_go (d := d + 2) 1 rfl trivial (mm_one ⟨fun c => ?_, fun c => ?_⟩)
  · cases b
    · refine mm_go (d := d + 2) (st' := [.int (lg_cmp (th (nI a).toNatClampNeg) 0)]) (lv' := [(0, .ref 1), (1, .int (nI a)), (2, .long (th (nI a).toNatClampNeg))]) 8 rfl ⟨i1, trivial⟩ ?_
      rw [e1]
      refine mm_one ⟨fun c => ?_, fun c => absurd hcmp c⟩
      refine mm_go (d := d + 2) 1 rfl trivial (mm_one (h1_words (d := d) h ?_))
      refine mm_go (d := d + 2) (lv' := [(0, .ref 1), (1, .int (nI a)), (2, .long (lN (hdN k f t n))), (4, .int (nI (hdW k n))), (5, .int (nI T))]) 11 rfl trivial ?_
      refine mm_one ⟨nI_pos (by omega), nI_pos (by omega), nI_pos (by omega), by rw [e0, eW]; exact ha, by rw [eT, eW]; exact hT, ?_⟩
      refine mm_go (d := d + 2) (st' := [.int (nI T)]) (w' := wC false ev un md (nI T + nI (hdW k n)) ce pl wa sz fl pr rf ro (va_cpy th hr (nI a).toNatClampNeg (nI T).toNatClampNeg (nI (hdW k n)).toNatClampNeg) (vp_updL th (nI a).toNatClampNeg (-nI T).toInt64) r) 14 rfl ⟨i1, trivial⟩ ?_
      rw [e0, eT, eW, nI_add, neg_l (by omega)]
      exact mm_one hk
    · refine mm_go (d := d + 2) (st' := [.int (lg_cmp (th (nI a).toNatClampNeg) 0)]) (lv' := [(0, .ref 1), (1, .int (nI a)), (2, .long (th (nI a).toNatClampNeg))]) 8 rfl ⟨i1, trivial⟩ ?_
      rw [e1]
      refine mm_one ⟨fun c => ?_, fun c => absurd hcmp c⟩
      refine mm_go (d := d + 2) 1 rfl trivial (mm_one (h1_words (d := d) h ?_))
      refine mm_go (d := d + 2) (lv' := [(0, .ref 1), (1, .int (nI a)), (2, .long (lN (hdN k f t n))), (4, .int (nI (hdW k n))), (5, .int (nI T))]) 11 rfl trivial ?_
      refine mm_one ⟨nI_pos (by omega), nI_pos (by omega), nI_pos (by omega), by rw [e0, eW]; exact ha, by rw [eT, eW]; exact hT, ?_⟩
      refine mm_go (d := d + 2) (st' := [.int (nI T)]) (w' := wC true ev un md (nI T + nI (hdW k n)) ce pl wa sz fl pr rf ro (va_cpy th hr (nI a).toNatClampNeg (nI T).toNatClampNeg (nI (hdW k n)).toNatClampNeg) (vp_updL th (nI a).toNatClampNeg (-nI T).toInt64) r) 14 rfl ⟨i1, trivial⟩ ?_
      rw [e0, eT, eW, nI_add, neg_l (by omega)]
      exact mm_one hk
  · exact absurd (Classical.not_not.mp c) (nI_ne0 ha0 (by omega))
end
