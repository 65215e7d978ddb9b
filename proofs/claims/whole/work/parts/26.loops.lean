/-- the new address q of the thing at a, and the halves behind the asking -/
def Mv (T : Nat) (hr th : Nat → Int64) (a T' : Nat) (hr' th' : Nat → Int64) (q : Nat) : Prop :=
  (a = 0 ∧ q = 0 ∧ T' = T ∧ hr' = hr ∧ th' = th) ∨
  (0 < a ∧ a < 180001 ∧ 0 < q ∧ q < 2 ^ 31 ∧ th a = -lN q ∧ T' = T ∧ hr' = hr ∧ th' = th) ∨
  (∃ k f t n, hdOk k f t n ∧ 0 < a ∧ a + hdW k n ≤ 180001 ∧ T + hdW k n ≤ 180001 ∧ th a = lN (hdN k f t n) ∧ q = T ∧ T' = T + hdW k n ∧ hr' = va_cpy th hr a T (hdW k n) ∧ th' = vp_updL th a (-lN T))
/-- a look at address a, where T is the top: never at what is no thing -/
def La (T : Nat) (th : Nat → Int64) (wa a : Nat) (th' : Nat → Int64) (wa' : Nat) : Prop :=
  (a = 0 ∧ th' = th ∧ wa' = wa) ∨
  (0 < a ∧ a < T ∧ ¬ th a = 0 ∧ ¬ th a = 1 ∧ th' = th ∧ wa' = wa) ∨
  (0 < a ∧ a < T ∧ th a = 1 ∧ th' = vp_updL th a (lN (2 + 4 * wa)) ∧ wa' = a)
/-- how many places of such a thing may be references -/
def refC (k n : Nat) : Nat := if hdR k = 0 then 0 else n
theorem seenL {wa : Nat} (h : wa < 2 ^ 31) : (2 : Int64) ||| (nI wa).toInt64 <<< ((2 : Int32).toInt64 &&& 63) = lN (2 + 4 * wa) := by
  rw [nI_l h, show (2 : Int32) = nI 2 from rfl, wb_shl wa (by decide), show (2 : Int64) = lN 2 from rfl, wb_or (by decide) (by omega)]
  congr 1
  rw [show wa * 2 ^ 2 = 2 ^ 2 * wa from Nat.mul_comm _ _, Nat.or_comm, ← Nat.two_pow_add_eq_or_of_lt (by decide : 2 < 2 ^ 2)]
  omega
section
variable {d : Nat} {al : Bool} {K : mm_K} {k1 k2 : Nat} {w r : mm_W} {b : Bool} {ev un md tp ce pl wa sz : Int32} {fl pr ro : Nat → Int32} {rf hr th : Nat → Int64} {k f t n a i : Nat}
theorem h6_moved {T T' q : Nat} {hr' th' : Nat → Int64} (hm : Mv T hr th a T' hr' th' q) (hk : K (.inl (some (.int (nI q)))) (wC b ev un md (nI T') ce pl wa sz fl pr rf ro hr' th' r)) : mm_cal (d + 3) al 31 [.ref 1, .int (nI a)] (wC b ev un md (nI T) ce pl wa sz fl pr rf ro hr th r) K := by
  rcases hm with ⟨rfl, rfl, rfl, rfl, rfl⟩ | ⟨h1, h2, h3, h4, h5, rfl, rfl, rfl⟩ | ⟨k, f, t, n, h, h1, h2, h3, h4, rfl, rfl, rfl, rfl⟩
  · exact h4_moved0 (d := d + 2) hk
  · exact h4_moved1 (d := d + 2) h1 h2 h3 h4 h5 hk
  · exact h4_moved2 h h1 h2 h3 h4 hk
theorem h6_reference {x : Nat} (ha : a + 1 + i < 180001) (hx : hr (a + 1 + i) = lN x) (hk : K (.inl (some (.int (nI x)))) (wC b ev un md tp ce pl wa sz fl pr rf ro hr th r)) : mm_cal (d + 1) al 19 [.ref 1, .int (nI a), .int (nI i)] (wC b ev un md tp ce pl wa sz fl pr rf ro hr th r) K := by
  refine h2_reference ha ?_
  rw [hx, lN_i]
  exact hk
theorem h6_lookAt {T x x' : Nat} {th' : Nat → Int64} (hT : T ≤ 180001) (hx : x < 2 ^ 31) (hl : La T th x a th' x') (hk : K (.inl (some (.int (nI 0)))) (wC b ev un md (nI T) ce pl (nI x') sz fl pr rf ro hr th' r)) : mm_cal (d + 1) al 34 [.ref 1, .int (nI a)] (wC b ev un md (nI T) ce pl (nI x) sz fl pr rf ro hr th r) K := by
  rcases hl with ⟨rfl, rfl, rfl⟩ | ⟨h1, h2, h3, h4, e5, e6⟩ | ⟨h1, h2, h3, e5, e6⟩
  · refine mm_go (d := d) 1 rfl trivial (mm_one ⟨fun c => ?_, fun c => ?_⟩)
    · exact absurd (show nI 0 = 0 from rfl) c
    · exact mm_go (d := d) 1 rfl trivial (mm_one hk)
  · rw [e5, e6] at hk
    have i1 : vp_in (nI a) 180001 := vp_in_nI (by omega) (by decide)
    have e1 : (nI a).toNatClampNeg = a := nI_clamp (by omega)
    refine mm_go (d := d) 1 rfl trivial (mm_one ⟨fun c => ?_, fun c => ?_⟩)
    · refine mm_go (d := d) 2 rfl trivial (mm_one ⟨fun c => ?_, fun c => ?_⟩)
      · exact absurd ((nI_ltI (b := 1) (by omega) (by decide)).mp c) (by omega)
      · refine mm_go (d := d) 3 rfl trivial (mm_one ⟨fun c => ?_, fun c => ?_⟩)
        · exact absurd ((nI_leI (by omega) (by omega)).mp c) (by omega)
        · cases b
          · refine mm_go (d := d) (st' := [.int (lg_cmp (th (nI a).toNatClampNeg) 0)]) 6 rfl ⟨i1, trivial⟩ ?_
            rw [e1]
            refine mm_one ⟨fun c => ?_, fun c => ?_⟩
            · refine mm_go (d := d) (st' := [.int (lg_cmp (th (nI a).toNatClampNeg) 1)]) 6 rfl ⟨i1, trivial⟩ ?_
              rw [e1]
              refine mm_one ⟨fun c => ?_, fun c => ?_⟩
              · exact mm_go (d := d) 1 rfl trivial (mm_one hk)
              · exact absurd ((lg_cmp_eq _ _).mp (Classical.not_not.mp c)) h4
            · exact absurd ((lg_cmp_eq _ _).mp (Classical.not_not.mp c)) h3
          · refine mm_go (d := d) (st' := [.int (lg_cmp (th (nI a).toNatClampNeg) 0)]) 6 rfl ⟨i1, trivial⟩ ?_
            rw [e1]
            refine mm_one ⟨fun c => ?_, fun c => ?_⟩
            · refine mm_go (d := d) (st' := [.int (lg_cmp (th (nI a).toNatClampNeg) 1)]) 6 rfl ⟨i1, trivial⟩ ?_
              rw [e1]
              refine mm_one ⟨fun c => ?_, fun c => ?_⟩
              · exact mm_go (d := d) 1 rfl trivial (mm_one hk)
              · exact absurd ((lg_cmp_eq _ _).mp (Classical.not_not.mp c)) h4
            · exact absurd ((lg_cmp_eq _ _).mp (Classical.not_not.mp c)) h3
    · exact absurd (Classical.not_not.mp c) (nI_ne0 h1 (by omega))
  · rw [e5, e6] at hk
    have i1 : vp_in (nI a) 180001 := vp_in_nI (by omega) (by decide)
    have e1 : (nI a).toNatClampNeg = a := nI_clamp (by omega)
    refine mm_go (d := d) 1 rfl trivial (mm_one ⟨fun c => ?_, fun c => ?_⟩)
    · refine mm_go (d := d) 2 rfl trivial (mm_one ⟨fun c => ?_, fun c => ?_⟩)
      · exact absurd ((nI_ltI (b := 1) (by omega) (by decide)).mp c) (by omega)
      · refine mm_go (d := d) 3 rfl trivial (mm_one ⟨fun c => ?_, fun c => ?_⟩)
        · exact absurd ((nI_leI (by omega) (by omega)).mp c) (by omega)
        · cases b
          · refine mm_go (d := d) (st' := [.int (lg_cmp (th (nI a).toNatClampNeg) 0)]) 6 rfl ⟨i1, trivial⟩ ?_
            rw [e1]
            refine mm_one ⟨fun c => ?_, fun c => ?_⟩
            · refine mm_go (d := d) (st' := [.int (lg_cmp (th (nI a).toNatClampNeg) 1)]) 6 rfl ⟨i1, trivial⟩ ?_
              rw [e1]
              refine mm_one ⟨fun c => ?_, fun c => ?_⟩
              · exact absurd ((lg_cmp_eq _ _).mpr h3) c
              · refine mm_go (d := d) (st' := [.int (nI 0)]) (w' := (wC false ev un md (nI T) ce pl (nI a) sz fl pr rf ro hr (vp_updL th (nI a).toNatClampNeg ((2 : Int64) ||| (nI x).toInt64 <<< ((2 : Int32).toInt64 &&& 63))) r)) 15 rfl ⟨i1, trivial⟩ ?_
                rw [e1, seenL hx]
                exact mm_one hk
            · exact absurd (h3.symm.trans ((lg_cmp_eq _ _).mp (Classical.not_not.mp c))) (by decide)
          · refine mm_go (d := d) (st' := [.int (lg_cmp (th (nI a).toNatClampNeg) 0)]) 6 rfl ⟨i1, trivial⟩ ?_
            rw [e1]
            refine mm_one ⟨fun c => ?_, fun c => ?_⟩
            · refine mm_go (d := d) (st' := [.int (lg_cmp (th (nI a).toNatClampNeg) 1)]) 6 rfl ⟨i1, trivial⟩ ?_
              rw [e1]
              refine mm_one ⟨fun c => ?_, fun c => ?_⟩
              · exact absurd ((lg_cmp_eq _ _).mpr h3) c
              · refine mm_go (d := d) (st' := [.int (nI 0)]) (w' := (wC true ev un md (nI T) ce pl (nI a) sz fl pr rf ro hr (vp_updL th (nI a).toNatClampNeg ((2 : Int64) ||| (nI x).toInt64 <<< ((2 : Int32).toInt64 &&& 63))) r)) 15 rfl ⟨i1, trivial⟩ ?_
                rw [e1, seenL hx]
                exact mm_one hk
            · exact absurd (h3.symm.trans ((lg_cmp_eq _ _).mp (Classical.not_not.mp c))) (by decide)
    · exact absurd (Classical.not_not.mp c) (nI_ne0 h1 (by omega))
theorem h6_refer_fL {Inv : Nat → Nat → (Nat → Int64) → (Nat → Int64) → Prop} {c : Nat} (h : hdOk k f t n) (h1 : k = 1 → t < 100 ∧ c ≤ 64) (h5 : k = 5 → c ≤ 32) (hc : c ≤ 100000) (ha : a + 1 + c ≤ 180001)
    (hs : ∀ i T hr th, i < c → Inv i T hr th → (hr (a + 1 + i) = 0 ∨ isrN rf k t i = 0 → Inv (i + 1) T hr th) ∧ (¬ hr (a + 1 + i) = 0 → ¬ isrN rf k t i = 0 → ∃ x q T' hr' th', q < 2 ^ 31 ∧ hr (a + 1 + i) = lN x ∧ Mv T hr th x T' hr' th' q ∧ Inv (i + 1) T' (vp_updL hr' (a + 1 + i) (lN q)) th'))
    (hk : ∀ T hr th, Inv c T hr th → K (.inl none) (wC false ev un md (nI T) ce pl wa sz fl pr rf ro hr th r)) :
    ∀ (m i T : Nat) (hr th : Nat → Int64), c - i = m → i ≤ c → Inv i T hr th → mm_wp (d + 4) none al 32 K 0 0 27 [(0, .ref 1), (1, .int (nI a)), (2, .long (lN (hdN k f t n))), (4, .int (nI c)), (5, .int (nI i))] [] (wC false ev un md (nI T) ce pl wa sz fl pr rf ro hr th r) := by
  intro m
  induction m with
  | zero =>
    intro i T hr th hm hi hI
    have e : i = c := by omega
    subst e
    refine mm_go (d := d + 3) 2 rfl trivial (mm_one ⟨fun u => ?_, fun u => ?_⟩)
    · exact mm_one (hk T hr th hI)
    · exact absurd ((nI_leI (by omega) (by omega)).mpr (Nat.le_refl _)) u
  | succ m ih =>
    intro i T hr th hm hi hI
    have e2 : nI a + 1 + nI i = nI (a + 1 + i) := by rw [nI_1, nI_add]
    have i2 : vp_in (nI a + 1 + nI i) 180001 := by rw [e2]; exact vp_in_nI (by omega) (by decide)
    have e3 : (nI a + 1 + nI i).toNatClampNeg = a + 1 + i := by rw [e2]; exact nI_clamp (by omega)
    have hi' := hs i T hr th (by omega) hI
    refine mm_go (d := d + 3) 2 rfl trivial (mm_one ⟨fun u => ?_, fun u => ?_⟩)
    · exact absurd ((nI_leI (by omega) (by omega)).mp u) (by omega)
    · refine mm_go (d := d + 3) (st' := [.int (lg_cmp (hr (nI a + 1 + nI i).toNatClampNeg) 0)]) 10 rfl ⟨i2, trivial⟩ ?_
      rw [e3]
      refine mm_one ⟨fun z => ?_, fun z => ?_⟩
      · refine mm_go (d := d + 3) (lv' := [(0, .ref 1), (1, .int (nI a)), (2, .long (lN (hdN k f t n))), (4, .int (nI c)), (5, .int (nI i + 1))]) 2 rfl trivial ?_
        rw [nI_1]
        exact ih (i + 1) T hr th (by omega) (by omega) (hi'.1 (Or.inl ((lg_cmp_eq _ _).mp z)))
      · refine mm_go (d := d + 3) 3 rfl trivial (mm_one (h2_isReference (d := d + 1) h (fun e => ⟨(h1 e).1, by have := (h1 e).2; omega⟩) (fun e => by have := h5 e; omega) ?_))
        have hb : isrN rf k t i < 2 := by unfold isrN; split <;> (try split) <;> (try split) <;> omega
        refine mm_one ⟨fun y => ?_, fun y => ?_⟩
        · refine mm_go (d := d + 3) (lv' := [(0, .ref 1), (1, .int (nI a)), (2, .long (lN (hdN k f t n))), (4, .int (nI c)), (5, .int (nI i + 1))]) 2 rfl trivial ?_
          rw [nI_1]
          exact ih (i + 1) T hr th (by omega) (by omega) (hi'.1 (Or.inr ((nI_eq (by omega) (by decide)).mp (show nI (isrN rf k t i) = nI 0 from y))))
        · obtain ⟨x, q, T', hr', th', hq, ex, hv, hI'⟩ := hi'.2 (fun e => z ((lg_cmp_eq _ _).mpr e)) (fun e => y (show nI (isrN rf k t i) = nI 0 by rw [e]))
          refine mm_go (d := d + 3) 7 rfl trivial (mm_one (h6_reference (d := d + 2) (by omega) ex ?_))
          refine mm_one (h6_moved (d := d) hv ?_)
          refine mm_one (h2_setReference (d := d + 2) (by omega) hq ?_)
          refine mm_go (d := d + 3) (lv' := [(0, .ref 1), (1, .int (nI a)), (2, .long (lN (hdN k f t n))), (4, .int (nI c)), (5, .int (nI i + 1))]) 2 rfl trivial ?_
          rw [nI_1]
          exact ih (i + 1) T' _ th' (by omega) (by omega) hI'
theorem h6_refer_tL {Inv : Nat → Nat → (Nat → Int64) → (Nat → Int64) → Prop} {c : Nat} (h : hdOk k f t n) (h1 : k = 1 → t < 100 ∧ c ≤ 64) (h5 : k = 5 → c ≤ 32) (hc : c ≤ 100000) (ha : a + 1 + c ≤ 180001)
    (hs : ∀ i T hr th, i < c → Inv i T hr th → (hr (a + 1 + i) = 0 ∨ isrN rf k t i = 0 → Inv (i + 1) T hr th) ∧ (¬ hr (a + 1 + i) = 0 → ¬ isrN rf k t i = 0 → ∃ x q T' hr' th', q < 2 ^ 31 ∧ hr (a + 1 + i) = lN x ∧ Mv T hr th x T' hr' th' q ∧ Inv (i + 1) T' (vp_updL hr' (a + 1 + i) (lN q)) th'))
    (hk : ∀ T hr th, Inv c T hr th → K (.inl none) (wC true ev un md (nI T) ce pl wa sz fl pr rf ro hr th r)) :
    ∀ (m i T : Nat) (hr th : Nat → Int64), c - i = m → i ≤ c → Inv i T hr th → mm_wp (d + 4) none al 32 K 0 0 27 [(0, .ref 1), (1, .int (nI a)), (2, .long (lN (hdN k f t n))), (4, .int (nI c)), (5, .int (nI i))] [] (wC true ev un md (nI T) ce pl wa sz fl pr rf ro hr th r) := by
  intro m
  induction m with
  | zero =>
    intro i T hr th hm hi hI
    have e : i = c := by omega
    subst e
    refine mm_go (d := d + 3) 2 rfl trivial (mm_one ⟨fun u => ?_, fun u => ?_⟩)
    · exact mm_one (hk T hr th hI)
    · exact absurd ((nI_leI (by omega) (by omega)).mpr (Nat.le_refl _)) u
  | succ m ih =>
    intro i T hr th hm hi hI
    have e2 : nI a + 1 + nI i = nI (a + 1 + i) := by rw [nI_1, nI_add]
    have i2 : vp_in (nI a + 1 + nI i) 180001 := by rw [e2]; exact vp_in_nI (by omega) (by decide)
    have e3 : (nI a + 1 + nI i).toNatClampNeg = a + 1 + i := by rw [e2]; exact nI_clamp (by omega)
    have hi' := hs i T hr th (by omega) hI
    refine mm_go (d := d + 3) 2 rfl trivial (mm_one ⟨fun u => ?_, fun u => ?_⟩)
    · exact absurd ((nI_leI (by omega) (by omega)).mp u) (by omega)
    · refine mm_go (d := d + 3) (st' := [.int (lg_cmp (hr (nI a + 1 + nI i).toNatClampNeg) 0)]) 10 rfl ⟨i2, trivial⟩ ?_
      rw [e3]
      refine mm_one ⟨fun z => ?_, fun z => ?_⟩
      · refine mm_go (d := d + 3) (lv' := [(0, .ref 1), (1, .int (nI a)), (2, .long (lN (hdN k f t n))), (4, .int (nI c)), (5, .int (nI i + 1))]) 2 rfl trivial ?_
        rw [nI_1]
        exact ih (i + 1) T hr th (by omega) (by omega) (hi'.1 (Or.inl ((lg_cmp_eq _ _).mp z)))
      · refine mm_go (d := d + 3) 3 rfl trivial (mm_one (h2_isReference (d := d + 1) h (fun e => ⟨(h1 e).1, by have := (h1 e).2; omega⟩) (fun e => by have := h5 e; omega) ?_))
        have hb : isrN rf k t i < 2 := by unfold isrN; split <;> (try split) <;> (try split) <;> omega
        refine mm_one ⟨fun y => ?_, fun y => ?_⟩
        · refine mm_go (d := d + 3) (lv' := [(0, .ref 1), (1, .int (nI a)), (2, .long (lN (hdN k f t n))), (4, .int (nI c)), (5, .int (nI i + 1))]) 2 rfl trivial ?_
          rw [nI_1]
          exact ih (i + 1) T hr th (by omega) (by omega) (hi'.1 (Or.inr ((nI_eq (by omega) (by decide)).mp (show nI (isrN rf k t i) = nI 0 from y))))
        · obtain ⟨x, q, T', hr', th', hq, ex, hv, hI'⟩ := hi'.2 (fun e => z ((lg_cmp_eq _ _).mpr e)) (fun e => y (show nI (isrN rf k t i) = nI 0 by rw [e]))
          refine mm_go (d := d + 3) 7 rfl trivial (mm_one (h6_reference (d := d + 2) (by omega) ex ?_))
          refine mm_one (h6_moved (d := d) hv ?_)
          refine mm_one (h2_setReference (d := d + 2) (by omega) hq ?_)
          refine mm_go (d := d + 3) (lv' := [(0, .ref 1), (1, .int (nI a)), (2, .long (lN (hdN k f t n))), (4, .int (nI c)), (5, .int (nI i + 1))]) 2 rfl trivial ?_
          rw [nI_1]
          exact ih (i + 1) T' _ th' (by omega) (by omega) hI'
theorem h6_refer {Inv : Nat → Nat → (Nat → Int64) → (Nat → Int64) → Prop} {T : Nat} (h : hdOk k f t n) (h1 : k = 1 → t < 100 ∧ n ≤ 64) (h5 : k = 5 → n ≤ 32) (ha : a + 1 + refC k n ≤ 180001) (hh : hr a = lN (hdN k f t n)) (h0 : Inv 0 T hr th)
    (hs : ∀ i T hr th, i < refC k n → Inv i T hr th → (hr (a + 1 + i) = 0 ∨ isrN rf k t i = 0 → Inv (i + 1) T hr th) ∧ (¬ hr (a + 1 + i) = 0 → ¬ isrN rf k t i = 0 → ∃ x q T' hr' th', q < 2 ^ 31 ∧ hr (a + 1 + i) = lN x ∧ Mv T hr th x T' hr' th' q ∧ Inv (i + 1) T' (vp_updL hr' (a + 1 + i) (lN q)) th'))
    (hk : ∀ T hr th, Inv (refC k n) T hr th → K (.inl none) (wC b ev un md (nI T) ce pl wa sz fl pr rf ro hr th r)) : mm_cal (d + 4) al 32 [.ref 1, .int (nI a)] (wC b ev un md (nI T) ce pl wa sz fl pr rf ro hr th r) K := by
  have hn : n ≤ 100000 := h.2.2.2
  have i1 : vp_in (nI a) 180001 := vp_in_nI (by omega) (by decide)
  have e1 : hr (nI a).toNatClampNeg = lN (hdN k f t n) := by rw [nI_clamp (by omega)]; exact hh
  have hR : hdR k < 2 := by unfold hdR; split <;> omega
  cases b
  · refine mm_go (d := d + 3) (st' := [.long (hr (nI a).toNatClampNeg)]) (lv' := [(0, .ref 1), (1, .int (nI a)), (2, .long (hr (nI a).toNatClampNeg))]) 6 rfl ⟨i1, trivial⟩ ?_
    rw [e1]
    refine mm_one (h1_mayRefer (d := d + 1) h ?_)
    refine mm_one ⟨fun y => ?_, fun y => ?_⟩
    · have y0 : hdR k = 0 := (nI_eq (by omega) (by decide)).mp (show nI (hdR k) = nI 0 from y)
      have eC : refC k n = 0 := if_pos y0
      rw [eC] at hs hk ha
      exact mm_go (d := d + 3) (lv' := [(0, .ref 1), (1, .int (nI a)), (2, .long (lN (hdN k f t n))), (4, .int (nI 0)), (5, .int (nI 0))]) 4 rfl trivial (h6_refer_fL (d := d) (al := al) h (fun e => ⟨(h1 e).1, by omega⟩) (fun e => by omega) (by omega) ha hs hk _ 0 T hr th rfl (Nat.le_refl _) h0)
    · have y0 : ¬ hdR k = 0 := fun e => y (show nI (hdR k) = nI 0 by rw [e])
      have eC : refC k n = n := if_neg y0
      rw [eC] at hs hk ha
      refine mm_go (d := d + 3) 1 rfl trivial (mm_one (h1_count h ?_))
      exact mm_go (d := d + 3) (lv' := [(0, .ref 1), (1, .int (nI a)), (2, .long (lN (hdN k f t n))), (4, .int (nI n)), (5, .int (nI 0))]) 4 rfl trivial (h6_refer_fL (d := d) (al := al) h h1 h5 hn ha hs hk _ 0 T hr th rfl (Nat.zero_le _) h0)
  · refine mm_go (d := d + 3) (st' := [.long (hr (nI a).toNatClampNeg)]) (lv' := [(0, .ref 1), (1, .int (nI a)), (2, .long (hr (nI a).toNatClampNeg))]) 6 rfl ⟨i1, trivial⟩ ?_
    rw [e1]
    refine mm_one (h1_mayRefer (d := d + 1) h ?_)
    refine mm_one ⟨fun y => ?_, fun y => ?_⟩
    · have y0 : hdR k = 0 := (nI_eq (by omega) (by decide)).mp (show nI (hdR k) = nI 0 from y)
      have eC : refC k n = 0 := if_pos y0
      rw [eC] at hs hk ha
      exact mm_go (d := d + 3) (lv' := [(0, .ref 1), (1, .int (nI a)), (2, .long (lN (hdN k f t n))), (4, .int (nI 0)), (5, .int (nI 0))]) 4 rfl trivial (h6_refer_tL (d := d) (al := al) h (fun e => ⟨(h1 e).1, by omega⟩) (fun e => by omega) (by omega) ha hs hk _ 0 T hr th rfl (Nat.le_refl _) h0)
    · have y0 : ¬ hdR k = 0 := fun e => y (show nI (hdR k) = nI 0 by rw [e])
      have eC : refC k n = n := if_neg y0
      rw [eC] at hs hk ha
      refine mm_go (d := d + 3) 1 rfl trivial (mm_one (h1_count h ?_))
      exact mm_go (d := d + 3) (lv' := [(0, .ref 1), (1, .int (nI a)), (2, .long (lN (hdN k f t n))), (4, .int (nI n)), (5, .int (nI 0))]) 4 rfl trivial (h6_refer_tL (d := d) (al := al) h h1 h5 hn ha hs hk _ 0 T hr th rfl (Nat.zero_le _) h0)
theorem h6_behind_fL {Inv : Nat → (Nat → Int64) → Nat → Prop} {c T : Nat} (hT : T ≤ 180001) (h : hdOk k f t n) (h1 : k = 1 → t < 100 ∧ c ≤ 64) (h5 : k = 5 → c ≤ 32) (hc : c ≤ 100000) (ha : a + 1 + c ≤ 180001)
    (hs : ∀ i th x, i < c → Inv i th x → (hr (a + 1 + i) = 0 ∨ isrN rf k t i = 0 → Inv (i + 1) th x) ∧ (¬ hr (a + 1 + i) = 0 → ¬ isrN rf k t i = 0 → ∃ y th' x', x < 2 ^ 31 ∧ hr (a + 1 + i) = lN y ∧ La T th x y th' x' ∧ Inv (i + 1) th' x'))
    (hk : ∀ th x, Inv c th x → K (.inl (some (.int (nI 0)))) (wC false ev un md (nI T) ce pl (nI x) sz fl pr rf ro hr th r)) :
    ∀ (m i : Nat) (th : Nat → Int64) (x : Nat), c - i = m → i ≤ c → Inv i th x → mm_wp (d + 4) none al 35 K 0 0 30 [(0, .ref 1), (1, .int (nI a)), (2, .long (lN (hdN k f t n))), (4, .int (nI c)), (5, .int (nI 0)), (6, .int (nI i))] [] (wC false ev un md (nI T) ce pl (nI x) sz fl pr rf ro hr th r) := by
  intro m
  induction m with
  | zero =>
    intro i th x hm hi hI
    have e : i = c := by omega
    subst e
    refine mm_go (d := d + 3) 2 rfl trivial (mm_one ⟨fun u => ?_, fun u => ?_⟩)
    · exact mm_go (d := d + 3) 1 rfl trivial (mm_one (hk th x hI))
    · exact absurd ((nI_leI (by omega) (by omega)).mpr (Nat.le_refl _)) u
  | succ m ih =>
    intro i th x hm hi hI
    have e2 : nI a + 1 + nI i = nI (a + 1 + i) := by rw [nI_1, nI_add]
    have i2 : vp_in (nI a + 1 + nI i) 180001 := by rw [e2]; exact vp_in_nI (by omega) (by decide)
    have e3 : (nI a + 1 + nI i).toNatClampNeg = a + 1 + i := by rw [e2]; exact nI_clamp (by omega)
    have hi' := hs i th x (by omega) hI
    refine mm_go (d := d + 3) 2 rfl trivial (mm_one ⟨fun u => ?_, fun u => ?_⟩)
    · exact absurd ((nI_leI (by omega) (by omega)).mp u) (by omega)
    · refine mm_go (d := d + 3) (st' := [.int (lg_cmp (hr (nI a + 1 + nI i).toNatClampNeg) 0)]) 10 rfl ⟨i2, trivial⟩ ?_
      rw [e3]
      refine mm_one ⟨fun z => ?_, fun z => ?_⟩
      · refine mm_go (d := d + 3) (lv' := [(0, .ref 1), (1, .int (nI a)), (2, .long (lN (hdN k f t n))), (4, .int (nI c)), (5, .int (nI 0)), (6, .int (nI i + 1))]) 2 rfl trivial ?_
        rw [nI_1]
        exact ih (i + 1) th x (by omega) (by omega) (hi'.1 (Or.inl ((lg_cmp_eq _ _).mp z)))
      · refine mm_go (d := d + 3) 3 rfl trivial (mm_one (h2_isReference (d := d + 1) h (fun e => ⟨(h1 e).1, by have := (h1 e).2; omega⟩) (fun e => by have := h5 e; omega) ?_))
        have hb : isrN rf k t i < 2 := by unfold isrN; split <;> (try split) <;> (try split) <;> omega
        refine mm_one ⟨fun y => ?_, fun y => ?_⟩
        · refine mm_go (d := d + 3) (lv' := [(0, .ref 1), (1, .int (nI a)), (2, .long (lN (hdN k f t n))), (4, .int (nI c)), (5, .int (nI 0)), (6, .int (nI i + 1))]) 2 rfl trivial ?_
          rw [nI_1]
          exact ih (i + 1) th x (by omega) (by omega) (hi'.1 (Or.inr ((nI_eq (by omega) (by decide)).mp (show nI (isrN rf k t i) = nI 0 from y))))
        · obtain ⟨y', th', x', hx, ex, hv, hI'⟩ := hi'.2 (fun e => z ((lg_cmp_eq _ _).mpr e)) (fun e => y (show nI (isrN rf k t i) = nI 0 by rw [e]))
          refine mm_go (d := d + 3) 5 rfl trivial (mm_one (h6_reference (d := d + 2) (by omega) ex ?_))
          refine mm_one (h6_lookAt (d := d + 2) hT hx hv ?_)
          refine mm_go (d := d + 3) (lv' := [(0, .ref 1), (1, .int (nI a)), (2, .long (lN (hdN k f t n))), (4, .int (nI c)), (5, .int (nI 0)), (6, .int (nI i + 1))]) 4 rfl trivial ?_
          rw [nI_1]
          exact ih (i + 1) th' x' (by omega) (by omega) hI'
theorem h6_behind_tL {Inv : Nat → (Nat → Int64) → Nat → Prop} {c T : Nat} (hT : T ≤ 180001) (h : hdOk k f t n) (h1 : k = 1 → t < 100 ∧ c ≤ 64) (h5 : k = 5 → c ≤ 32) (hc : c ≤ 100000) (ha : a + 1 + c ≤ 180001)
    (hs : ∀ i th x, i < c → Inv i th x → (hr (a + 1 + i) = 0 ∨ isrN rf k t i = 0 → Inv (i + 1) th x) ∧ (¬ hr (a + 1 + i) = 0 → ¬ isrN rf k t i = 0 → ∃ y th' x', x < 2 ^ 31 ∧ hr (a + 1 + i) = lN y ∧ La T th x y th' x' ∧ Inv (i + 1) th' x'))
    (hk : ∀ th x, Inv c th x → K (.inl (some (.int (nI 0)))) (wC true ev un md (nI T) ce pl (nI x) sz fl pr rf ro hr th r)) :
    ∀ (m i : Nat) (th : Nat → Int64) (x : Nat), c - i = m → i ≤ c → Inv i th x → mm_wp (d + 4) none al 35 K 0 0 30 [(0, .ref 1), (1, .int (nI a)), (2, .long (lN (hdN k f t n))), (4, .int (nI c)), (5, .int (nI 0)), (6, .int (nI i))] [] (wC true ev un md (nI T) ce pl (nI x) sz fl pr rf ro hr th r) := by
  intro m
  induction m with
  | zero =>
    intro i th x hm hi hI
    have e : i = c := by omega
    subst e
    refine mm_go (d := d + 3) 2 rfl trivial (mm_one ⟨fun u => ?_, fun u => ?_⟩)
    · exact mm_go (d := d + 3) 1 rfl trivial (mm_one (hk th x hI))
    · exact absurd ((nI_leI (by omega) (by omega)).mpr (Nat.le_refl _)) u
  | succ m ih =>
    intro i th x hm hi hI
    have e2 : nI a + 1 + nI i = nI (a + 1 + i) := by rw [nI_1, nI_add]
    have i2 : vp_in (nI a + 1 + nI i) 180001 := by rw [e2]; exact vp_in_nI (by omega) (by decide)
    have e3 : (nI a + 1 + nI i).toNatClampNeg = a + 1 + i := by rw [e2]; exact nI_clamp (by omega)
    have hi' := hs i th x (by omega) hI
    refine mm_go (d := d + 3) 2 rfl trivial (mm_one ⟨fun u => ?_, fun u => ?_⟩)
    · exact absurd ((nI_leI (by omega) (by omega)).mp u) (by omega)
    · refine mm_go (d := d + 3) (st' := [.int (lg_cmp (hr (nI a + 1 + nI i).toNatClampNeg) 0)]) 10 rfl ⟨i2, trivial⟩ ?_
      rw [e3]
      refine mm_one ⟨fun z => ?_, fun z => ?_⟩
      · refine mm_go (d := d + 3) (lv' := [(0, .ref 1), (1, .int (nI a)), (2, .long (lN (hdN k f t n))), (4, .int (nI c)), (5, .int (nI 0)), (6, .int (nI i + 1))]) 2 rfl trivial ?_
        rw [nI_1]
        exact ih (i + 1) th x (by omega) (by omega) (hi'.1 (Or.inl ((lg_cmp_eq _ _).mp z)))
      · refine mm_go (d := d + 3) 3 rfl trivial (mm_one (h2_isReference (d := d + 1) h (fun e => ⟨(h1 e).1, by have := (h1 e).2; omega⟩) (fun e => by have := h5 e; omega) ?_))
        have hb : isrN rf k t i < 2 := by unfold isrN; split <;> (try split) <;> (try split) <;> omega
        refine mm_one ⟨fun y => ?_, fun y => ?_⟩
        · refine mm_go (d := d + 3) (lv' := [(0, .ref 1), (1, .int (nI a)), (2, .long (lN (hdN k f t n))), (4, .int (nI c)), (5, .int (nI 0)), (6, .int (nI i + 1))]) 2 rfl trivial ?_
          rw [nI_1]
          exact ih (i + 1) th x (by omega) (by omega) (hi'.1 (Or.inr ((nI_eq (by omega) (by decide)).mp (show nI (isrN rf k t i) = nI 0 from y))))
        · obtain ⟨y', th', x', hx, ex, hv, hI'⟩ := hi'.2 (fun e => z ((lg_cmp_eq _ _).mpr e)) (fun e => y (show nI (isrN rf k t i) = nI 0 by rw [e]))
          refine mm_go (d := d + 3) 5 rfl trivial (mm_one (h6_reference (d := d + 2) (by omega) ex ?_))
          refine mm_one (h6_lookAt (d := d + 2) hT hx hv ?_)
          refine mm_go (d := d + 3) (lv' := [(0, .ref 1), (1, .int (nI a)), (2, .long (lN (hdN k f t n))), (4, .int (nI c)), (5, .int (nI 0)), (6, .int (nI i + 1))]) 4 rfl trivial ?_
          rw [nI_1]
          exact ih (i + 1) th' x' (by omega) (by omega) hI'
theorem h6_behind {Inv : Nat → (Nat → Int64) → Nat → Prop} {T x : Nat} (hT : T ≤ 180001) (h : hdOk k f t n) (h1 : k = 1 → t < 100 ∧ n ≤ 64) (h5 : k = 5 → n ≤ 32) (ha : a + 1 + refC k n ≤ 180001) (hh : hr a = lN (hdN k f t n)) (h0 : Inv 0 th x)
    (hs : ∀ i th x, i < refC k n → Inv i th x → (hr (a + 1 + i) = 0 ∨ isrN rf k t i = 0 → Inv (i + 1) th x) ∧ (¬ hr (a + 1 + i) = 0 → ¬ isrN rf k t i = 0 → ∃ y th' x', x < 2 ^ 31 ∧ hr (a + 1 + i) = lN y ∧ La T th x y th' x' ∧ Inv (i + 1) th' x'))
    (hk : ∀ th x, Inv (refC k n) th x → K (.inl (some (.int (nI 0)))) (wC b ev un md (nI T) ce pl (nI x) sz fl pr rf ro hr th r)) : mm_cal (d + 4) al 35 [.ref 1, .int (nI a)] (wC b ev un md (nI T) ce pl (nI x) sz fl pr rf ro hr th r) K := by
  have hn : n ≤ 100000 := h.2.2.2
  have i1 : vp_in (nI a) 180001 := vp_in_nI (by omega) (by decide)
  have e1 : hr (nI a).toNatClampNeg = lN (hdN k f t n) := by rw [nI_clamp (by omega)]; exact hh
  have hR : hdR k < 2 := by unfold hdR; split <;> omega
  cases b
  · refine mm_go (d := d + 3) (st' := [.long (hr (nI a).toNatClampNeg)]) (lv' := [(0, .ref 1), (1, .int (nI a)), (2, .long (hr (nI a).toNatClampNeg))]) 6 rfl ⟨i1, trivial⟩ ?_
    rw [e1]
    refine mm_one (h1_mayRefer (d := d + 1) h ?_)
    refine mm_one ⟨fun y => ?_, fun y => ?_⟩
    · have y0 : hdR k = 0 := (nI_eq (by omega) (by decide)).mp (show nI (hdR k) = nI 0 from y)
      have eC : refC k n = 0 := if_pos y0
      rw [eC] at hs hk ha
      exact mm_go (d := d + 3) (lv' := [(0, .ref 1), (1, .int (nI a)), (2, .long (lN (hdN k f t n))), (4, .int (nI 0)), (5, .int (nI 0)), (6, .int (nI 0))]) 6 rfl trivial (h6_behind_fL (d := d) (al := al) hT h (fun e => ⟨(h1 e).1, by omega⟩) (fun e => by omega) (by omega) ha hs hk _ 0 th x rfl (Nat.le_refl _) h0)
    · have y0 : ¬ hdR k = 0 := fun e => y (show nI (hdR k) = nI 0 by rw [e])
      have eC : refC k n = n := if_neg y0
      rw [eC] at hs hk ha
      refine mm_go (d := d + 3) 1 rfl trivial (mm_one (h1_count h ?_))
      exact mm_go (d := d + 3) (lv' := [(0, .ref 1), (1, .int (nI a)), (2, .long (lN (hdN k f t n))), (4, .int (nI n)), (5, .int (nI 0)), (6, .int (nI 0))]) 6 rfl trivial (h6_behind_fL (d := d) (al := al) hT h h1 h5 hn ha hs hk _ 0 th x rfl (Nat.zero_le _) h0)
  · refine mm_go (d := d + 3) (st' := [.long (hr (nI a).toNatClampNeg)]) (lv' := [(0, .ref 1), (1, .int (nI a)), (2, .long (hr (nI a).toNatClampNeg))]) 6 rfl ⟨i1, trivial⟩ ?_
    rw [e1]
    refine mm_one (h1_mayRefer (d := d + 1) h ?_)
    refine mm_one ⟨fun y => ?_, fun y => ?_⟩
    · have y0 : hdR k = 0 := (nI_eq (by omega) (by decide)).mp (show nI (hdR k) = nI 0 from y)
      have eC : refC k n = 0 := if_pos y0
      rw [eC] at hs hk ha
      exact mm_go (d := d + 3) (lv' := [(0, .ref 1), (1, .int (nI a)), (2, .long (lN (hdN k f t n))), (4, .int (nI 0)), (5, .int (nI 0)), (6, .int (nI 0))]) 6 rfl trivial (h6_behind_tL (d := d) (al := al) hT h (fun e => ⟨(h1 e).1, by omega⟩) (fun e => by omega) (by omega) ha hs hk _ 0 th x rfl (Nat.le_refl _) h0)
    · have y0 : ¬ hdR k = 0 := fun e => y (show nI (hdR k) = nI 0 by rw [e])
      have eC : refC k n = n := if_neg y0
      rw [eC] at hs hk ha
      refine mm_go (d := d + 3) 1 rfl trivial (mm_one (h1_count h ?_))
      exact mm_go (d := d + 3) (lv' := [(0, .ref 1), (1, .int (nI a)), (2, .long (lN (hdN k f t n))), (4, .int (nI n)), (5, .int (nI 0)), (6, .int (nI 0))]) 6 rfl trivial (h6_behind_tL (d := d) (al := al) hT h h1 h5 hn ha hs hk _ 0 th x rfl (Nat.zero_le _) h0)
end
