theorem of_0 : ∀ k, k < 8 → ∀ t, t < 256 → (nI k ||| (0 : Int32) ||| nI t <<< ((4 : Int32) &&& 31)).toInt64 = lN (k + 16 * t) := by decide +kernel
theorem of_8 : ∀ k, k < 8 → ∀ t, t < 256 → (nI k ||| (8 : Int32) ||| nI t <<< ((4 : Int32) &&& 31)).toInt64 = lN (k + 8 + 16 * t) := by decide +kernel
theorem of_n {x n : Nat} (hx : x < 4096) (hn : n ≤ 100000) : lN x ||| (nI n).toInt64 <<< ((12 : Int32).toInt64 &&& 63) = lN (x + 4096 * n) := by
  rw [nI_l (by omega), show (12 : Int32) = nI 12 from rfl, wb_shl n (by decide), wb_or (by omega) (by omega)]
  congr 1
  rw [show n * 2 ^ 12 = 2 ^ 12 * n from Nat.mul_comm _ _, Nat.or_comm, ← Nat.two_pow_add_eq_or_of_lt (show x < 2 ^ 12 from hx)]
  omega
theorem wait_n {v : Nat} (h : v < 2 ^ 31) : (lN (2 + 4 * v) >>> ((2 : Int32).toInt64 &&& 63)).toInt32 = nI v := by
  rw [show (2 : Int32) = nI 2 from rfl, wb_sar (by omega) (by decide), lN_i]
  congr 1
  omega
section
variable {d : Nat} {al : Bool} {K : mm_K} {k1 k2 : Nat} {w r : mm_W} {b : Bool} {ev un md tp ce pl wa sz : Int32} {fl pr ro : Nat → Int32} {rf hr th : Nat → Int64} {k f t n a i : Nat}
theorem h8_of (h : hdOk k f t n) (hk : K (.inl (some (.long (lN (hdN k f t n))))) w) : mm_cal (d + 1) al 0 [.int (nI k), .int (nI f), .int (nI t), .int (nI n)] w K := by
  obtain ⟨h1, h2, h3, h4⟩ := h
  refine mm_go (d := d) 2 rfl trivial (mm_one ⟨fun c => ?_, fun c => ?_⟩)
  · have hf : f = 0 := (nI_eq (by omega) (by decide)).mp (show nI f = nI 0 from c)
    subst hf
    refine mm_go (d := d) (st' := [.long ((nI k ||| (0 : Int32) ||| nI t <<< ((4 : Int32) &&& 31)).toInt64 ||| (nI n).toInt64 <<< ((12 : Int32).toInt64 &&& 63))]) 12 rfl trivial ?_
    rw [of_0 k h1 t h3, of_n (by omega) h4]
    exact mm_one hk
  · have hf : f = 1 := by
      rcases (show f = 0 ∨ f = 1 by omega) with e | e
      · exact absurd (show nI f = nI 0 by rw [e]) c
      · exact e
    subst hf
    refine mm_go (d := d) (st' := [.long ((nI k ||| (8 : Int32) ||| nI t <<< ((4 : Int32) &&& 31)).toInt64 ||| (nI n).toInt64 <<< ((12 : Int32).toInt64 &&& 63))]) 13 rfl trivial ?_
    rw [of_8 k h1 t h3, of_n (by omega) h4]
    exact mm_one hk
theorem h8_lookL_f {Inv : Nat → (Nat → Int64) → Nat → Prop} {T : Nat} (hT : T ≤ 180001)
    (hs : ∀ i th x, i < 64 → Inv i th x → ∃ y th' x', x < 2 ^ 31 ∧ ro i = nI y ∧ La T th x y th' x' ∧ Inv (i + 1) th' x')
    (hk : ∀ th x, Inv 64 th x → mm_wp (d + 5) none al 27 K 0 0 38 [(0, .ref 1), (1, .int (nI 0)), (2, .int (nI 64))] [] (wC false ev un md (nI T) ce pl (nI x) sz fl pr rf ro hr th r)) :
    ∀ (m i : Nat) (th : Nat → Int64) (x : Nat), 64 - i = m → i ≤ 64 → Inv i th x → mm_wp (d + 5) none al 27 K 0 0 13 [(0, .ref 1), (1, .int (nI 0)), (2, .int (nI i))] [] (wC false ev un md (nI T) ce pl (nI x) sz fl pr rf ro hr th r) := by
  intro m
  induction m with
  | zero =>
    intro i th x hm hi hI
    have e : i = 64 := by omega
    subst e
    refine mm_go (d := d + 4) 2 rfl trivial (mm_one ⟨fun u => ?_, fun u => ?_⟩)
    · exact hk th x hI
    · exact absurd (show nI 64 ≤ nI 64 from (nI_leI (by omega) (by omega)).mpr (Nat.le_refl _)) u
  | succ m ih =>
    intro i th x hm hi hI
    obtain ⟨y, th', x', hx, ex, hv, hI'⟩ := hs i th x (by omega) hI
    have i1 : vp_in (nI i) 64 := vp_in_nI (by omega) (by decide)
    have e1 : (nI i).toNatClampNeg = i := nI_clamp (by omega)
    refine mm_go (d := d + 4) 2 rfl trivial (mm_one ⟨fun u => ?_, fun u => ?_⟩)
    · have u : nI 64 ≤ nI i := u
      exact absurd ((nI_leI (by omega) (by omega)).mp u) (by omega)
    · refine mm_go (d := d + 4) (st' := [.int (ro (nI i).toNatClampNeg), .ref 1, .int (nI 0)]) 6 rfl ⟨i1, trivial⟩ ?_
      rw [e1, ex]
      refine mm_one (h6_lookAt (d := d + 3) hT hx hv ?_)
      refine mm_go (d := d + 4) (lv' := [(0, .ref 1), (1, .int (nI 0)), (2, .int (nI i + 1))]) 4 rfl trivial ?_
      rw [nI_1]
      exact ih (i + 1) th' x' (by omega) (by omega) hI'
theorem h8_chainL_f {Jnv : Nat → (Nat → Int64) → Nat → Prop} {T : Nat} (hT : T ≤ 180001)
    (hs : ∀ s th a, Jnv s th a → ¬ a = 0 → s < 180000 ∧ a < 180001 ∧ ∃ v k f t n, v < 2 ^ 31 ∧ th a = lN (2 + 4 * v) ∧ hdOk k f t n ∧ (k = 1 → t < 100 ∧ n ≤ 64) ∧ (k = 5 → n ≤ 32) ∧ a + 1 + refC k n ≤ 180001 ∧ hr a = lN (hdN k f t n) ∧ ∃ Inv : Nat → (Nat → Int64) → Nat → Prop, Inv 0 th v ∧ (∀ i th x, i < refC k n → Inv i th x → (hr (a + 1 + i) = 0 ∨ isrN rf k t i = 0 → Inv (i + 1) th x) ∧ (¬ hr (a + 1 + i) = 0 → ¬ isrN rf k t i = 0 → ∃ y th' x', x < 2 ^ 31 ∧ hr (a + 1 + i) = lN y ∧ La T th x y th' x' ∧ Inv (i + 1) th' x')) ∧ ∀ th x, Inv (refC k n) th x → Jnv (s + 1) th x)
    (hb : ∀ s th a, Jnv s th a → a < 2 ^ 31)
    (hk : ∀ s th x, Jnv s th x → x = 0 → K (.inl (some (.int (nI 0)))) (wC false ev un md (nI T) ce pl (nI x) sz fl pr rf ro hr th r)) :
    ∀ (m s : Nat) (th : Nat → Int64) (x : Nat), 180000 - s = m → s ≤ 180000 → Jnv s th x → mm_wp (d + 5) none al 27 K 0 0 40 [(0, .ref 1), (1, .int (nI 0)), (2, .int (nI s))] [] (wC false ev un md (nI T) ce pl (nI x) sz fl pr rf ro hr th r) := by
  intro m
  induction m with
  | zero =>
    intro s th x hm hsl hI
    have hx0 : x = 0 := Classical.not_not.mp (fun h => absurd (hs s th x hI h).1 (by omega))
    refine mm_go (d := d + 4) 2 rfl trivial (mm_one ⟨fun u => ?_, fun u => ?_⟩)
    · exact mm_go (d := d + 4) 1 rfl trivial (mm_one (hk s th x hI hx0))
    · have u : ¬ nI 180000 ≤ nI s := u
      exact absurd ((nI_leI (by omega) (by omega)).mpr (by omega)) u
  | succ m ih =>
    intro s th a hm hsl hI
    have hal := hb s th a hI
    have o1 : 180000 - (s + 1) = m := by omega
    have o2 : s + 1 ≤ 180000 := by omega
    refine mm_go (d := d + 4) 2 rfl trivial (mm_one ⟨fun u => ?_, fun u => ?_⟩)
    · have u : nI 180000 ≤ nI s := u
      exact absurd ((nI_leI (by omega) (by omega)).mp u) (by omega)
    · refine mm_go (d := d + 4) 2 rfl trivial (mm_one ⟨fun u => ?_, fun u => ?_⟩)
      · exact mm_go (d := d + 4) 1 rfl trivial (mm_one (hk s th a hI ((nI_eq hal (by decide)).mp (show nI a = nI 0 from u))))
      · obtain ⟨hs1, ha1, v, k, f, t, n, hv, hw, h, h1, h5, ha, hh, Inv, hI0, hst, hend⟩ := hs s th a hI (fun e => u (show nI a = nI 0 by rw [e]))
        have i1 : vp_in (nI a) 180001 := vp_in_nI (by omega) (by decide)
        have e1 : (nI a).toNatClampNeg = a := nI_clamp (by omega)
        refine mm_go (d := d + 4) (st' := [.int (nI a), .ref 1, .int (nI 0)]) (lv' := [(0, .ref 1), (1, .int (nI 0)), (2, .int (nI s)), (3, .int (nI a))]) (w' := (wC false ev un md (nI T) ce pl ((th (nI a).toNatClampNeg) >>> ((2 : Int32).toInt64 &&& 63)).toInt32 sz fl pr rf ro hr th r)) 15 rfl ⟨i1, trivial⟩ ?_
        rw [e1, hw, wait_n hv]
        refine mm_one (h6_behind (d := d) hT h h1 h5 ha hh hI0 hst (fun th' x' hI' => ?_))
        refine mm_go (d := d + 4) (lv' := [(0, .ref 1), (1, .int (nI 0)), (2, .int (nI s + 1)), (3, .int (nI a))]) 4 rfl trivial (mm_few [0, 1, 2] rfl ?_)
        show mm_wp (d + 5) none al 27 K 0 0 40 [(0, .ref 1), (1, .int (nI 0)), (2, .int (nI s + 1))] [] (wC false ev un md (nI T) ce pl (nI x') sz fl pr rf ro hr th' r)
        rw [nI_1]
        exact ih (s + 1) th' x' o1 o2 (hend th' x' hI')
theorem h8_lookL_t {Inv : Nat → (Nat → Int64) → Nat → Prop} {T : Nat} (hT : T ≤ 180001)
    (hs : ∀ i th x, i < 64 → Inv i th x → ∃ y th' x', x < 2 ^ 31 ∧ ro i = nI y ∧ La T th x y th' x' ∧ Inv (i + 1) th' x')
    (hk : ∀ th x, Inv 64 th x → mm_wp (d + 5) none al 27 K 0 0 38 [(0, .ref 1), (1, .int (nI 0)), (2, .int (nI 64))] [] (wC true ev un md (nI T) ce pl (nI x) sz fl pr rf ro hr th r)) :
    ∀ (m i : Nat) (th : Nat → Int64) (x : Nat), 64 - i = m → i ≤ 64 → Inv i th x → mm_wp (d + 5) none al 27 K 0 0 13 [(0, .ref 1), (1, .int (nI 0)), (2, .int (nI i))] [] (wC true ev un md (nI T) ce pl (nI x) sz fl pr rf ro hr th r) := by
  intro m
  induction m with
  | zero =>
    intro i th x hm hi hI
    have e : i = 64 := by omega
    subst e
    refine mm_go (d := d + 4) 2 rfl trivial (mm_one ⟨fun u => ?_, fun u => ?_⟩)
    · exact hk th x hI
    · exact absurd (show nI 64 ≤ nI 64 from (nI_leI (by omega) (by omega)).mpr (Nat.le_refl _)) u
  | succ m ih =>
    intro i th x hm hi hI
    obtain ⟨y, th', x', hx, ex, hv, hI'⟩ := hs i th x (by omega) hI
    have i1 : vp_in (nI i) 64 := vp_in_nI (by omega) (by decide)
    have e1 : (nI i).toNatClampNeg = i := nI_clamp (by omega)
    refine mm_go (d := d + 4) 2 rfl trivial (mm_one ⟨fun u => ?_, fun u => ?_⟩)
    · have u : nI 64 ≤ nI i := u
      exact absurd ((nI_leI (by omega) (by omega)).mp u) (by omega)
    · refine mm_go (d := d + 4) (st' := [.int (ro (nI i).toNatClampNeg), .ref 1, .int (nI 0)]) 6 rfl ⟨i1, trivial⟩ ?_
      rw [e1, ex]
      refine mm_one (h6_lookAt (d := d + 3) hT hx hv ?_)
      refine mm_go (d := d + 4) (lv' := [(0, .ref 1), (1, .int (nI 0)), (2, .int (nI i + 1))]) 4 rfl trivial ?_
      rw [nI_1]
      exact ih (i + 1) th' x' (by omega) (by omega) hI'
theorem h8_chainL_t {Jnv : Nat → (Nat → Int64) → Nat → Prop} {T : Nat} (hT : T ≤ 180001)
    (hs : ∀ s th a, Jnv s th a → ¬ a = 0 → s < 180000 ∧ a < 180001 ∧ ∃ v k f t n, v < 2 ^ 31 ∧ th a = lN (2 + 4 * v) ∧ hdOk k f t n ∧ (k = 1 → t < 100 ∧ n ≤ 64) ∧ (k = 5 → n ≤ 32) ∧ a + 1 + refC k n ≤ 180001 ∧ hr a = lN (hdN k f t n) ∧ ∃ Inv : Nat → (Nat → Int64) → Nat → Prop, Inv 0 th v ∧ (∀ i th x, i < refC k n → Inv i th x → (hr (a + 1 + i) = 0 ∨ isrN rf k t i = 0 → Inv (i + 1) th x) ∧ (¬ hr (a + 1 + i) = 0 → ¬ isrN rf k t i = 0 → ∃ y th' x', x < 2 ^ 31 ∧ hr (a + 1 + i) = lN y ∧ La T th x y th' x' ∧ Inv (i + 1) th' x')) ∧ ∀ th x, Inv (refC k n) th x → Jnv (s + 1) th x)
    (hb : ∀ s th a, Jnv s th a → a < 2 ^ 31)
    (hk : ∀ s th x, Jnv s th x → x = 0 → K (.inl (some (.int (nI 0)))) (wC true ev un md (nI T) ce pl (nI x) sz fl pr rf ro hr th r)) :
    ∀ (m s : Nat) (th : Nat → Int64) (x : Nat), 180000 - s = m → s ≤ 180000 → Jnv s th x → mm_wp (d + 5) none al 27 K 0 0 40 [(0, .ref 1), (1, .int (nI 0)), (2, .int (nI s))] [] (wC true ev un md (nI T) ce pl (nI x) sz fl pr rf ro hr th r) := by
  intro m
  induction m with
  | zero =>
    intro s th x hm hsl hI
    have hx0 : x = 0 := Classical.not_not.mp (fun h => absurd (hs s th x hI h).1 (by omega))
    refine mm_go (d := d + 4) 2 rfl trivial (mm_one ⟨fun u => ?_, fun u => ?_⟩)
    · exact mm_go (d := d + 4) 1 rfl trivial (mm_one (hk s th x hI hx0))
    · have u : ¬ nI 180000 ≤ nI s := u
      exact absurd ((nI_leI (by omega) (by omega)).mpr (by omega)) u
  | succ m ih =>
    intro s th a hm hsl hI
    have hal := hb s th a hI
    have o1 : 180000 - (s + 1) = m := by omega
    have o2 : s + 1 ≤ 180000 := by omega
    refine mm_go (d := d + 4) 2 rfl trivial (mm_one ⟨fun u => ?_, fun u => ?_⟩)
    · have u : nI 180000 ≤ nI s := u
      exact absurd ((nI_leI (by omega) (by omega)).mp u) (by omega)
    · refine mm_go (d := d + 4) 2 rfl trivial (mm_one ⟨fun u => ?_, fun u => ?_⟩)
      · exact mm_go (d := d + 4) 1 rfl trivial (mm_one (hk s th a hI ((nI_eq hal (by decide)).mp (show nI a = nI 0 from u))))
      · obtain ⟨hs1, ha1, v, k, f, t, n, hv, hw, h, h1, h5, ha, hh, Inv, hI0, hst, hend⟩ := hs s th a hI (fun e => u (show nI a = nI 0 by rw [e]))
        have i1 : vp_in (nI a) 180001 := vp_in_nI (by omega) (by decide)
        have e1 : (nI a).toNatClampNeg = a := nI_clamp (by omega)
        refine mm_go (d := d + 4) (st' := [.int (nI a), .ref 1, .int (nI 0)]) (lv' := [(0, .ref 1), (1, .int (nI 0)), (2, .int (nI s)), (3, .int (nI a))]) (w' := (wC true ev un md (nI T) ce pl ((th (nI a).toNatClampNeg) >>> ((2 : Int32).toInt64 &&& 63)).toInt32 sz fl pr rf ro hr th r)) 15 rfl ⟨i1, trivial⟩ ?_
        rw [e1, hw, wait_n hv]
        refine mm_one (h6_behind (d := d) hT h h1 h5 ha hh hI0 hst (fun th' x' hI' => ?_))
        refine mm_go (d := d + 4) (lv' := [(0, .ref 1), (1, .int (nI 0)), (2, .int (nI s + 1)), (3, .int (nI a))]) 4 rfl trivial (mm_few [0, 1, 2] rfl ?_)
        show mm_wp (d + 5) none al 27 K 0 0 40 [(0, .ref 1), (1, .int (nI 0)), (2, .int (nI s + 1))] [] (wC true ev un md (nI T) ce pl (nI x') sz fl pr rf ro hr th' r)
        rw [nI_1]
        exact ih (s + 1) th' x' o1 o2 (hend th' x' hI')
theorem h8_countLost {Mnv : Nat → Nat → (Nat → Int64) → Prop} {Inv Jnv : Nat → (Nat → Int64) → Nat → Prop} {T : Nat} (hT1 : 1 ≤ T) (hT : T ≤ 180001)
    (m0 : Mnv 0 1 (zer th 1 T)) (mb : ∀ s a th, Mnv s a th → a ≤ T)
    (ms : ∀ s a th, Mnv s a th → a < T → s < 180000 ∧ ∃ k f t n, hdOk k f t n ∧ hr a = lN (hdN k f t n) ∧ Mnv (s + 1) (a + hdW k n) (vp_updL th a 1))
    (mi : ∀ s a th, Mnv s a th → ¬ a < T → Inv 0 th 0)
    (hi : ∀ i th x, i < 64 → Inv i th x → ∃ y th' x', x < 2 ^ 31 ∧ ro i = nI y ∧ La T th x y th' x' ∧ Inv (i + 1) th' x')
    (ij : ∀ th x, Inv 64 th x → Jnv 0 th x)
    (hs : ∀ s th a, Jnv s th a → ¬ a = 0 → s < 180000 ∧ a < 180001 ∧ ∃ v k f t n, v < 2 ^ 31 ∧ th a = lN (2 + 4 * v) ∧ hdOk k f t n ∧ (k = 1 → t < 100 ∧ n ≤ 64) ∧ (k = 5 → n ≤ 32) ∧ a + 1 + refC k n ≤ 180001 ∧ hr a = lN (hdN k f t n) ∧ ∃ Inv : Nat → (Nat → Int64) → Nat → Prop, Inv 0 th v ∧ (∀ i th x, i < refC k n → Inv i th x → (hr (a + 1 + i) = 0 ∨ isrN rf k t i = 0 → Inv (i + 1) th x) ∧ (¬ hr (a + 1 + i) = 0 → ¬ isrN rf k t i = 0 → ∃ y th' x', x < 2 ^ 31 ∧ hr (a + 1 + i) = lN y ∧ La T th x y th' x' ∧ Inv (i + 1) th' x')) ∧ ∀ th x, Inv (refC k n) th x → Jnv (s + 1) th x)
    (hb : ∀ s th a, Jnv s th a → a < 2 ^ 31)
    (hk : ∀ s th x, Jnv s th x → x = 0 → K (.inl (some (.int (nI 0)))) (wC b ev un md (nI T) ce pl (nI x) sz fl pr rf ro hr th r)) : mm_cal (d + 5) al 27 [.ref 1] (wC b ev un md (nI T) ce pl wa sz fl pr rf ro hr th r) K := by
  refine mm_go (d := d + 4) 1 rfl trivial (mm_one (h7_mark (d := d + 1) hT1 hT m0 mb ms (fun s a th hM hna => ?_)))
  cases b
  · refine mm_go (d := d + 4) (lv' := [(0, .ref 1), (1, .int (nI 0)), (2, .int (nI 0))]) (w' := (wC false ev un md (nI T) ce pl (nI 0) sz fl pr rf ro hr th r)) 7 rfl trivial ?_
    refine h8_lookL_f (d := d) (al := al) hT hi (fun th x hI => ?_) _ 0 th 0 rfl (Nat.zero_le _) (mi s a th hM hna)
    exact mm_go (d := d + 4) (lv' := [(0, .ref 1), (1, .int (nI 0)), (2, .int (nI 0))]) 2 rfl trivial (h8_chainL_f (d := d) (al := al) hT hs hb hk _ 0 th x rfl (Nat.zero_le _) (ij th x hI))
  · refine mm_go (d := d + 4) (lv' := [(0, .ref 1), (1, .int (nI 0)), (2, .int (nI 0))]) (w' := (wC true ev un md (nI T) ce pl (nI 0) sz fl pr rf ro hr th r)) 7 rfl trivial ?_
    refine h8_lookL_t (d := d) (al := al) hT hi (fun th x hI => ?_) _ 0 th 0 rfl (Nat.zero_le _) (mi s a th hM hna)
    exact mm_go (d := d + 4) (lv' := [(0, .ref 1), (1, .int (nI 0)), (2, .int (nI 0))]) 2 rfl trivial (h8_chainL_t (d := d) (al := al) hT hs hb hk _ 0 th x rfl (Nat.zero_le _) (ij th x hI))
end
