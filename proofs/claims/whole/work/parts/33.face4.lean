theorem c64 : ∀ m, m < 9 → (64 : Int32) - nI m = nI (64 - m) := by decide +kernel
section
variable {d : Nat} {al : Bool} {K : mm_K} {k1 k2 : Nat} {w r : mm_W} {b : Bool} {ev un md tp ce pl wa sz : Int32} {fl pr ro : Nat → Int32} {rf hr th : Nat → Int64} {k f t n m g a i j q v T e c z : Nat} {x y s o p : Int32}
theorem f_toldR (h : x < 0 ∨ 64 ≤ x) (hk : K (.inr 2) (wC b ev un md tp ce pl wa sz fl pr rf ro hr th r)) : mm_cal (d + 3) al 47 [.ref 0, .int x, .int y] (wC b ev un md tp ce pl wa sz fl pr rf ro hr th r) K := by
  exact mm_go (d := d + 2) 1 rfl trivial (mm_one (f_rootN (d := d + 1) h hk))
theorem f_told (hv : v < 64) (hro : ro v = nI a) (ha : a < 180001) (h : hdOk k f t n) (ht : k = 1 → t < 100) (hh : hr a = lN (hdN k f t n))
    (k0 : y = 0 → K (.inl (some (.int (nI k)))) (wC b ev un md tp ce pl wa sz fl pr rf ro hr th r)) (k1 : y = 1 → K (.inl (some (.int (nI (if k = 1 then t else n))))) (wC b ev un md tp ce pl wa sz fl pr rf ro hr th r)) (k2 : y = 2 → K (.inl (some (.int (cstI pr k f t n)))) (wC b ev un md tp ce pl wa sz fl pr rf ro hr th r))
    (k3 : y = 3 → ∀ s, s ≤ v → ro s = ro v → (∀ j, j < s → ¬ ro j = ro v) → K (.inl (some (.int (nI s)))) (wC b ev un md tp ce pl wa sz fl pr rf ro hr th r))
    (kd : ¬ y = 0 → ¬ y = 1 → ¬ y = 2 → ¬ y = 3 → K (.inr 0) (wC b ev un md tp ce pl wa sz fl pr rf ro hr th r)) : mm_cal (d + 3) al 47 [.ref 0, .int (nI v), .int y] (wC b ev un md tp ce pl wa sz fl pr rf ro hr th r) K := by
  have hk8 : k < 8 := h.1
  have i1 : vp_in (nI v) 64 := vp_in_nI hv (by decide)
  have e1 : ro (nI v).toNatClampNeg = nI a := by rw [nI_clamp (by omega)]; exact hro
  refine mm_go (d := d + 2) 1 rfl trivial (mm_one (f_rootY (d := d + 1) hv ?_))
  refine mm_go (d := d + 2) (st' := [.int (ro (nI v).toNatClampNeg), .ref 1]) 7 rfl ⟨i1, trivial⟩ ?_
  rw [e1]
  refine mm_one (f_head (d := d + 1) ha hh ?_)
  refine mm_go (d := d + 2) 2 rfl trivial ?_
  refine mm_one ⟨fun c => ?_, fun c0 => ⟨fun c => ?_, fun c1 => ⟨fun c => ?_, fun c2 => ⟨fun c => ?_, fun c3 => ?_⟩⟩⟩⟩
  · refine mm_go (d := d + 2) 1 rfl trivial (mm_one (h1_kind h ?_))
    exact mm_one (k0 c)
  · refine mm_go (d := d + 2) 1 rfl trivial (mm_one (h1_kind h ?_))
    have hK := k1 c
    refine mm_go (d := d + 2) 1 rfl trivial (mm_one ⟨fun u => ?_, fun u => ?_⟩)
    · rw [if_neg (fun e => u (by rw [e]; rfl))] at hK
      refine mm_go (d := d + 2) 1 rfl trivial (mm_one (h1_count h ?_))
      exact mm_one hK
    · rw [if_pos ((nI_eq (by omega) (by decide)).mp ((Classical.not_not.mp u).trans (rfl : (1 : Int32) = nI 1)))] at hK
      refine mm_go (d := d + 2) 1 rfl trivial (mm_one (h1_detail h ?_))
      exact mm_go (d := d + 2) 1 rfl trivial (mm_one hK)
  · refine mm_go (d := d + 2) 3 rfl trivial (mm_one (h2_cellsOf (d := d) h ht ?_))
    exact mm_one (k2 c)
  · refine mm_go (d := d + 2) 3 rfl trivial (mm_one (h4_least (d := d + 1) hv (fun s h1 h2 h3 => ?_)))
    exact mm_one (k3 c s h1 h2 h3)
  · exact mm_one (kd c0 c1 c2 c3)
theorem f_shape (hz : z ≤ 100)
    (k0 : ¬ (o = -1 ∨ hasB z o) → K (.inr 0) (wC b ev un md tp ce pl wa (nI z) fl pr rf ro hr th r))
    (k1 : (o = -1 ∨ hasB z o) → (x < 0 ∨ 16 < x) → K (.inr 0) (wC b ev un md tp ce pl wa (nI z) fl pr rf ro hr th r))
    (k2 : (o = -1 ∨ hasB z o) → ¬ (x < 0 ∨ 16 < x) → (p < 0 ∨ 1000 < p) → K (.inr 0) (wC b ev un md tp ce pl wa (nI z) fl pr rf ro hr th r))
    (k3 : (o = -1 ∨ hasB z o) → ¬ (x < 0 ∨ 16 < x) → ¬ (p < 0 ∨ 1000 < p) → ¬ (z < 100 ∧ abvI z fl o + x ≤ 64) → K (.inr 1) (wC b ev un md tp ce pl wa (nI z) fl pr rf ro hr th r))
    (k4 : (o = -1 ∨ hasB z o) → ¬ (x < 0 ∨ 16 < x) → ¬ (p < 0 ∨ 1000 < p) → z < 100 → abvI z fl o + x ≤ 64 → K (.inl (some (.int (nI z)))) (wC b ev un md tp ce pl wa (nI (z + 1)) (upd fl z (abvI z fl o + x)) (upd pr z p) (vp_updL rf z (inhL z rf o ||| (s &&& (1 <<< (x &&& 31) - 1)).toInt64 <<< ((abvI z fl o).toInt64 &&& 63))) ro hr th r)) :
    mm_cal (d + 4) al 37 [.ref 0, .int o, .int x, .int s, .int p] (wC b ev un md tp ce pl wa (nI z) fl pr rf ro hr th r) K := by
  classical
  have s69 : (o = -1 ∨ hasB z o) → ¬ (x < 0 ∨ 16 < x) → ¬ (p < 0 ∨ 1000 < p) → mm_wp (d + 4) none al 37 K 0 0 69 [(0, .ref 0), (1, .int o), (2, .int x), (3, .int s), (4, .int p)] [] (wC b ev un md tp ce pl wa (nI z) fl pr rf ro hr th r) := by
    intro hO hX hP
    by_cases hR : z < 100 ∧ abvI z fl o + x ≤ 64
    · refine mm_go (d := d + 3) 4 rfl trivial (mm_one (h5_hasRoomY (d := d) hR.1 hR.2 ?_))
      refine mm_one ⟨fun _ => ?_, fun u => absurd (Classical.not_not.mp u) (by decide)⟩
      refine mm_go (d := d + 3) 6 rfl trivial (mm_one (h5_add (d := d) hR.1 ?_))
      exact mm_one (k4 hO hX hP hR.1 hR.2)
    · refine mm_go (d := d + 3) 4 rfl trivial (mm_one (h5_hasRoomN (d := d) hz hR ?_))
      exact mm_one ⟨fun u => absurd rfl u, fun _ => mm_one (k3 hO hX hP hR)⟩
  have s46 : (o = -1 ∨ hasB z o) → ¬ (x < 0 ∨ 16 < x) → mm_wp (d + 4) none al 37 K 0 0 46 [(0, .ref 0), (1, .int o), (2, .int x), (3, .int s), (4, .int p)] [] (wC b ev un md tp ce pl wa (nI z) fl pr rf ro hr th r) := by
    intro hO hX
    refine mm_go (d := d + 3) 1 rfl trivial (mm_one ⟨fun u => ?_, fun u => ?_⟩)
    · exact mm_one (k2 hO hX (Or.inl u))
    · refine mm_go (d := d + 3) 2 rfl trivial (mm_one ⟨fun u2 => ?_, fun u2 => ?_⟩)
      · exact s69 hO hX (fun h => h.elim u (fun g => absurd g (Int32.not_lt.mpr u2)))
      · exact mm_one (k2 hO hX (Or.inr (Int32.not_le.mp u2)))
  have s26 : (o = -1 ∨ hasB z o) → mm_wp (d + 4) none al 37 K 0 0 26 [(0, .ref 0), (1, .int o), (2, .int x), (3, .int s), (4, .int p)] [] (wC b ev un md tp ce pl wa (nI z) fl pr rf ro hr th r) := by
    intro hO
    refine mm_go (d := d + 3) 1 rfl trivial (mm_one ⟨fun u => ?_, fun u => ?_⟩)
    · exact mm_one (k1 hO (Or.inl u))
    · refine mm_go (d := d + 3) 2 rfl trivial (mm_one ⟨fun u2 => ?_, fun u2 => ?_⟩)
      · exact s46 hO (fun h => h.elim u (fun g => absurd g (Int32.not_lt.mpr u2)))
      · exact mm_one (k1 hO (Or.inr (Int32.not_le.mp u2)))
  refine mm_go (d := d + 3) 2 rfl trivial (mm_one ⟨fun u => ?_, fun u => ?_⟩)
  · exact s26 (Or.inl u)
  · by_cases hB : hasB z o
    · refine mm_go (d := d + 3) 3 rfl trivial (mm_one (h5_hasY (d := d + 2) hB ?_))
      exact mm_one ⟨fun _ => s26 (Or.inr hB), fun u => absurd (Classical.not_not.mp u) (by decide)⟩
    · refine mm_go (d := d + 3) 3 rfl trivial (mm_one (h5_hasN (d := d + 2) hB ?_))
      exact mm_one ⟨fun u => absurd rfl u, fun _ => mm_one (k0 (fun h => h.elim u hB))⟩
theorem f_cloR (h : x < 0 ∨ 64 ≤ x) (hk : K (.inr 2) (wC b ev un md tp ce pl wa sz fl pr rf ro hr th r)) : mm_cal (d + 7) al 41 [.ref 0, .int x, .int y, .int s, .int o] (wC b ev un md tp ce pl wa sz fl pr rf ro hr th r) K := by
  exact mm_go (d := d + 6) 1 rfl trivial (mm_one (f_rootN (d := d + 5) h hk))
theorem f_cloN (hv : v < 64) (h : x < 0 ∨ 8 < x) (hk : K (.inr 0) (wC b ev un md tp ce pl wa sz fl pr rf ro hr th r)) : mm_cal (d + 7) al 41 [.ref 0, .int (nI v), .int x, .int s, .int o] (wC b ev un md tp ce pl wa sz fl pr rf ro hr th r) K := by
  refine mm_go (d := d + 6) 1 rfl trivial (mm_one (f_rootY (d := d + 5) hv ?_))
  refine mm_go (d := d + 6) 1 rfl trivial (mm_one ⟨fun u => ?_, fun u => ?_⟩)
  · exact mm_one hk
  · refine mm_go (d := d + 6) 2 rfl trivial (mm_one ⟨fun u2 => ?_, fun u2 => ?_⟩)
    · exact h.elim (fun q => absurd q u) (fun q => absurd q (Int32.not_lt.mpr u2))
    · exact mm_one hk
theorem f_clo24 (hv : v < 64) (hm : m ≤ 8) (hk : mm_wp (d + 7) none al 41 K 1 6 24 [(0, .ref 0), (1, .int (nI v)), (2, .int (nI m)), (3, .int s), (4, .int o)] [] (wC b ev un md tp ce pl wa sz fl pr rf ro hr th r)) : mm_cal (d + 7) al 41 [.ref 0, .int (nI v), .int (nI m), .int s, .int o] (wC b ev un md tp ce pl wa sz fl pr rf ro hr th r) K := by
  refine mm_go (d := d + 6) 1 rfl trivial (mm_one (f_rootY (d := d + 5) hv ?_))
  refine mm_go (d := d + 6) 1 rfl trivial (mm_one ⟨fun u => ?_, fun u => ?_⟩)
  · exact absurd u (nI_pos (by omega))
  · refine mm_go (d := d + 6) 2 rfl trivial (mm_one ⟨fun u2 => ?_, fun u2 => ?_⟩)
    · exact hk
    · exact absurd (show nI m ≤ nI 8 from nI_le hm (by decide)) u2
theorem f_cloF (hv : v < 64) (hm0 : 0 < m) (hm : m ≤ 8) (h : o < 0 ∨ nI (64 - m) < o) (hk : K (.inr 2) (wC b ev un md tp ce pl wa sz fl pr rf ro hr th r)) : mm_cal (d + 7) al 41 [.ref 0, .int (nI v), .int (nI m), .int s, .int o] (wC b ev un md tp ce pl wa sz fl pr rf ro hr th r) K := by
  refine f_clo24 hv hm ?_
  refine mm_go (d := d + 6) 1 rfl trivial (mm_one ⟨fun u => ?_, fun u => ?_⟩)
  · exact absurd u (nI_nle hm0 (by omega))
  · refine mm_go (d := d + 6) 1 rfl trivial (mm_one ⟨fun u2 => ?_, fun u2 => ?_⟩)
    · exact mm_one hk
    · refine mm_go (d := d + 6) (st' := [.int ((64 : Int32) - nI m), .int o]) 4 rfl trivial ?_
      rw [c64 m (by omega)]
      refine mm_one ⟨fun u3 => ?_, fun u3 => ?_⟩
      · exact h.elim (fun q => absurd q u2) (fun q => absurd q (Int32.not_lt.mpr u3))
      · exact mm_one hk
theorem f_clo {N : Bool → Int32 → Int32 → Int32 → Int32 → Int32 → (Nat → Int32) → (Nat → Int64) → (Nat → Int64) → Prop} {Y : Bool → Int32 → Int32 → Int32 → Int32 → Int32 → (Nat → Int32) → (Nat → Int64) → (Nat → Int64) → Nat → Prop} (hv : v < 64) (hm : m ≤ 8) (hg : m = 0 ∨ g + m ≤ 64) (ht : s &&& ((1 : Int32) <<< (nI m &&& 31) - 1) = nI t) (h : hdOk 5 0 t m)
    (hmk : ∀ K' : mm_K, (∀ b un md tp ce pl ro hr th, N b un md tp ce pl ro hr th → K' (.inr 1) (wC b ev un md tp ce pl wa sz fl pr rf ro hr th r)) → (∀ b un md tp ce pl ro hr th a, Y b un md tp ce pl ro hr th a → K' (.inl (some (.int (nI a)))) (wC b ev un md tp ce pl wa sz fl pr rf ro hr th r)) → mm_cal (d + 6) false 57 [.ref 0, .long (lN (hdN 5 0 t m))] (wC b ev un md tp ce pl wa sz fl pr rf ro hr th r) K')
    (hN : ∀ b un md tp ce pl ro hr th, N b un md tp ce pl ro hr th → K (.inr 1) (wC b ev un md tp ce pl wa sz fl pr rf ro hr th r))
    (hY : ∀ b un md tp ce pl ro hr th a, Y b un md tp ce pl ro hr th a → a + 1 + m ≤ 180001 ∧ hr a = lN (hdN 5 0 t m) ∧ ∃ Inv : Nat → (Nat → Int64) → Prop, Inv 0 hr ∧
      (∀ i hr, i < m → Inv i hr → (isrN rf 5 t i = 0 → Inv (i + 1) hr) ∧ (¬ isrN rf 5 t i = 0 → ∃ x, x < 2 ^ 31 ∧ g + i < 64 ∧ ro (g + i) = nI x ∧ Inv (i + 1) (vp_updL hr (a + 1 + i) (lN x)))) ∧
      ∀ hr, Inv m hr → hr a = lN (hdN 5 0 t m) ∧ K (.inl (some (.int (cstI pr 5 0 t m)))) (wC b ev un md tp ce pl wa sz fl pr rf (upd ro v (nI a)) hr th r)) :
    mm_cal (d + 7) al 41 [.ref 0, .int (nI v), .int (nI m), .int s, .int (nI g)] (wC b ev un md tp ce pl wa sz fl pr rf ro hr th r) K := by
  have s52 : mm_wp (d + 7) none al 41 K 1 6 52 [(0, .ref 0), (1, .int (nI v)), (2, .int (nI m)), (3, .int s), (4, .int (nI g))] [] (wC b ev un md tp ce pl wa sz fl pr rf ro hr th r) := by
    refine mm_go (d := d + 6) (st' := [.int (nI m), .int (s &&& ((1 : Int32) <<< (nI m &&& 31) - 1)), .int (nI 0), .int (nI 5), .ref 0]) 11 rfl trivial ?_
    rw [ht]
    refine mm_one (h8_of (d := d + 5) h ?_)
    refine mm_one (hmk _ (fun b un md tp ce pl ro hr th hp => hN b un md tp ce pl ro hr th hp) (fun b un md tp ce pl ro hr th a hp => ?_))
    obtain ⟨ha, hh, Inv, hI0, hst, hend⟩ := hY b un md tp ce pl ro hr th a hp
    refine mm_go (d := d + 6) 5 rfl trivial (mm_one (h7_capture (d := d + 3) h (fun e => absurd e (by decide)) (fun _ => by omega) ha hh hI0 hst (fun hr' hI' => ?_)))
    obtain ⟨hh', hk⟩ := hend hr' hI'
    refine mm_go (d := d + 6) 4 rfl trivial (mm_one (h3_holdNew (d := d + 3) h (fun e => absurd e (by decide)) hv (by omega) hh' ?_))
    exact mm_one hk
  refine f_clo24 hv hm ?_
  refine mm_go (d := d + 6) 1 rfl trivial (mm_one ⟨fun u => ?_, fun u => ?_⟩)
  · exact s52
  · have hm0 : 0 < m := Nat.pos_of_ne_zero (fun e => u (show nI m ≤ 0 by rw [e]; decide))
    have hg' : g + m ≤ 64 := hg.elim (fun e => by omega) id
    refine mm_go (d := d + 6) 1 rfl trivial (mm_one ⟨fun u2 => ?_, fun u2 => ?_⟩)
    · exact absurd u2 (nI_pos (by omega))
    · refine mm_go (d := d + 6) (st' := [.int ((64 : Int32) - nI m), .int (nI g)]) 4 rfl trivial ?_
      rw [c64 m (by omega)]
      refine mm_one ⟨fun u3 => s52, fun u3 => ?_⟩
      exact absurd (nI_le (show g ≤ 64 - m by omega) (by omega)) u3
end
