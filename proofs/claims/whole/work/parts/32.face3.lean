section
variable {d : Nat} {al : Bool} {K : mm_K} {k1 k2 : Nat} {w r : mm_W} {b : Bool} {ev un md tp ce pl wa sz : Int32} {fl pr ro : Nat → Int32} {rf hr th : Nat → Int64} {k f t n a i j q v T e c z : Nat} {x y s o : Int32}
/-- the second half of making a thing: what is reached has come along, or need not -/
theorem f_make2 (h : hdOk k f t n) (ht : k = 1 → t < 100)
    (hno : ¬ rmP ce pl pr k f t n → K (.inr 1) (wC b ev un md (nI T) ce pl wa sz fl pr rf ro hr th r))
    (hfit : rmP ce pl pr k f t n → T + hdW k n ≤ 180001)
    (hyes : rmP ce pl pr k f t n → K (.inl (some (.int (nI T)))) (wC b ev (if un ≤ 1 then ev else un - 1) (md + cstI pr k f t n) (nI (T + hdW k n)) (ce + cstI pr k f t n) (pl + nI (hdP k n)) wa sz fl pr rf ro (vp_updL (zer hr T (T + hdW k n)) T (lN (hdN k f t n))) th r)) :
    mm_wp (d + 6) none al 57 K 0 0 26 [(0, .ref 0), (1, .long (lN (hdN k f t n)))] [] (wC b ev un md (nI T) ce pl wa sz fl pr rf ro hr th r) := by
  refine mm_go (d := d + 5) 3 rfl trivial (mm_one (h3_hasRoom (d := d + 1) h ht (fun r1 r2 => ?_) (fun rn => ?_)))
  · have hR : rmP ce pl pr k f t n := ⟨r1, r2⟩
    refine mm_one ⟨fun c => ?_, fun c => absurd (Classical.not_not.mp c) (by decide)⟩
    have hK := hyes hR
    refine mm_go (d := d + 5) 4 rfl trivial (mm_one ⟨fun c => ?_, fun c => ?_⟩)
    · rw [if_pos (show un ≤ 1 from c)] at hK
      refine mm_go (d := d + 5) 9 rfl trivial (mm_one (h2_cellsOf (d := d + 3) h ht ?_))
      refine mm_go (d := d + 5) 5 rfl trivial (mm_one (h4_add (d := d) h ht (hfit hR) ?_))
      exact mm_one hK
    · rw [if_neg (show ¬ un ≤ 1 from c)] at hK
      refine mm_go (d := d + 5) 12 rfl trivial (mm_one (h2_cellsOf (d := d + 3) h ht ?_))
      refine mm_go (d := d + 5) 5 rfl trivial (mm_one (h4_add (d := d) h ht (hfit hR) ?_))
      exact mm_one hK
  · refine mm_one ⟨fun c => absurd rfl c, fun c => ?_⟩
    exact mm_one (hno rn)
theorem f_make {P : Bool → Nat → Int32 → Int32 → (Nat → Int32) → (Nat → Int64) → (Nat → Int64) → Prop} (h : hdOk k f t n) (ht : k = 1 → t < 100)
    (hm : un = 1 ∨ ¬ rmP ce pl pr k f t n → ∀ K' : mm_K, (∀ b T ce pl ro hr th, P b T ce pl ro hr th → K' (.inl none) (wC b ev un md (nI T) ce pl wa sz fl pr rf ro hr th r)) → mm_cal (d + 5) false 26 [.ref 1] (wC b ev un md (nI T) ce pl wa sz fl pr rf ro hr th r) K')
    (hs : ¬ un = 1 → rmP ce pl pr k f t n → P b T ce pl ro hr th)
    (hno : ∀ b T ce pl ro hr th, P b T ce pl ro hr th → ¬ rmP ce pl pr k f t n → K (.inr 1) (wC b ev un md (nI T) ce pl wa sz fl pr rf ro hr th r))
    (hfit : ∀ b T ce pl ro hr th, P b T ce pl ro hr th → rmP ce pl pr k f t n → T + hdW k n ≤ 180001)
    (hyes : ∀ b T ce pl ro hr th, P b T ce pl ro hr th → rmP ce pl pr k f t n → K (.inl (some (.int (nI T)))) (wC b ev (if un ≤ 1 then ev else un - 1) (md + cstI pr k f t n) (nI (T + hdW k n)) (ce + cstI pr k f t n) (pl + nI (hdP k n)) wa sz fl pr rf ro (vp_updL (zer hr T (T + hdW k n)) T (lN (hdN k f t n))) th r)) :
    mm_cal (d + 6) al 57 [.ref 0, .long (lN (hdN k f t n))] (wC b ev un md (nI T) ce pl wa sz fl pr rf ro hr th r) K := by
  have two : ∀ b T ce pl ro hr th, P b T ce pl ro hr th → mm_wp (d + 6) none al 57 K 0 0 26 [(0, .ref 0), (1, .long (lN (hdN k f t n)))] [] (wC b ev un md (nI T) ce pl wa sz fl pr rf ro hr th r) := fun b T ce pl ro hr th hp =>
    f_make2 h ht (hno b T ce pl ro hr th hp) (hfit b T ce pl ro hr th hp) (hyes b T ce pl ro hr th hp)
  refine mm_go (d := d + 5) 3 rfl trivial (mm_one ⟨fun c => ?_, fun c => ?_⟩)
  · exact mm_go (d := d + 5) 2 rfl trivial (mm_one (hm (Or.inl c) _ (fun b T ce pl ro hr th hp => two b T ce pl ro hr th hp)))
  · refine mm_go (d := d + 5) 3 rfl trivial (mm_one (h3_hasRoom (d := d + 1) h ht (fun r1 r2 => ?_) (fun rn => ?_)))
    · refine mm_one ⟨fun c2 => ?_, fun c2 => absurd (Classical.not_not.mp c2) (by decide)⟩
      exact two b T ce pl ro hr th (hs c ⟨r1, r2⟩)
    · refine mm_one ⟨fun c2 => absurd rfl c2, fun c2 => ?_⟩
      exact mm_go (d := d + 5) 2 rfl trivial (mm_one (hm (Or.inr rn) _ (fun b T ce pl ro hr th hp => two b T ce pl ro hr th hp)))
theorem f_objR {u : Int32} (h : x < 0 ∨ 64 ≤ x) (hk : K (.inr 2) (wC b ev un md tp ce pl wa sz fl pr rf ro hr th r)) : mm_cal (d + 7) al 38 [.ref 0, .int x, .int y, .int u] (wC b ev un md tp ce pl wa sz fl pr rf ro hr th r) K := by
  exact mm_go (d := d + 6) 1 rfl trivial (mm_one (f_rootN (d := d + 5) h hk))
theorem f_objC {u : Int32} (hv : v < 64) (h : ¬ hasB z y) (hk : K (.inr 0) (wC b ev un md tp ce pl wa (nI z) fl pr rf ro hr th r)) : mm_cal (d + 7) al 38 [.ref 0, .int (nI v), .int y, .int u] (wC b ev un md tp ce pl wa (nI z) fl pr rf ro hr th r) K := by
  refine mm_go (d := d + 6) 1 rfl trivial (mm_one (f_rootY (d := d + 5) hv ?_))
  refine mm_go (d := d + 6) 3 rfl trivial (mm_one (h5_hasN (d := d + 5) h ?_))
  exact mm_one ⟨fun c => absurd rfl c, fun c => mm_one hk⟩
theorem f_obj {N : Bool → Int32 → Int32 → Int32 → Int32 → Int32 → (Nat → Int32) → (Nat → Int64) → (Nat → Int64) → Prop} {Y : Bool → Int32 → Int32 → Int32 → Int32 → Int32 → (Nat → Int32) → (Nat → Int64) → (Nat → Int64) → Nat → Prop} (hv : v < 64) (hz : z ≤ 100) (hc : c < z) (hn : fl c = nI n) (h : hdOk 1 f c n)
    (hmk : ∀ K' : mm_K, (∀ b un md tp ce pl ro hr th, N b un md tp ce pl ro hr th → K' (.inr 1) (wC b ev un md tp ce pl wa (nI z) fl pr rf ro hr th r)) → (∀ b un md tp ce pl ro hr th a, Y b un md tp ce pl ro hr th a → K' (.inl (some (.int (nI a)))) (wC b ev un md tp ce pl wa (nI z) fl pr rf ro hr th r)) → mm_cal (d + 6) false 57 [.ref 0, .long (lN (hdN 1 f c n))] (wC b ev un md tp ce pl wa (nI z) fl pr rf ro hr th r) K') (hN : ∀ b un md tp ce pl ro hr th, N b un md tp ce pl ro hr th → K (.inr 1) (wC b ev un md tp ce pl wa (nI z) fl pr rf ro hr th r)) (hY : ∀ b un md tp ce pl ro hr th a, Y b un md tp ce pl ro hr th a → a < 180001 ∧ hr a = lN (hdN 1 f c n) ∧ K (.inl (some (.int (cstI pr 1 f c n)))) (wC b ev un md tp ce pl wa (nI z) fl pr rf (upd ro v (nI a)) hr th r)) : mm_cal (d + 7) al 38 [.ref 0, .int (nI v), .int (nI c), .int (nI f)] (wC b ev un md tp ce pl wa (nI z) fl pr rf ro hr th r) K := by
  have hB : hasB z (nI c) := ⟨nI_pos' (by omega), nI_lt hc (by omega)⟩
  have i1 : vp_in (nI c) 100 := vp_in_nI (by omega) (by decide)
  have e1 : fl (nI c).toNatClampNeg = nI n := by rw [nI_clamp (by omega)]; exact hn
  refine mm_go (d := d + 6) 1 rfl trivial (mm_one (f_rootY (d := d + 5) hv ?_))
  refine mm_go (d := d + 6) 3 rfl trivial (mm_one (h5_hasY (d := d + 5) hB ?_))
  refine mm_one ⟨fun _ => ?_, fun u => absurd (Classical.not_not.mp u) (by decide)⟩
  refine mm_go (d := d + 6) (st' := [.int (fl (nI c).toNatClampNeg), .int (nI c), .int (nI f), .int (nI 1), .ref 0, .int (nI v), .ref 1]) 12 rfl ⟨i1, trivial⟩ ?_
  rw [e1]
  refine mm_one (h8_of (d := d + 5) h ?_)
  refine mm_one (hmk _ (fun b un md tp ce pl ro hr th hp => hN b un md tp ce pl ro hr th hp) (fun b un md tp ce pl ro hr th a hp => ?_))
  obtain ⟨ha, hh, hk⟩ := hY b un md tp ce pl ro hr th a hp
  refine mm_one (h3_holdNew (d := d + 3) h (fun _ => by omega) hv ha hh ?_)
  exact mm_one hk
theorem f_txtR {u : Int32} (h : x < 0 ∨ 64 ≤ x) (hk : K (.inr 2) (wC b ev un md tp ce pl wa sz fl pr rf ro hr th r)) : mm_cal (d + 7) al 40 [.ref 0, .int x, .int y, .int u] (wC b ev un md tp ce pl wa sz fl pr rf ro hr th r) K := by
  exact mm_go (d := d + 6) 1 rfl trivial (mm_one (f_rootN (d := d + 5) h hk))
theorem f_txtN {u : Int32} (hv : v < 64) (h : y < 0 ∨ 100000 < y) (hk : K (.inr 0) (wC b ev un md tp ce pl wa sz fl pr rf ro hr th r)) : mm_cal (d + 7) al 40 [.ref 0, .int (nI v), .int y, .int u] (wC b ev un md tp ce pl wa sz fl pr rf ro hr th r) K := by
  refine mm_go (d := d + 6) 1 rfl trivial (mm_one (f_rootY (d := d + 5) hv ?_))
  exact mm_go (d := d + 6) 1 rfl trivial (mm_one (f_lenN (d := d + 5) h hk))
theorem f_txt {N : Bool → Int32 → Int32 → Int32 → Int32 → Int32 → (Nat → Int32) → (Nat → Int64) → (Nat → Int64) → Prop} {Y : Bool → Int32 → Int32 → Int32 → Int32 → Int32 → (Nat → Int32) → (Nat → Int64) → (Nat → Int64) → Nat → Prop} (hv : v < 64) (h : hdOk 4 f 0 n)
    (hmk : ∀ K' : mm_K, (∀ b un md tp ce pl ro hr th, N b un md tp ce pl ro hr th → K' (.inr 1) (wC b ev un md tp ce pl wa sz fl pr rf ro hr th r)) → (∀ b un md tp ce pl ro hr th a, Y b un md tp ce pl ro hr th a → K' (.inl (some (.int (nI a)))) (wC b ev un md tp ce pl wa sz fl pr rf ro hr th r)) → mm_cal (d + 6) false 57 [.ref 0, .long (lN (hdN 4 f 0 n))] (wC b ev un md tp ce pl wa sz fl pr rf ro hr th r) K') (hN : ∀ b un md tp ce pl ro hr th, N b un md tp ce pl ro hr th → K (.inr 1) (wC b ev un md tp ce pl wa sz fl pr rf ro hr th r)) (hY : ∀ b un md tp ce pl ro hr th a, Y b un md tp ce pl ro hr th a → a < 180001 ∧ hr a = lN (hdN 4 f 0 n) ∧ K (.inl (some (.int (cstI pr 4 f 0 n)))) (wC b ev un md tp ce pl wa sz fl pr rf (upd ro v (nI a)) hr th r)) : mm_cal (d + 7) al 40 [.ref 0, .int (nI v), .int (nI n), .int (nI f)] (wC b ev un md tp ce pl wa sz fl pr rf ro hr th r) K := by
  refine mm_go (d := d + 6) 1 rfl trivial (mm_one (f_rootY (d := d + 5) hv ?_))
  refine mm_go (d := d + 6) 1 rfl trivial (mm_one (f_lenY (d := d + 5) h.2.2.2 ?_))
  refine mm_go (d := d + 6) (st' := [.int (nI n), .int (nI 0), .int (nI f), .int (nI 4), .ref 0, .int (nI v), .ref 1]) 8 rfl trivial ?_
  refine mm_one (h8_of (d := d + 5) h ?_)
  refine mm_one (hmk _ (fun b un md tp ce pl ro hr th hp => hN b un md tp ce pl ro hr th hp) (fun b un md tp ce pl ro hr th a hp => ?_))
  obtain ⟨ha, hh, hk⟩ := hY b un md tp ce pl ro hr th a hp
  refine mm_one (h3_holdNew (d := d + 3) h (fun e => by omega) hv ha hh ?_)
  exact mm_one hk
theorem f_arrR {u : Int32} (h : x < 0 ∨ 64 ≤ x) (hk : K (.inr 2) (wC b ev un md tp ce pl wa sz fl pr rf ro hr th r)) : mm_cal (d + 7) al 39 [.ref 0, .int x, .int y, .int u] (wC b ev un md tp ce pl wa sz fl pr rf ro hr th r) K := by
  exact mm_go (d := d + 6) 1 rfl trivial (mm_one (f_rootN (d := d + 5) h hk))
theorem f_arrN {u : Int32} (hv : v < 64) (h : y < 0 ∨ 100000 < y) (hk : K (.inr 0) (wC b ev un md tp ce pl wa sz fl pr rf ro hr th r)) : mm_cal (d + 7) al 39 [.ref 0, .int (nI v), .int y, .int u] (wC b ev un md tp ce pl wa sz fl pr rf ro hr th r) K := by
  refine mm_go (d := d + 6) 1 rfl trivial (mm_one (f_rootY (d := d + 5) hv ?_))
  exact mm_go (d := d + 6) 1 rfl trivial (mm_one (f_lenN (d := d + 5) h hk))
theorem f_arr0 {N : Bool → Int32 → Int32 → Int32 → Int32 → Int32 → (Nat → Int32) → (Nat → Int64) → (Nat → Int64) → Prop} {Y : Bool → Int32 → Int32 → Int32 → Int32 → Int32 → (Nat → Int32) → (Nat → Int64) → (Nat → Int64) → Nat → Prop} (hv : v < 64) (h : hdOk 2 0 0 n)
    (hmk : ∀ K' : mm_K, (∀ b un md tp ce pl ro hr th, N b un md tp ce pl ro hr th → K' (.inr 1) (wC b ev un md tp ce pl wa sz fl pr rf ro hr th r)) → (∀ b un md tp ce pl ro hr th a, Y b un md tp ce pl ro hr th a → K' (.inl (some (.int (nI a)))) (wC b ev un md tp ce pl wa sz fl pr rf ro hr th r)) → mm_cal (d + 6) false 57 [.ref 0, .long (lN (hdN 2 0 0 n))] (wC b ev un md tp ce pl wa sz fl pr rf ro hr th r) K') (hN : ∀ b un md tp ce pl ro hr th, N b un md tp ce pl ro hr th → K (.inr 1) (wC b ev un md tp ce pl wa sz fl pr rf ro hr th r)) (hY : ∀ b un md tp ce pl ro hr th a, Y b un md tp ce pl ro hr th a → a < 180001 ∧ hr a = lN (hdN 2 0 0 n) ∧ K (.inl (some (.int (cstI pr 2 0 0 n)))) (wC b ev un md tp ce pl wa sz fl pr rf (upd ro v (nI a)) hr th r)) : mm_cal (d + 7) al 39 [.ref 0, .int (nI v), .int (nI n), .int (nI 0)] (wC b ev un md tp ce pl wa sz fl pr rf ro hr th r) K := by
  refine mm_go (d := d + 6) 1 rfl trivial (mm_one (f_rootY (d := d + 5) hv ?_))
  refine mm_go (d := d + 6) 1 rfl trivial (mm_one (f_lenY (d := d + 5) h.2.2.2 ?_))
  refine mm_go (d := d + 6) 5 rfl trivial (mm_one ⟨fun _ => ?_, fun u => absurd rfl u⟩)
  refine mm_go (d := d + 6) (st' := [.int (nI n), .int (nI 0), .int (nI 0), .int (nI 2), .ref 0, .int (nI v), .ref 1]) 4 rfl trivial ?_
  refine mm_one (h8_of (d := d + 5) h ?_)
  refine mm_one (hmk _ (fun b un md tp ce pl ro hr th hp => hN b un md tp ce pl ro hr th hp) (fun b un md tp ce pl ro hr th a hp => ?_))
  obtain ⟨ha, hh, hk⟩ := hY b un md tp ce pl ro hr th a hp
  refine mm_one (h3_holdNew (d := d + 3) h (fun e => by omega) hv ha hh ?_)
  exact mm_one hk
theorem f_arr1 {N : Bool → Int32 → Int32 → Int32 → Int32 → Int32 → (Nat → Int32) → (Nat → Int64) → (Nat → Int64) → Prop} {Y : Bool → Int32 → Int32 → Int32 → Int32 → Int32 → (Nat → Int32) → (Nat → Int64) → (Nat → Int64) → Nat → Prop} (hv : v < 64) (h : hdOk 3 0 0 n)
    (hmk : ∀ K' : mm_K, (∀ b un md tp ce pl ro hr th, N b un md tp ce pl ro hr th → K' (.inr 1) (wC b ev un md tp ce pl wa sz fl pr rf ro hr th r)) → (∀ b un md tp ce pl ro hr th a, Y b un md tp ce pl ro hr th a → K' (.inl (some (.int (nI a)))) (wC b ev un md tp ce pl wa sz fl pr rf ro hr th r)) → mm_cal (d + 6) false 57 [.ref 0, .long (lN (hdN 3 0 0 n))] (wC b ev un md tp ce pl wa sz fl pr rf ro hr th r) K') (hN : ∀ b un md tp ce pl ro hr th, N b un md tp ce pl ro hr th → K (.inr 1) (wC b ev un md tp ce pl wa sz fl pr rf ro hr th r)) (hY : ∀ b un md tp ce pl ro hr th a, Y b un md tp ce pl ro hr th a → a < 180001 ∧ hr a = lN (hdN 3 0 0 n) ∧ K (.inl (some (.int (cstI pr 3 0 0 n)))) (wC b ev un md tp ce pl wa sz fl pr rf (upd ro v (nI a)) hr th r)) : mm_cal (d + 7) al 39 [.ref 0, .int (nI v), .int (nI n), .int (nI 1)] (wC b ev un md tp ce pl wa sz fl pr rf ro hr th r) K := by
  refine mm_go (d := d + 6) 1 rfl trivial (mm_one (f_rootY (d := d + 5) hv ?_))
  refine mm_go (d := d + 6) 1 rfl trivial (mm_one (f_lenY (d := d + 5) h.2.2.2 ?_))
  refine mm_go (d := d + 6) 5 rfl trivial (mm_one ⟨fun u => absurd (show nI 1 = 0 from u) (by decide), fun _ => ?_⟩)
  refine mm_go (d := d + 6) (st' := [.int (nI n), .int (nI 0), .int (nI 0), .int (nI 3), .ref 0, .int (nI v), .ref 1]) 5 rfl trivial ?_
  refine mm_one (h8_of (d := d + 5) h ?_)
  refine mm_one (hmk _ (fun b un md tp ce pl ro hr th hp => hN b un md tp ce pl ro hr th hp) (fun b un md tp ce pl ro hr th a hp => ?_))
  obtain ⟨ha, hh, hk⟩ := hY b un md tp ce pl ro hr th a hp
  refine mm_one (h3_holdNew (d := d + 3) h (fun e => by omega) hv ha hh ?_)
  exact mm_one hk
end
