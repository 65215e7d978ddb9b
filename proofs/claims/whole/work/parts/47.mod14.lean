section
variable {d : Nat} {al : Bool} {K : mm_K} {w r : mm_W} {b : Bool} {ev un md tp ce pl wa sz : Int32} {fl pr ro : Nat → Int32} {rf hr th : Nat → Int64}
variable {cl tn ft bn fb us tk ma nt tr mk : Int32} {kd wh ca pa he fi mb td nx rt : Nat → Int32} {nu : Nat → Int64} {q k f t n i j v u s : Nat} {x y z o : Int32} {l : Int64} {B : Nat → Nat}
theorem m_obj {N : (Nat → Int32) → (Nat → Int32) → Int32 → Int32 → Int32 → Int32 → Int32 → (Nat → Int32) → (Nat → Int32) → (Nat → Int32) → Int32 → (Nat → Int32) → (Nat → Int32) → (Nat → Int32) → (Nat → Int32) → Int32 → (Nat → Int64) → Int32 → Prop} {Y : (Nat → Int32) → (Nat → Int32) → Int32 → Int32 → Int32 → Int32 → Int32 → (Nat → Int32) → (Nat → Int32) → (Nat → Int32) → Int32 → (Nat → Int32) → (Nat → Int32) → (Nat → Int32) → (Nat → Int32) → Int32 → (Nat → Int64) → Int32 → Nat → Prop} {c zz : Nat} (hv : v < 64) (hz : zz ≤ 100) (hc : c < zz) (hn : fl c = nI n) (hf : f < 2)
    (hmk : ∀ K' : mm_K, (∀ mb td us tk ft fb mk kd fi nx tn wh ca pa he bn nu ma, N mb td us tk ft fb mk kd fi nx tn wh ca pa he bn nu ma → K' (.inl (some (.int (-1)))) (wC b ev un md tp ce pl wa sz fl pr rf ro hr th (wM (nI zz) tn ft bn fb us tk ma nt tr mk fl rf pr kd wh ca pa he fi mb td nu nx rt r))) → (∀ mb td us tk ft fb mk kd fi nx tn wh ca pa he bn nu ma q, Y mb td us tk ft fb mk kd fi nx tn wh ca pa he bn nu ma q → K' (.inl (some (.int (nI q)))) (wC b ev un md tp ce pl wa sz fl pr rf ro hr th (wM (nI zz) tn ft bn fb us tk ma nt tr mk fl rf pr kd wh ca pa he fi mb td nu nx rt r))) → mm_cal (d + 5) false 70 [.ref 9, .int (nI 1), .int (nI c), .int (cstI pr 1 f c n), .int (nI (hdP 1 n)), .int 0] (wC b ev un md tp ce pl wa sz fl pr rf ro hr th (wM (nI zz) tn ft bn fb us tk ma nt tr mk fl rf pr kd wh ca pa he fi mb td nu nx rt r)) K')
    (hN : ∀ mb td us tk ft fb mk kd fi nx tn wh ca pa he bn nu ma, N mb td us tk ft fb mk kd fi nx tn wh ca pa he bn nu ma → K (.inl (some (.int (nI 0)))) (wC b ev un md tp ce pl wa sz fl pr rf ro hr th (wM (nI zz) tn ft bn fb us tk ma nt 3 mk fl rf pr kd wh ca pa he fi mb td nu nx rt r)))
    (hY : ∀ mb td us tk ft fb mk kd fi nx tn wh ca pa he bn nu ma q, Y mb td us tk ft fb mk kd fi nx tn wh ca pa he bn nu ma q → q < 180100 ∧ K (.inl (some (.int (cstI pr 1 f c n)))) (wC b ev un md tp ce pl wa sz fl pr rf ro hr th (wM (nI zz) tn ft bn fb us tk ma nt 0 mk fl rf pr kd wh ca pa he fi mb td nu nx (upd rt v (nI q)) r))) : mm_cal (d + 6) al 72 [.ref 9, .int (nI v), .int (nI c), .int (nI f)] (wC b ev un md tp ce pl wa sz fl pr rf ro hr th (wM (nI zz) tn ft bn fb us tk ma nt tr mk fl rf pr kd wh ca pa he fi mb td nu nx rt r)) K := by
  have i1 : vp_in (nI c) 100 := vp_in_nI (by omega) (by decide)
  have e1 : (nI c).toNatClampNeg = c := nI_clamp (by omega)
  have e2 : (1 : Int32) + nI n = nI (hdP 1 n) := by rw [show (1 : Int32) = nI 1 from rfl, nI_add]; rfl
  have fin : mm_wp (d + 6) none al 72 K 0 0 45 [(0, .ref 9), (1, .int (nI v)), (2, .int (nI c)), (3, .int (nI f))] [.int (cstI pr 1 f c n)] (wC b ev un md tp ce pl wa sz fl pr rf ro hr th (wM (nI zz) tn ft bn fb us tk ma nt tr mk fl rf pr kd wh ca pa he fi mb td nu nx rt r)) := by
    refine mm_go (d := d + 5) (lv' := [(0, .ref 9), (1, .int (nI v)), (2, .int (nI c)), (3, .int (nI f)), (4, .int (cstI pr 1 f c n))]) (st' := [.int 0, .int (1 + fl (nI c).toNatClampNeg), .int (cstI pr 1 f c n), .int (nI c), .int (nI 1), .ref 9, .int (nI v), .ref 9]) 14 rfl ⟨i1, trivial⟩ ?_
    rw [e1, hn, e2]
    refine mm_one (hmk _ (fun mb td us tk ft fb mk kd fi nx tn wh ca pa he bn nu ma hP => ?_) (fun mb td us tk ft fb mk kd fi nx tn wh ca pa he bn nu ma q hP => ?_))
    · refine mm_go (d := d + 5) 1 rfl trivial (mm_one (m_comeN (d := d + 3) ?_))
      exact mm_one (hN mb td us tk ft fb mk kd fi nx tn wh ca pa he bn nu ma hP)
    · obtain ⟨hq, hKq⟩ := hY mb td us tk ft fb mk kd fi nx tn wh ca pa he bn nu ma q hP
      have hq1 : ¬ nI q = -1 := fun e => absurd (show nI q < 0 by rw [e]; decide) (nI_pos (by omega))
      refine mm_go (d := d + 5) 1 rfl trivial (mm_one (m_comeY (d := d + 3) hv hq1 ?_))
      exact mm_one hKq
  refine mm_go (d := d + 5) 1 rfl trivial (mm_one (m_isRootY (d := d + 4) hv ?_))
  refine mm_one ⟨fun _ => ?_, fun u => absurd (Classical.not_not.mp u) (by decide)⟩
  refine mm_go (d := d + 5) 1 rfl trivial (mm_one ⟨fun u => absurd u (nI_pos (by omega)), fun _ => ?_⟩)
  refine mm_go (d := d + 5) 3 rfl trivial (mm_one ⟨fun _ => ?_, fun u => absurd (nI_lt hc (by omega)) u⟩)
  refine mm_go (d := d + 5) 1 rfl trivial (mm_one ⟨fun u => ?_, fun u => ?_⟩)
  · have u : f = 0 := (nI_eq (by omega) (by decide)).mp u
    subst u
    refine mm_go (d := d + 5) (st' := [.int (pr (nI c).toNatClampNeg)]) 4 rfl ⟨i1, trivial⟩ ?_
    rw [e1]
    exact fin
  · have u : f = 1 := by
      have : ¬ f = 0 := fun e => u (by rw [e]; rfl)
      omega
    subst u
    exact mm_go (d := d + 5) 2 rfl trivial fin
theorem m_arr0 {N : (Nat → Int32) → (Nat → Int32) → Int32 → Int32 → Int32 → Int32 → Int32 → (Nat → Int32) → (Nat → Int32) → (Nat → Int32) → Int32 → (Nat → Int32) → (Nat → Int32) → (Nat → Int32) → (Nat → Int32) → Int32 → (Nat → Int64) → Int32 → Prop} {Y : (Nat → Int32) → (Nat → Int32) → Int32 → Int32 → Int32 → Int32 → Int32 → (Nat → Int32) → (Nat → Int32) → (Nat → Int32) → Int32 → (Nat → Int32) → (Nat → Int32) → (Nat → Int32) → (Nat → Int32) → Int32 → (Nat → Int64) → Int32 → Nat → Prop} (hv : v < 64) (hn : n ≤ 100000)
    (hmk : ∀ K' : mm_K, (∀ mb td us tk ft fb mk kd fi nx tn wh ca pa he bn nu ma, N mb td us tk ft fb mk kd fi nx tn wh ca pa he bn nu ma → K' (.inl (some (.int (-1)))) (wC b ev un md tp ce pl wa sz fl pr rf ro hr th (wM cl tn ft bn fb us tk ma nt tr mk fl rf pr kd wh ca pa he fi mb td nu nx rt r))) → (∀ mb td us tk ft fb mk kd fi nx tn wh ca pa he bn nu ma q, Y mb td us tk ft fb mk kd fi nx tn wh ca pa he bn nu ma q → K' (.inl (some (.int (nI q)))) (wC b ev un md tp ce pl wa sz fl pr rf ro hr th (wM cl tn ft bn fb us tk ma nt tr mk fl rf pr kd wh ca pa he fi mb td nu nx rt r))) → mm_cal (d + 5) false 70 [.ref 9, .int (nI 2), .int (nI n), .int (nI (2 + n)), .int (nI (2 + n)), .int 0] (wC b ev un md tp ce pl wa sz fl pr rf ro hr th (wM cl tn ft bn fb us tk ma nt tr mk fl rf pr kd wh ca pa he fi mb td nu nx rt r)) K')
    (hN : ∀ mb td us tk ft fb mk kd fi nx tn wh ca pa he bn nu ma, N mb td us tk ft fb mk kd fi nx tn wh ca pa he bn nu ma → K (.inl (some (.int (nI 0)))) (wC b ev un md tp ce pl wa sz fl pr rf ro hr th (wM cl tn ft bn fb us tk ma nt 3 mk fl rf pr kd wh ca pa he fi mb td nu nx rt r)))
    (hY : ∀ mb td us tk ft fb mk kd fi nx tn wh ca pa he bn nu ma q, Y mb td us tk ft fb mk kd fi nx tn wh ca pa he bn nu ma q → q < 180100 ∧ K (.inl (some (.int (nI (2 + n))))) (wC b ev un md tp ce pl wa sz fl pr rf ro hr th (wM cl tn ft bn fb us tk ma nt 0 mk fl rf pr kd wh ca pa he fi mb td nu nx (upd rt v (nI q)) r))) : mm_cal (d + 6) al 73 [.ref 9, .int (nI v), .int (nI n), .int (nI 0)] (wC b ev un md tp ce pl wa sz fl pr rf ro hr th (wM cl tn ft bn fb us tk ma nt tr mk fl rf pr kd wh ca pa he fi mb td nu nx rt r)) K := by
  have e2 : (2 : Int32) + nI n = nI (2 + n) := by rw [show (2 : Int32) = nI 2 from rfl, nI_add]
  refine mm_go (d := d + 5) 1 rfl trivial (mm_one (m_isRootY (d := d + 4) hv ?_))
  refine mm_one ⟨fun _ => ?_, fun u => absurd (Classical.not_not.mp u) (by decide)⟩
  refine mm_go (d := d + 5) 1 rfl trivial (mm_one ⟨fun u => absurd u (nI_pos (by omega)), fun _ => ?_⟩)
  refine mm_go (d := d + 5) 2 rfl trivial (mm_one ⟨fun _ => ?_, fun u => absurd (show nI n ≤ nI 100000 from nI_le hn (by decide)) u⟩)
  refine mm_go (d := d + 5) 4 rfl trivial (mm_one ⟨fun _ => ?_, fun u => absurd rfl u⟩)
  refine mm_go (d := d + 5) (st' := [.int 0, .int (2 + nI n), .int (2 + nI n), .int (nI n), .int (nI 2), .ref 9, .int (nI v), .ref 9]) 9 rfl trivial ?_
  rw [e2]
  refine mm_one (hmk _ (fun mb td us tk ft fb mk kd fi nx tn wh ca pa he bn nu ma hP => ?_) (fun mb td us tk ft fb mk kd fi nx tn wh ca pa he bn nu ma q hP => ?_))
  · refine mm_go (d := d + 5) 3 rfl trivial (mm_one (m_comeN (d := d + 3) ?_))
    exact mm_one (hN mb td us tk ft fb mk kd fi nx tn wh ca pa he bn nu ma hP)
  · obtain ⟨hq, hKq⟩ := hY mb td us tk ft fb mk kd fi nx tn wh ca pa he bn nu ma q hP
    have hq1 : ¬ nI q = -1 := fun e => absurd (show nI q < 0 by rw [e]; decide) (nI_pos (by omega))
    refine mm_go (d := d + 5) (st' := [.int (2 + nI n), .int (nI q), .int (nI v), .ref 9]) 3 rfl trivial ?_
    rw [e2]
    exact mm_one (m_comeY (d := d + 3) hv hq1 (mm_one hKq))
theorem m_arr1 {N : (Nat → Int32) → (Nat → Int32) → Int32 → Int32 → Int32 → Int32 → Int32 → (Nat → Int32) → (Nat → Int32) → (Nat → Int32) → Int32 → (Nat → Int32) → (Nat → Int32) → (Nat → Int32) → (Nat → Int32) → Int32 → (Nat → Int64) → Int32 → Prop} {Y : (Nat → Int32) → (Nat → Int32) → Int32 → Int32 → Int32 → Int32 → Int32 → (Nat → Int32) → (Nat → Int32) → (Nat → Int32) → Int32 → (Nat → Int32) → (Nat → Int32) → (Nat → Int32) → (Nat → Int32) → Int32 → (Nat → Int64) → Int32 → Nat → Prop} (hv : v < 64) (hn : n ≤ 100000)
    (hmk : ∀ K' : mm_K, (∀ mb td us tk ft fb mk kd fi nx tn wh ca pa he bn nu ma, N mb td us tk ft fb mk kd fi nx tn wh ca pa he bn nu ma → K' (.inl (some (.int (-1)))) (wC b ev un md tp ce pl wa sz fl pr rf ro hr th (wM cl tn ft bn fb us tk ma nt tr mk fl rf pr kd wh ca pa he fi mb td nu nx rt r))) → (∀ mb td us tk ft fb mk kd fi nx tn wh ca pa he bn nu ma q, Y mb td us tk ft fb mk kd fi nx tn wh ca pa he bn nu ma q → K' (.inl (some (.int (nI q)))) (wC b ev un md tp ce pl wa sz fl pr rf ro hr th (wM cl tn ft bn fb us tk ma nt tr mk fl rf pr kd wh ca pa he fi mb td nu nx rt r))) → mm_cal (d + 5) false 70 [.ref 9, .int (nI 3), .int (nI n), .int (nI (2 + n)), .int (nI (2 + n)), .int 0] (wC b ev un md tp ce pl wa sz fl pr rf ro hr th (wM cl tn ft bn fb us tk ma nt tr mk fl rf pr kd wh ca pa he fi mb td nu nx rt r)) K')
    (hN : ∀ mb td us tk ft fb mk kd fi nx tn wh ca pa he bn nu ma, N mb td us tk ft fb mk kd fi nx tn wh ca pa he bn nu ma → K (.inl (some (.int (nI 0)))) (wC b ev un md tp ce pl wa sz fl pr rf ro hr th (wM cl tn ft bn fb us tk ma nt 3 mk fl rf pr kd wh ca pa he fi mb td nu nx rt r)))
    (hY : ∀ mb td us tk ft fb mk kd fi nx tn wh ca pa he bn nu ma q, Y mb td us tk ft fb mk kd fi nx tn wh ca pa he bn nu ma q → q < 180100 ∧ K (.inl (some (.int (nI (2 + n))))) (wC b ev un md tp ce pl wa sz fl pr rf ro hr th (wM cl tn ft bn fb us tk ma nt 0 mk fl rf pr kd wh ca pa he fi mb td nu nx (upd rt v (nI q)) r))) : mm_cal (d + 6) al 73 [.ref 9, .int (nI v), .int (nI n), .int (nI 1)] (wC b ev un md tp ce pl wa sz fl pr rf ro hr th (wM cl tn ft bn fb us tk ma nt tr mk fl rf pr kd wh ca pa he fi mb td nu nx rt r)) K := by
  have e2 : (2 : Int32) + nI n = nI (2 + n) := by rw [show (2 : Int32) = nI 2 from rfl, nI_add]
  refine mm_go (d := d + 5) 1 rfl trivial (mm_one (m_isRootY (d := d + 4) hv ?_))
  refine mm_one ⟨fun _ => ?_, fun u => absurd (Classical.not_not.mp u) (by decide)⟩
  refine mm_go (d := d + 5) 1 rfl trivial (mm_one ⟨fun u => absurd u (nI_pos (by omega)), fun _ => ?_⟩)
  refine mm_go (d := d + 5) 2 rfl trivial (mm_one ⟨fun _ => ?_, fun u => absurd (show nI n ≤ nI 100000 from nI_le hn (by decide)) u⟩)
  refine mm_go (d := d + 5) 4 rfl trivial (mm_one ⟨fun u => absurd (show nI 1 = 0 from u) (by decide), fun _ => ?_⟩)
  refine mm_go (d := d + 5) (st' := [.int 0, .int (2 + nI n), .int (2 + nI n), .int (nI n), .int (nI 3), .ref 9, .int (nI v), .ref 9]) 10 rfl trivial ?_
  rw [e2]
  refine mm_one (hmk _ (fun mb td us tk ft fb mk kd fi nx tn wh ca pa he bn nu ma hP => ?_) (fun mb td us tk ft fb mk kd fi nx tn wh ca pa he bn nu ma q hP => ?_))
  · refine mm_go (d := d + 5) 3 rfl trivial (mm_one (m_comeN (d := d + 3) ?_))
    exact mm_one (hN mb td us tk ft fb mk kd fi nx tn wh ca pa he bn nu ma hP)
  · obtain ⟨hq, hKq⟩ := hY mb td us tk ft fb mk kd fi nx tn wh ca pa he bn nu ma q hP
    have hq1 : ¬ nI q = -1 := fun e => absurd (show nI q < 0 by rw [e]; decide) (nI_pos (by omega))
    refine mm_go (d := d + 5) (st' := [.int (2 + nI n), .int (nI q), .int (nI v), .ref 9]) 3 rfl trivial ?_
    rw [e2]
    exact mm_one (m_comeY (d := d + 3) hv hq1 (mm_one hKq))
theorem m_txt {N : (Nat → Int32) → (Nat → Int32) → Int32 → Int32 → Int32 → Int32 → Int32 → (Nat → Int32) → (Nat → Int32) → (Nat → Int32) → Int32 → (Nat → Int32) → (Nat → Int32) → (Nat → Int32) → (Nat → Int32) → Int32 → (Nat → Int64) → Int32 → Prop} {Y : (Nat → Int32) → (Nat → Int32) → Int32 → Int32 → Int32 → Int32 → Int32 → (Nat → Int32) → (Nat → Int32) → (Nat → Int32) → Int32 → (Nat → Int32) → (Nat → Int32) → (Nat → Int32) → (Nat → Int32) → Int32 → (Nat → Int64) → Int32 → Nat → Prop} (hv : v < 64) (hn : n ≤ 100000) (hf : f < 2)
    (hmk : ∀ K' : mm_K, (∀ mb td us tk ft fb mk kd fi nx tn wh ca pa he bn nu ma, N mb td us tk ft fb mk kd fi nx tn wh ca pa he bn nu ma → K' (.inl (some (.int (-1)))) (wC b ev un md tp ce pl wa sz fl pr rf ro hr th (wM cl tn ft bn fb us tk ma nt tr mk fl rf pr kd wh ca pa he fi mb td nu nx rt r))) → (∀ mb td us tk ft fb mk kd fi nx tn wh ca pa he bn nu ma q, Y mb td us tk ft fb mk kd fi nx tn wh ca pa he bn nu ma q → K' (.inl (some (.int (nI q)))) (wC b ev un md tp ce pl wa sz fl pr rf ro hr th (wM cl tn ft bn fb us tk ma nt tr mk fl rf pr kd wh ca pa he fi mb td nu nx rt r))) → mm_cal (d + 5) false 70 [.ref 9, .int (nI 4), .int (nI n), .int (cstI pr 4 f 0 n), .int (nI (hdP 4 n)), .int 0] (wC b ev un md tp ce pl wa sz fl pr rf ro hr th (wM cl tn ft bn fb us tk ma nt tr mk fl rf pr kd wh ca pa he fi mb td nu nx rt r)) K')
    (hN : ∀ mb td us tk ft fb mk kd fi nx tn wh ca pa he bn nu ma, N mb td us tk ft fb mk kd fi nx tn wh ca pa he bn nu ma → K (.inl (some (.int (nI 0)))) (wC b ev un md tp ce pl wa sz fl pr rf ro hr th (wM cl tn ft bn fb us tk ma nt 3 mk fl rf pr kd wh ca pa he fi mb td nu nx rt r)))
    (hY : ∀ mb td us tk ft fb mk kd fi nx tn wh ca pa he bn nu ma q, Y mb td us tk ft fb mk kd fi nx tn wh ca pa he bn nu ma q → q < 180100 ∧ K (.inl (some (.int (cstI pr 4 f 0 n)))) (wC b ev un md tp ce pl wa sz fl pr rf ro hr th (wM cl tn ft bn fb us tk ma nt 0 mk fl rf pr kd wh ca pa he fi mb td nu nx (upd rt v (nI q)) r))) : mm_cal (d + 6) al 74 [.ref 9, .int (nI v), .int (nI n), .int (nI f)] (wC b ev un md tp ce pl wa sz fl pr rf ro hr th (wM cl tn ft bn fb us tk ma nt tr mk fl rf pr kd wh ca pa he fi mb td nu nx rt r)) K := by
  have e2 : (2 : Int32) + nI n = nI (2 + n) := by rw [show (2 : Int32) = nI 2 from rfl, nI_add]
  have e3 : (2 : Int32) + (nI n + 3) / 4 = nI (hdP 4 n) := by
    rw [show (3 : Int32) = nI 3 from rfl, nI_add, show (4 : Int32) = nI 4 from rfl, pk_div (by omega) (by decide) (by decide), show (2 : Int32) = nI 2 from rfl, nI_add]
    exact congrArg nI (show 2 + (n + 3) / 4 = 1 + (n + 3) / 4 + 1 by omega)
  have fin : mm_wp (d + 6) none al 74 K 0 0 40 [(0, .ref 9), (1, .int (nI v)), (2, .int (nI n)), (3, .int (nI f))] [.int (cstI pr 4 f 0 n)] (wC b ev un md tp ce pl wa sz fl pr rf ro hr th (wM cl tn ft bn fb us tk ma nt tr mk fl rf pr kd wh ca pa he fi mb td nu nx rt r)) := by
    refine mm_go (d := d + 5) (lv' := [(0, .ref 9), (1, .int (nI v)), (2, .int (nI n)), (3, .int (nI f)), (4, .int (cstI pr 4 f 0 n))]) (st' := [.int 0, .int (2 + (nI n + 3) / 4), .int (cstI pr 4 f 0 n), .int (nI n), .int (nI 4), .ref 9, .int (nI v), .ref 9]) 15 rfl trivial ?_
    rw [e3]
    refine mm_one (hmk _ (fun mb td us tk ft fb mk kd fi nx tn wh ca pa he bn nu ma hP => ?_) (fun mb td us tk ft fb mk kd fi nx tn wh ca pa he bn nu ma q hP => ?_))
    · refine mm_go (d := d + 5) 1 rfl trivial (mm_one (m_comeN (d := d + 3) ?_))
      exact mm_one (hN mb td us tk ft fb mk kd fi nx tn wh ca pa he bn nu ma hP)
    · obtain ⟨hq, hKq⟩ := hY mb td us tk ft fb mk kd fi nx tn wh ca pa he bn nu ma q hP
      have hq1 : ¬ nI q = -1 := fun e => absurd (show nI q < 0 by rw [e]; decide) (nI_pos (by omega))
      refine mm_go (d := d + 5) 1 rfl trivial (mm_one (m_comeY (d := d + 3) hv hq1 ?_))
      exact mm_one hKq
  refine mm_go (d := d + 5) 1 rfl trivial (mm_one (m_isRootY (d := d + 4) hv ?_))
  refine mm_one ⟨fun _ => ?_, fun u => absurd (Classical.not_not.mp u) (by decide)⟩
  refine mm_go (d := d + 5) 1 rfl trivial (mm_one ⟨fun u => absurd u (nI_pos (by omega)), fun _ => ?_⟩)
  refine mm_go (d := d + 5) 2 rfl trivial (mm_one ⟨fun _ => ?_, fun u => absurd (show nI n ≤ nI 100000 from nI_le hn (by decide)) u⟩)
  refine mm_go (d := d + 5) 1 rfl trivial (mm_one ⟨fun u => ?_, fun u => ?_⟩)
  · have u : f = 0 := (nI_eq (by omega) (by decide)).mp u
    subst u
    refine mm_go (d := d + 5) (st' := [.int (2 + nI n)]) 3 rfl trivial ?_
    rw [e2]
    exact fin
  · have u : f = 1 := by
      have : ¬ f = 0 := fun e => u (by rw [e]; rfl)
      omega
    subst u
    exact mm_go (d := d + 5) 2 rfl trivial fin
theorem m_clo29 {m : Nat} (hv : v < 64) (hm : m ≤ 8) (hk : mm_wp (d + 6) none al 75 K 0 0 32 [(0, .ref 9), (1, .int (nI v)), (2, .int (nI m)), (3, .int z), (4, .int o), (5, .int (nI 0))] [] (wC b ev un md tp ce pl wa sz fl pr rf ro hr th (wM cl tn ft bn fb us tk ma nt tr mk fl rf pr kd wh ca pa he fi mb td nu nx rt r))) : mm_cal (d + 6) al 75 [.ref 9, .int (nI v), .int (nI m), .int z, .int o] (wC b ev un md tp ce pl wa sz fl pr rf ro hr th (wM cl tn ft bn fb us tk ma nt tr mk fl rf pr kd wh ca pa he fi mb td nu nx rt r)) K := by
  refine mm_go (d := d + 5) 1 rfl trivial (mm_one (m_isRootY (d := d + 4) hv ?_))
  refine mm_one ⟨fun _ => ?_, fun u => absurd (Classical.not_not.mp u) (by decide)⟩
  refine mm_go (d := d + 5) 1 rfl trivial (mm_one ⟨fun u => absurd u (nI_pos (by omega)), fun _ => ?_⟩)
  refine mm_go (d := d + 5) 2 rfl trivial (mm_one ⟨fun _ => ?_, fun u => absurd (show nI m ≤ nI 8 from nI_le hm (by decide)) u⟩)
  exact mm_go (d := d + 5) 2 rfl trivial hk
theorem m_clo32 {m g : Nat} (hm : m ≤ 8) (hg : g < 64)
    (hF : 64 < g + m → K (.inl (some (.int (nI 0)))) (wC b ev un md tp ce pl wa sz fl pr rf ro hr th (wM cl tn ft bn fb us tk ma nt 1 mk fl rf pr kd wh ca pa he fi mb td nu nx rt r)))
    (hk : g + m ≤ 64 → mm_wp (d + 6) none al 75 K 0 0 73 [(0, .ref 9), (1, .int (nI v)), (2, .int (nI m)), (3, .int z), (4, .int (nI g))] [] (wC b ev un md tp ce pl wa sz fl pr rf ro hr th (wM cl tn ft bn fb us tk ma nt tr mk fl rf pr kd wh ca pa he fi mb td nu nx rt r))) :
    ∀ (c i : Nat), m - i = c → i ≤ m → g + i ≤ 64 → mm_wp (d + 6) none al 75 K 0 0 32 [(0, .ref 9), (1, .int (nI v)), (2, .int (nI m)), (3, .int z), (4, .int (nI g)), (5, .int (nI i))] [] (wC b ev un md tp ce pl wa sz fl pr rf ro hr th (wM cl tn ft bn fb us tk ma nt tr mk fl rf pr kd wh ca pa he fi mb td nu nx rt r)) := by
  intro c
  induction c with
  | zero =>
    intro i hc hi hgi
    have e : i = m := by omega
    subst e
    exact mm_go (d := d + 5) 2 rfl trivial (mm_one ⟨fun _ => mm_few [0, 1, 2, 3, 4] rfl (hk hgi), fun u => absurd (nI_le (Nat.le_refl i) (by omega)) u⟩)
  | succ c ih =>
    intro i hc hi hgi
    refine mm_go (d := d + 5) 2 rfl trivial (mm_one ⟨fun u => absurd u (nI_ge (by omega) (by omega)), fun _ => ?_⟩)
    refine mm_go (d := d + 5) 1 rfl trivial (mm_one ⟨fun u => absurd u (nI_pos (by omega)), fun _ => ?_⟩)
    refine mm_go (d := d + 5) 2 rfl trivial (mm_one ⟨fun u => absurd (show nI 63 < nI g from u) (nI_nlt (by omega) (by decide)), fun _ => ?_⟩)
    refine mm_go (d := d + 5) (st' := [.int (nI g + nI i)]) 3 rfl trivial ?_
    rw [nI_add]
    by_cases h64 : g + i < 64
    · refine mm_one (m_isRootY (d := d + 4) h64 ?_)
      refine mm_one ⟨fun _ => ?_, fun u => absurd (Classical.not_not.mp u) (by decide)⟩
      refine mm_go (d := d + 5) (lv' := [(0, .ref 9), (1, .int (nI v)), (2, .int (nI m)), (3, .int z), (4, .int (nI g)), (5, .int (nI i + 1))]) 2 rfl trivial ?_
      rw [nI_1]
      exact ih (i + 1) (by omega) (by omega) (by omega)
    · refine mm_one (m_isRootN (d := d + 4) (.inr (show nI 64 ≤ nI (g + i) from nI_le (by omega) (by omega))) ?_)
      refine mm_one ⟨fun u => absurd rfl u, fun _ => ?_⟩
      refine mm_go (d := d + 5) 2 rfl trivial (mm_one (m_fails (d := d + 4) ?_))
      exact mm_one (hF (by omega))
theorem m_cloF {m : Nat} (hv : v < 64) (hm0 : 0 < m) (hm : m ≤ 8) (h : o < 0 ∨ nI (64 - m) < o) (hk : K (.inl (some (.int (nI 0)))) (wC b ev un md tp ce pl wa sz fl pr rf ro hr th (wM cl tn ft bn fb us tk ma nt 1 mk fl rf pr kd wh ca pa he fi mb td nu nx rt r))) : mm_cal (d + 6) al 75 [.ref 9, .int (nI v), .int (nI m), .int z, .int o] (wC b ev un md tp ce pl wa sz fl pr rf ro hr th (wM cl tn ft bn fb us tk ma nt tr mk fl rf pr kd wh ca pa he fi mb td nu nx rt r)) K := by
  refine m_clo29 hv hm ?_
  by_cases c0 : o < 0
  · refine mm_go (d := d + 5) 2 rfl trivial (mm_one ⟨fun u => absurd u (nI_ge (by omega) (by omega)), fun _ => ?_⟩)
    refine mm_go (d := d + 5) 1 rfl trivial (mm_one ⟨fun _ => ?_, fun u => absurd c0 u⟩)
    refine mm_go (d := d + 5) 2 rfl trivial (mm_one (m_fails (d := d + 4) ?_))
    exact mm_one hk
  · by_cases c1 : nI 63 < o
    · refine mm_go (d := d + 5) 2 rfl trivial (mm_one ⟨fun u => absurd u (nI_ge (by omega) (by omega)), fun _ => ?_⟩)
      refine mm_go (d := d + 5) 1 rfl trivial (mm_one ⟨fun u => absurd u c0, fun _ => ?_⟩)
      refine mm_go (d := d + 5) 2 rfl trivial (mm_one ⟨fun _ => ?_, fun u => absurd c1 u⟩)
      refine mm_go (d := d + 5) 2 rfl trivial (mm_one (m_fails (d := d + 4) ?_))
      exact mm_one hk
    · obtain ⟨g, hg, rfl⟩ := nI_of2 (x := o) (M := nI 63) (n := 63) (nI_toInt (by decide)) c0 (Int32.not_lt.mp c1)
      have hgm : 64 < g + m := by
        have h2 := (nI_ltI (by omega) (by omega)).mp (h.resolve_left c0)
        omega
      exact m_clo32 hm (by omega) (fun _ => hk) (fun e => absurd e (by omega)) m 0 rfl (Nat.zero_le _) (by omega)
theorem m_cloC {m g : Nat} {Inv : Nat → (Nat → Int64) → Prop} (hm : m ≤ 8) (hg : m = 0 ∨ g + m ≤ 64) (h : Mt fl pr rf kd wh ca pa he q 5 f t m) (hB : Mc fi nx q (bkN 5 m) B)
    (hs : ∀ i nu, i < m → Inv i nu → (isrN rf 5 t i = 0 → Inv (i + 1) nu) ∧ (isrN rf 5 t i = 1 → Inv (i + 1) (vp_updL nu (4 * B (i / 4) + i % 4) (rt (g + i) + 1).toInt64)))
    (hk : ∀ nu, Inv m nu → mm_wp (d + 6) none al 75 K 0 0 151 [(0, .ref 9), (1, .int (nI v)), (2, .int (nI m)), (3, .int z), (4, .int o), (5, .int (nI q)), (6, .int (nI m))] [] (wC b ev un md tp ce pl wa sz fl pr rf ro hr th (wM cl tn ft bn fb us tk ma nt tr mk fl rf pr kd wh ca pa he fi mb td nu nx rt r))) (ho : m = 0 ∨ o = nI g) :
    ∀ (c i : Nat) (nu : Nat → Int64), m - i = c → i ≤ m → Inv i nu → mm_wp (d + 6) none al 75 K 0 0 102 [(0, .ref 9), (1, .int (nI v)), (2, .int (nI m)), (3, .int z), (4, .int o), (5, .int (nI q)), (6, .int (nI i))] [] (wC b ev un md tp ce pl wa sz fl pr rf ro hr th (wM cl tn ft bn fb us tk ma nt tr mk fl rf pr kd wh ca pa he fi mb td nu nx rt r)) := by
  intro c
  induction c with
  | zero =>
    intro i nu hc hi hI
    have e : i = m := by omega
    subst e
    exact mm_go (d := d + 5) 2 rfl trivial (mm_one ⟨fun _ => hk _ hI, fun u => absurd (nI_le (Nat.le_refl i) (by omega)) u⟩)
  | succ c ih =>
    intro i nu hc hi hI
    have him : i < m := by omega
    have ho := ho.resolve_left (by omega)
    have hg := hg.resolve_left (by omega)
    subst ho
    obtain ⟨s0, s1⟩ := hs i nu him hI
    have h2 := isrN_2 rf 5 t i
    have hb : B (i / 4) < 190000 := hB.1 (i / 4) (wd_bk (k := 5) him)
    have fin : ∀ nu, Inv (i + 1) nu → mm_wp (d + 6) none al 75 K 0 0 145 [(0, .ref 9), (1, .int (nI v)), (2, .int (nI m)), (3, .int z), (4, .int (nI g)), (5, .int (nI q)), (6, .int (nI i))] [] (wC b ev un md tp ce pl wa sz fl pr rf ro hr th (wM cl tn ft bn fb us tk ma nt tr mk fl rf pr kd wh ca pa he fi mb td nu nx rt r)) := by
      intro nu hI'
      refine mm_go (d := d + 5) (lv' := [(0, .ref 9), (1, .int (nI v)), (2, .int (nI m)), (3, .int z), (4, .int (nI g)), (5, .int (nI q)), (6, .int (nI i + 1))]) 2 rfl trivial ?_
      rw [nI_1]
      exact ih (i + 1) nu (by omega) (by omega) hI'
    refine mm_go (d := d + 5) 2 rfl trivial (mm_one ⟨fun u => absurd u (nI_ge (by omega) (by omega)), fun _ => ?_⟩)
    refine mm_go (d := d + 5) 3 rfl trivial (mm_one (m_isRef (d := d + 4) h him ?_))
    refine mm_one ⟨fun u => ?_, fun u => ?_⟩
    · exact fin _ (s0 ((nI_eq (by omega) (by decide)).mp u))
    · have u : isrN rf 5 t i = 1 := by
        have : ¬ isrN rf 5 t i = 0 := fun e => u (by rw [e]; rfl)
        omega
      have ew : wdN 5 i = i := rfl
      have i1 : vp_in (nI (4 * B (i / 4) + i % 4)) 760000 := vp_in_nI (by omega) (by decide)
      have e1 : (nI (4 * B (i / 4) + i % 4)).toNatClampNeg = 4 * B (i / 4) + i % 4 := nI_clamp (by omega)
      have i2 : vp_in (nI g + nI i) 64 := by rw [nI_add]; exact vp_in_nI (by omega) (by decide)
      have e2 : (nI g + nI i).toNatClampNeg = g + i := by rw [nI_add]; exact nI_clamp (by omega)
      refine mm_go (d := d + 5) 5 rfl trivial (mm_one (m_place (d := d + 4) h hB him ?_))
      rw [ew]
      refine mm_go (d := d + 5) (w' := (wC b ev un md tp ce pl wa sz fl pr rf ro hr th (wM cl tn ft bn fb us tk ma nt tr mk fl rf pr kd wh ca pa he fi mb td (vp_updL nu (nI (4 * B (i / 4) + i % 4)).toNatClampNeg (rt (nI g + nI i).toNatClampNeg + 1).toInt64) nx rt r))) 10 rfl ⟨i2, i1, trivial⟩ ?_
      rw [e1, e2]
      exact fin _ (s1 u)
theorem m_clo {N : (Nat → Int32) → (Nat → Int32) → Int32 → Int32 → Int32 → Int32 → Int32 → (Nat → Int32) → (Nat → Int32) → (Nat → Int32) → Int32 → (Nat → Int32) → (Nat → Int32) → (Nat → Int32) → (Nat → Int32) → Int32 → (Nat → Int64) → Int32 → Prop} {Y : (Nat → Int32) → (Nat → Int32) → Int32 → Int32 → Int32 → Int32 → Int32 → (Nat → Int32) → (Nat → Int32) → (Nat → Int32) → Int32 → (Nat → Int32) → (Nat → Int32) → (Nat → Int32) → (Nat → Int32) → Int32 → (Nat → Int64) → Int32 → Nat → Prop} {m g : Nat} (hv : v < 64) (hm : m ≤ 8) (hg : m = 0 ∨ g + m ≤ 64) (ho : m = 0 ∨ o = nI g)
    (hmk : ∀ K' : mm_K, (∀ mb td us tk ft fb mk kd fi nx tn wh ca pa he bn nu ma, N mb td us tk ft fb mk kd fi nx tn wh ca pa he bn nu ma → K' (.inl (some (.int (-1)))) (wC b ev un md tp ce pl wa sz fl pr rf ro hr th (wM cl tn ft bn fb us tk ma nt tr mk fl rf pr kd wh ca pa he fi mb td nu nx rt r))) → (∀ mb td us tk ft fb mk kd fi nx tn wh ca pa he bn nu ma q, Y mb td us tk ft fb mk kd fi nx tn wh ca pa he bn nu ma q → K' (.inl (some (.int (nI q)))) (wC b ev un md tp ce pl wa sz fl pr rf ro hr th (wM cl tn ft bn fb us tk ma nt tr mk fl rf pr kd wh ca pa he fi mb td nu nx rt r))) → mm_cal (d + 5) false 70 [.ref 9, .int (nI 5), .int (nI m), .int 10, .int (nI (2 + m)), .int z] (wC b ev un md tp ce pl wa sz fl pr rf ro hr th (wM cl tn ft bn fb us tk ma nt tr mk fl rf pr kd wh ca pa he fi mb td nu nx rt r)) K')
    (hN : ∀ mb td us tk ft fb mk kd fi nx tn wh ca pa he bn nu ma, N mb td us tk ft fb mk kd fi nx tn wh ca pa he bn nu ma → K (.inl (some (.int (nI 0)))) (wC b ev un md tp ce pl wa sz fl pr rf ro hr th (wM cl tn ft bn fb us tk ma nt 3 mk fl rf pr kd wh ca pa he fi mb td nu nx rt r)))
    (hY : ∀ mb td us tk ft fb mk kd fi nx tn wh ca pa he bn nu ma q, Y mb td us tk ft fb mk kd fi nx tn wh ca pa he bn nu ma q → ∃ f t B, Mt fl pr rf kd wh ca pa he q 5 f t m ∧ Mc fi nx q (bkN 5 m) B ∧ ∃ Inv : Nat → (Nat → Int64) → Prop, Inv 0 nu ∧
      (∀ i nu, i < m → Inv i nu → (isrN rf 5 t i = 0 → Inv (i + 1) nu) ∧ (isrN rf 5 t i = 1 → Inv (i + 1) (vp_updL nu (4 * B (i / 4) + i % 4) (rt (g + i) + 1).toInt64))) ∧
      ∀ nu, Inv m nu → K (.inl (some (.int 10))) (wC b ev un md tp ce pl wa sz fl pr rf ro hr th (wM cl tn ft bn fb us tk ma nt 0 mk fl rf pr kd wh ca pa he fi mb td nu nx (upd rt v (nI q)) r))) : mm_cal (d + 6) al 75 [.ref 9, .int (nI v), .int (nI m), .int z, .int o] (wC b ev un md tp ce pl wa sz fl pr rf ro hr th (wM cl tn ft bn fb us tk ma nt tr mk fl rf pr kd wh ca pa he fi mb td nu nx rt r)) K := by
  have e2 : (2 : Int32) + nI m = nI (2 + m) := by rw [show (2 : Int32) = nI 2 from rfl, nI_add]
  have fin : mm_wp (d + 6) none al 75 K 0 0 73 [(0, .ref 9), (1, .int (nI v)), (2, .int (nI m)), (3, .int z), (4, .int o)] [] (wC b ev un md tp ce pl wa sz fl pr rf ro hr th (wM cl tn ft bn fb us tk ma nt tr mk fl rf pr kd wh ca pa he fi mb td nu nx rt r)) := by
    refine mm_go (d := d + 5) (st' := [.int z, .int (2 + nI m), .int 10, .int (nI m), .int (nI 5), .ref 9]) 8 rfl trivial ?_
    rw [e2]
    refine mm_one (hmk _ (fun mb td us tk ft fb mk kd fi nx tn wh ca pa he bn nu ma hP => ?_) (fun mb td us tk ft fb mk kd fi nx tn wh ca pa he bn nu ma q hP => ?_))
    · refine mm_go (d := d + 5) 3 rfl trivial (mm_one ⟨fun u => absurd rfl u, fun _ => ?_⟩)
      refine mm_go (d := d + 5) 2 rfl trivial (mm_one (m_fails (d := d + 4) ?_))
      exact mm_one (hN mb td us tk ft fb mk kd fi nx tn wh ca pa he bn nu ma hP)
    · obtain ⟨f, t, B, hMt, hB, Inv, hI0, hst, hend⟩ := hY mb td us tk ft fb mk kd fi nx tn wh ca pa he bn nu ma q hP
      have hq : q < 180100 := hMt.1
      have hq1 : ¬ nI q = -1 := fun e => absurd (show nI q < 0 by rw [e]; decide) (nI_pos (by omega))
      refine mm_go (d := d + 5) 3 rfl trivial (mm_one ⟨fun _ => ?_, fun u => absurd (Classical.not_not.mp u) hq1⟩)
      refine mm_go (d := d + 5) (lv' := [(0, .ref 9), (1, .int (nI v)), (2, .int (nI m)), (3, .int z), (4, .int o), (5, .int (nI q)), (6, .int (nI 0))]) 2 rfl trivial ?_
      refine m_cloC hm hg hMt hB hst (fun nu hI => ?_) ho m 0 nu rfl (Nat.zero_le _) hI0
      refine mm_go (d := d + 5) 4 rfl trivial (mm_one (m_comeY (d := d + 3) hv hq1 ?_))
      exact mm_one (hend nu hI)
  refine m_clo29 hv hm ?_
  by_cases c : m = 0
  · subst c
    exact mm_go (d := d + 5) 2 rfl trivial (mm_one ⟨fun _ => mm_few [0, 1, 2, 3, 4] rfl fin, fun u => absurd (show nI 0 ≤ nI 0 by decide) u⟩)
  · have hg := hg.resolve_left c
    have ho := ho.resolve_left c
    subst ho
    exact m_clo32 hm (by omega) (fun e => absurd e (by omega)) (fun _ => fin) m 0 rfl (Nat.zero_le _) (by omega)
end
