def Fw (z : Nat) (fl : Nat → Int32) : Prop := ∀ c, c < z → ∃ n, n ≤ 64 ∧ fl c = nI n
/-- the state of the law between two calls: N things were made -/
def LI (N : Nat) (w : mm_W) : Prop := ∃ b ev un md tp ce pl wa z fl pr rf ro hr th tn ft bn fb us tk tr mk kd wh ca pa he fi mb td nu nx rt ou G R, w = (wC b ev un md tp ce pl wa (nI z) fl pr rf ro hr th (wM (nI z) tn ft bn fb us tk md ev tr mk fl rf pr kd wh ca pa he fi mb td nu nx rt [(24, .inl (1, 1, .inr (.inl ou)))])) ∧ Pw z pr ∧ Fw z fl ∧ CI z fl pr rf N G R tp ce pl ro hr th ∧ MI z fl pr rf N G R tn ft bn fb us tk kd wh ca pa he fi nu nx rt
section
variable {L i k1 k2 z N v : Nat} {xs : Nat → Int32} {b : Bool} {ev un md tp ce pl wa sz : Int32} {fl pr ro : Nat → Int32} {rf hr th : Nat → Int64}
variable {cl tn ft bn fb us tk ma nt tr mk : Int32} {mf mp kd wh ca pa he fi mb td nx rt : Nat → Int32} {mr nu ou : Nat → Int64} {kk bb : Int32} {lb : Int64}
theorem n_shape (hi : i + 5 ≤ L) (hL : L ≤ 2560) (hk1 : k1 ≤ 601024) (hk2 : k2 ≤ 7293034) (hM : mm_cal 20 false 62 [.ref 9, .int (xs (i + 1)), .int (xs (i + 2)), .int (xs (i + 3)), .int (xs (i + 4))] (wC b ev un md tp ce pl wa sz fl pr rf ro hr th (wM cl tn ft bn fb us tk ma nt tr mk mf mr mp kd wh ca pa he fi mb td nu nx rt [(24, .inl (1, 1, .inr (.inl ou)))])) (fun o w' => mm_back 100 lw_K (mm_wp 21 (some (L, xs)) true 100 lw_K) k1 k2 168 171 [(0, .ref 99), (1, .ref 0), (2, .ref 9), (3, .ref 24), (4, .int (nI i)), (5, .int kk)] [] o w')) : mm_wp 21 (some (L, xs)) true 100 lw_K k1 k2 141 [(0, .ref 99), (1, .ref 0), (2, .ref 9), (3, .ref 24), (4, .int (nI i))] [.int kk] (wC b ev un md tp ce pl wa sz fl pr rf ro hr th (wM cl tn ft bn fb us tk ma nt tr mk mf mr mp kd wh ca pa he fi mb td nu nx rt [(24, .inl (1, 1, .inr (.inl ou)))])) := by
  have b1 : vp_in (nI i + 1) L := by rw [show (1 : Int32) = nI 1 from rfl, nI_add]; exact vp_in_nI (by omega) (by omega)
  have e1 : (nI i + 1).toNatClampNeg = i + 1 := by rw [show (1 : Int32) = nI 1 from rfl, nI_add]; exact nI_clamp (by omega)
  have b2 : vp_in (nI i + 2) L := by rw [show (2 : Int32) = nI 2 from rfl, nI_add]; exact vp_in_nI (by omega) (by omega)
  have e2 : (nI i + 2).toNatClampNeg = i + 2 := by rw [show (2 : Int32) = nI 2 from rfl, nI_add]; exact nI_clamp (by omega)
  have b3 : vp_in (nI i + 3) L := by rw [show (3 : Int32) = nI 3 from rfl, nI_add]; exact vp_in_nI (by omega) (by omega)
  have e3 : (nI i + 3).toNatClampNeg = i + 3 := by rw [show (3 : Int32) = nI 3 from rfl, nI_add]; exact nI_clamp (by omega)
  have b4 : vp_in (nI i + 4) L := by rw [show (4 : Int32) = nI 4 from rfl, nI_add]; exact vp_in_nI (by omega) (by omega)
  have e4 : (nI i + 4).toNatClampNeg = i + 4 := by rw [show (4 : Int32) = nI 4 from rfl, nI_add]; exact nI_clamp (by omega)
  have z1 : (pg_c 62).1 = 0 := rfl
  have z2 : (pg_c 62).2 = 0 := rfl
  refine mm_go (d := 20) (lv' := [(0, .ref 99), (1, .ref 0), (2, .ref 9), (3, .ref 24), (4, .int (nI i)), (5, .int kk)]) (st' := [.int (xs (nI i + 4).toNatClampNeg), .int (xs (nI i + 3).toNatClampNeg), .int (xs (nI i + 2).toNatClampNeg), .int (xs (nI i + 1).toNatClampNeg), .ref 9]) 22 rfl ⟨b1, b2, b3, b4, trivial⟩ ?_
  rw [e1, e2, e3, e4]
  exact mm_cvt rfl rfl rfl rfl (by rw [z1]; exact hk1) (by rw [z2]; exact hk2) (by rw [z1, z2]; exact hM)
theorem b_shape (hi : i + 5 ≤ L) (hL : L ≤ 2560) (hk1 : k1 + 4 ≤ 601024) (hk2 : k2 + 24 ≤ 7293034) (hM : mm_cal 20 false 88 [.ref 0, .int (xs (i + 1)), .int (xs (i + 2)), .int (xs (i + 3)), .int (xs (i + 4)), .ref 24] (wC b ev un md tp ce pl wa sz fl pr rf ro hr th (wM cl tn ft bn fb us tk ma nt tr mk mf mr mp kd wh ca pa he fi mb td nu nx rt [(24, .inl (1, 1, .inr (.inl ou)))])) (fun o w' => mm_back 100 lw_K (mm_wp 21 (some (L, xs)) true 100 lw_K) (k1 + 1) (k2 + 6) 138 141 [(0, .ref 99), (1, .ref 0), (2, .ref 9), (3, .ref 24), (4, .int (nI i))] [] o w')) : mm_wp 21 (some (L, xs)) true 100 lw_K k1 k2 112 [(0, .ref 99), (1, .ref 0), (2, .ref 9), (3, .ref 24), (4, .int (nI i))] [] (wC b ev un md tp ce pl wa sz fl pr rf ro hr th (wM cl tn ft bn fb us tk ma nt tr mk mf mr mp kd wh ca pa he fi mb td nu nx rt [(24, .inl (1, 1, .inr (.inl ou)))])) := by
  have b1 : vp_in (nI i + 1) L := by rw [show (1 : Int32) = nI 1 from rfl, nI_add]; exact vp_in_nI (by omega) (by omega)
  have e1 : (nI i + 1).toNatClampNeg = i + 1 := by rw [show (1 : Int32) = nI 1 from rfl, nI_add]; exact nI_clamp (by omega)
  have b2 : vp_in (nI i + 2) L := by rw [show (2 : Int32) = nI 2 from rfl, nI_add]; exact vp_in_nI (by omega) (by omega)
  have e2 : (nI i + 2).toNatClampNeg = i + 2 := by rw [show (2 : Int32) = nI 2 from rfl, nI_add]; exact nI_clamp (by omega)
  have b3 : vp_in (nI i + 3) L := by rw [show (3 : Int32) = nI 3 from rfl, nI_add]; exact vp_in_nI (by omega) (by omega)
  have e3 : (nI i + 3).toNatClampNeg = i + 3 := by rw [show (3 : Int32) = nI 3 from rfl, nI_add]; exact nI_clamp (by omega)
  have b4 : vp_in (nI i + 4) L := by rw [show (4 : Int32) = nI 4 from rfl, nI_add]; exact vp_in_nI (by omega) (by omega)
  have e4 : (nI i + 4).toNatClampNeg = i + 4 := by rw [show (4 : Int32) = nI 4 from rfl, nI_add]; exact nI_clamp (by omega)
  have z1 : (pg_c 88).1 = 1 := rfl
  have z2 : (pg_c 88).2 = 6 := rfl
  refine mm_go (d := 20) (lv' := [(0, .ref 99), (1, .ref 0), (2, .ref 9), (3, .ref 24), (4, .int (nI i))]) (st' := [.ref 24, .int (xs (nI i + 4).toNatClampNeg), .int (xs (nI i + 3).toNatClampNeg), .int (xs (nI i + 2).toNatClampNeg), .int (xs (nI i + 1).toNatClampNeg), .ref 0]) 22 rfl ⟨b1, b2, b3, b4, trivial⟩ ?_
  rw [e1, e2, e3, e4]
  exact mm_cst rfl rfl rfl (by rw [z1]; omega) (by rw [z2]; omega) (by rw [z1, z2]; exact hM)
theorem lt_shape (hk1 : k1 ≤ 601024) (hk2 : k2 ≤ 7293034) (h : ¬ kk = 0 ∨ ou 0 = bb.toInt64) (hn : mm_wp 21 (some (L, xs)) true 100 lw_K k1 k2 1093 [(0, .ref 99), (1, .ref 0), (2, .ref 9), (3, .ref 24), (4, .int (nI i))] [] (wC b ev un md tp ce pl wa sz fl pr rf ro hr th (wM cl tn ft bn fb us tk ma nt kk mk mf mr mp kd wh ca pa he fi mb td nu nx rt [(24, .inl (1, 1, .inr (.inl ou)))]))) : mm_wp 21 (some (L, xs)) true 100 lw_K k1 k2 171 [(0, .ref 99), (1, .ref 0), (2, .ref 9), (3, .ref 24), (4, .int (nI i)), (5, .int kk)] [.int bb] (wC b ev un md tp ce pl wa sz fl pr rf ro hr th (wM cl tn ft bn fb us tk ma nt kk mk mf mr mp kd wh ca pa he fi mb td nu nx rt [(24, .inl (1, 1, .inr (.inl ou)))])) := by
  have z1 : (pg_c 59).1 = 0 := rfl
  have z2 : (pg_c 59).2 = 0 := rfl
  refine mm_go (d := 20) 2 rfl trivial (mm_cvt rfl rfl rfl rfl (by rw [z1]; exact hk1) (by rw [z2]; exact hk2) (m_thrown (d := 19) ?_))
  rw [z1, z2]
  refine mm_go (d := 20) 1 rfl trivial (mm_one ⟨fun _ => ?_, fun c => absurd rfl c⟩)
  refine mm_go (d := 20) 1 rfl trivial (mm_one ⟨fun c => ?_, fun c => ?_⟩)
  · exact mm_go (d := 20) 1 rfl trivial (mm_few [0, 1, 2, 3, 4] rfl hn)
  · have h : ou 0 = bb.toInt64 := h.resolve_left c
    refine mm_go (d := 20) (st' := [.int (lg_cmp (ou (0 : Int32).toNatClampNeg) bb.toInt64)]) 6 rfl ⟨(vp_in_nI (n := 0) (by decide) (by decide) : vp_in (nI 0) 1), trivial⟩ ?_
    rw [show (0 : Int32).toNatClampNeg = 0 from rfl, h]
    refine mm_one ⟨fun _ => ?_, fun c => absurd ((lg_cmp_eq _ _).mpr rfl) c⟩
    exact mm_go (d := 20) 1 rfl trivial (mm_few [0, 1, 2, 3, 4] rfl hn)
theorem n_clo (hi : i + 5 ≤ L) (hL : L ≤ 2560) (hk1 : k1 ≤ 601024) (hk2 : k2 ≤ 7293034) (hM : mm_cal 20 false 75 [.ref 9, .int (xs (i + 1)), .int (xs (i + 2)), .int (xs (i + 3)), .int (xs (i + 4))] (wC b ev un md tp ce pl wa sz fl pr rf ro hr th (wM cl tn ft bn fb us tk ma nt tr mk mf mr mp kd wh ca pa he fi mb td nu nx rt [(24, .inl (1, 1, .inr (.inl ou)))])) (fun o w' => mm_back 100 lw_K (mm_wp 21 (some (L, xs)) true 100 lw_K) k1 k2 548 551 [(0, .ref 99), (1, .ref 0), (2, .ref 9), (3, .ref 24), (4, .int (nI i)), (5, .int kk)] [] o w')) : mm_wp 21 (some (L, xs)) true 100 lw_K k1 k2 521 [(0, .ref 99), (1, .ref 0), (2, .ref 9), (3, .ref 24), (4, .int (nI i))] [.int kk] (wC b ev un md tp ce pl wa sz fl pr rf ro hr th (wM cl tn ft bn fb us tk ma nt tr mk mf mr mp kd wh ca pa he fi mb td nu nx rt [(24, .inl (1, 1, .inr (.inl ou)))])) := by
  have b1 : vp_in (nI i + 1) L := by rw [show (1 : Int32) = nI 1 from rfl, nI_add]; exact vp_in_nI (by omega) (by omega)
  have e1 : (nI i + 1).toNatClampNeg = i + 1 := by rw [show (1 : Int32) = nI 1 from rfl, nI_add]; exact nI_clamp (by omega)
  have b2 : vp_in (nI i + 2) L := by rw [show (2 : Int32) = nI 2 from rfl, nI_add]; exact vp_in_nI (by omega) (by omega)
  have e2 : (nI i + 2).toNatClampNeg = i + 2 := by rw [show (2 : Int32) = nI 2 from rfl, nI_add]; exact nI_clamp (by omega)
  have b3 : vp_in (nI i + 3) L := by rw [show (3 : Int32) = nI 3 from rfl, nI_add]; exact vp_in_nI (by omega) (by omega)
  have e3 : (nI i + 3).toNatClampNeg = i + 3 := by rw [show (3 : Int32) = nI 3 from rfl, nI_add]; exact nI_clamp (by omega)
  have b4 : vp_in (nI i + 4) L := by rw [show (4 : Int32) = nI 4 from rfl, nI_add]; exact vp_in_nI (by omega) (by omega)
  have e4 : (nI i + 4).toNatClampNeg = i + 4 := by rw [show (4 : Int32) = nI 4 from rfl, nI_add]; exact nI_clamp (by omega)
  have z1 : (pg_c 75).1 = 0 := rfl
  have z2 : (pg_c 75).2 = 0 := rfl
  refine mm_go (d := 20) (lv' := [(0, .ref 99), (1, .ref 0), (2, .ref 9), (3, .ref 24), (4, .int (nI i)), (5, .int kk)]) (st' := [.int (xs (nI i + 4).toNatClampNeg), .int (xs (nI i + 3).toNatClampNeg), .int (xs (nI i + 2).toNatClampNeg), .int (xs (nI i + 1).toNatClampNeg), .ref 9]) 22 rfl ⟨b1, b2, b3, b4, trivial⟩ ?_
  rw [e1, e2, e3, e4]
  exact mm_cvt rfl rfl rfl rfl (by rw [z1]; exact hk1) (by rw [z2]; exact hk2) (by rw [z1, z2]; exact hM)
theorem b_clo (hi : i + 5 ≤ L) (hL : L ≤ 2560) (hk1 : k1 + 4 ≤ 601024) (hk2 : k2 + 24 ≤ 7293034) (hM : mm_cal 20 false 92 [.ref 0, .int (xs (i + 1)), .int (xs (i + 2)), .int (xs (i + 3)), .int (xs (i + 4)), .ref 24] (wC b ev un md tp ce pl wa sz fl pr rf ro hr th (wM cl tn ft bn fb us tk ma nt tr mk mf mr mp kd wh ca pa he fi mb td nu nx rt [(24, .inl (1, 1, .inr (.inl ou)))])) (fun o w' => mm_back 100 lw_K (mm_wp 21 (some (L, xs)) true 100 lw_K) (k1 + 3) (k2 + 18) 518 521 [(0, .ref 99), (1, .ref 0), (2, .ref 9), (3, .ref 24), (4, .int (nI i))] [] o w')) : mm_wp 21 (some (L, xs)) true 100 lw_K k1 k2 492 [(0, .ref 99), (1, .ref 0), (2, .ref 9), (3, .ref 24), (4, .int (nI i))] [] (wC b ev un md tp ce pl wa sz fl pr rf ro hr th (wM cl tn ft bn fb us tk ma nt tr mk mf mr mp kd wh ca pa he fi mb td nu nx rt [(24, .inl (1, 1, .inr (.inl ou)))])) := by
  have b1 : vp_in (nI i + 1) L := by rw [show (1 : Int32) = nI 1 from rfl, nI_add]; exact vp_in_nI (by omega) (by omega)
  have e1 : (nI i + 1).toNatClampNeg = i + 1 := by rw [show (1 : Int32) = nI 1 from rfl, nI_add]; exact nI_clamp (by omega)
  have b2 : vp_in (nI i + 2) L := by rw [show (2 : Int32) = nI 2 from rfl, nI_add]; exact vp_in_nI (by omega) (by omega)
  have e2 : (nI i + 2).toNatClampNeg = i + 2 := by rw [show (2 : Int32) = nI 2 from rfl, nI_add]; exact nI_clamp (by omega)
  have b3 : vp_in (nI i + 3) L := by rw [show (3 : Int32) = nI 3 from rfl, nI_add]; exact vp_in_nI (by omega) (by omega)
  have e3 : (nI i + 3).toNatClampNeg = i + 3 := by rw [show (3 : Int32) = nI 3 from rfl, nI_add]; exact nI_clamp (by omega)
  have b4 : vp_in (nI i + 4) L := by rw [show (4 : Int32) = nI 4 from rfl, nI_add]; exact vp_in_nI (by omega) (by omega)
  have e4 : (nI i + 4).toNatClampNeg = i + 4 := by rw [show (4 : Int32) = nI 4 from rfl, nI_add]; exact nI_clamp (by omega)
  have z1 : (pg_c 92).1 = 3 := rfl
  have z2 : (pg_c 92).2 = 18 := rfl
  refine mm_go (d := 20) (lv' := [(0, .ref 99), (1, .ref 0), (2, .ref 9), (3, .ref 24), (4, .int (nI i))]) (st' := [.ref 24, .int (xs (nI i + 4).toNatClampNeg), .int (xs (nI i + 3).toNatClampNeg), .int (xs (nI i + 2).toNatClampNeg), .int (xs (nI i + 1).toNatClampNeg), .ref 0]) 22 rfl ⟨b1, b2, b3, b4, trivial⟩ ?_
  rw [e1, e2, e3, e4]
  exact mm_cst rfl rfl rfl (by rw [z1]; omega) (by rw [z2]; omega) (by rw [z1, z2]; exact hM)
theorem lt_clo (hk1 : k1 ≤ 601024) (hk2 : k2 ≤ 7293034) (h : ¬ kk = 0 ∨ ou 0 = bb.toInt64) (hn : mm_wp 21 (some (L, xs)) true 100 lw_K k1 k2 1093 [(0, .ref 99), (1, .ref 0), (2, .ref 9), (3, .ref 24), (4, .int (nI i))] [] (wC b ev un md tp ce pl wa sz fl pr rf ro hr th (wM cl tn ft bn fb us tk ma nt kk mk mf mr mp kd wh ca pa he fi mb td nu nx rt [(24, .inl (1, 1, .inr (.inl ou)))]))) : mm_wp 21 (some (L, xs)) true 100 lw_K k1 k2 551 [(0, .ref 99), (1, .ref 0), (2, .ref 9), (3, .ref 24), (4, .int (nI i)), (5, .int kk)] [.int bb] (wC b ev un md tp ce pl wa sz fl pr rf ro hr th (wM cl tn ft bn fb us tk ma nt kk mk mf mr mp kd wh ca pa he fi mb td nu nx rt [(24, .inl (1, 1, .inr (.inl ou)))])) := by
  have z1 : (pg_c 59).1 = 0 := rfl
  have z2 : (pg_c 59).2 = 0 := rfl
  refine mm_go (d := 20) 2 rfl trivial (mm_cvt rfl rfl rfl rfl (by rw [z1]; exact hk1) (by rw [z2]; exact hk2) (m_thrown (d := 19) ?_))
  rw [z1, z2]
  refine mm_go (d := 20) 1 rfl trivial (mm_one ⟨fun _ => ?_, fun c => absurd rfl c⟩)
  refine mm_go (d := 20) 1 rfl trivial (mm_one ⟨fun c => ?_, fun c => ?_⟩)
  · exact mm_go (d := 20) 1 rfl trivial (mm_few [0, 1, 2, 3, 4] rfl hn)
  · have h : ou 0 = bb.toInt64 := h.resolve_left c
    refine mm_go (d := 20) (st' := [.int (lg_cmp (ou (0 : Int32).toNatClampNeg) bb.toInt64)]) 6 rfl ⟨(vp_in_nI (n := 0) (by decide) (by decide) : vp_in (nI 0) 1), trivial⟩ ?_
    rw [show (0 : Int32).toNatClampNeg = 0 from rfl, h]
    refine mm_one ⟨fun _ => ?_, fun c => absurd ((lg_cmp_eq _ _).mpr rfl) c⟩
    exact mm_go (d := 20) 1 rfl trivial (mm_few [0, 1, 2, 3, 4] rfl hn)
theorem n_put (hi : i + 5 ≤ L) (hL : L ≤ 2560) (hk1 : k1 ≤ 601024) (hk2 : k2 ≤ 7293034) (hM : mm_cal 20 false 78 [.ref 9, .int (xs (i + 1)), .int (xs (i + 2)), .long ((xs (i + 3)).toInt64 <<< ((32 : Int32).toInt64 &&& 63) ||| (xs (i + 4)).toInt64 &&& 4294967295)] (wC b ev un md tp ce pl wa sz fl pr rf ro hr th (wM cl tn ft bn fb us tk ma nt tr mk mf mr mp kd wh ca pa he fi mb td nu nx rt [(24, .inl (1, 1, .inr (.inl ou)))])) (fun o w' => mm_back 100 lw_K (mm_wp 21 (some (L, xs)) true 100 lw_K) k1 k2 660 663 [(0, .ref 99), (1, .ref 0), (2, .ref 9), (3, .ref 24), (4, .int (nI i)), (5, .int kk)] [] o w')) : mm_wp 21 (some (L, xs)) true 100 lw_K k1 k2 623 [(0, .ref 99), (1, .ref 0), (2, .ref 9), (3, .ref 24), (4, .int (nI i))] [.int kk] (wC b ev un md tp ce pl wa sz fl pr rf ro hr th (wM cl tn ft bn fb us tk ma nt tr mk mf mr mp kd wh ca pa he fi mb td nu nx rt [(24, .inl (1, 1, .inr (.inl ou)))])) := by
  have b1 : vp_in (nI i + 1) L := by rw [show (1 : Int32) = nI 1 from rfl, nI_add]; exact vp_in_nI (by omega) (by omega)
  have e1 : (nI i + 1).toNatClampNeg = i + 1 := by rw [show (1 : Int32) = nI 1 from rfl, nI_add]; exact nI_clamp (by omega)
  have b2 : vp_in (nI i + 2) L := by rw [show (2 : Int32) = nI 2 from rfl, nI_add]; exact vp_in_nI (by omega) (by omega)
  have e2 : (nI i + 2).toNatClampNeg = i + 2 := by rw [show (2 : Int32) = nI 2 from rfl, nI_add]; exact nI_clamp (by omega)
  have b3 : vp_in (nI i + 3) L := by rw [show (3 : Int32) = nI 3 from rfl, nI_add]; exact vp_in_nI (by omega) (by omega)
  have e3 : (nI i + 3).toNatClampNeg = i + 3 := by rw [show (3 : Int32) = nI 3 from rfl, nI_add]; exact nI_clamp (by omega)
  have b4 : vp_in (nI i + 4) L := by rw [show (4 : Int32) = nI 4 from rfl, nI_add]; exact vp_in_nI (by omega) (by omega)
  have e4 : (nI i + 4).toNatClampNeg = i + 4 := by rw [show (4 : Int32) = nI 4 from rfl, nI_add]; exact nI_clamp (by omega)
  have z1 : (pg_c 78).1 = 0 := rfl
  have z2 : (pg_c 78).2 = 0 := rfl
  refine mm_go (d := 20) (lv' := [(0, .ref 99), (1, .ref 0), (2, .ref 9), (3, .ref 24), (4, .int (nI i)), (5, .int kk)]) (st' := [.long ((xs (nI i + 3).toNatClampNeg).toInt64 <<< ((32 : Int32).toInt64 &&& 63) ||| (xs (nI i + 4).toNatClampNeg).toInt64 &&& 4294967295), .int (xs (nI i + 2).toNatClampNeg), .int (xs (nI i + 1).toNatClampNeg), .ref 9]) 29 rfl ⟨b1, b2, b3, b4, trivial⟩ ?_
  rw [e1, e2, e3, e4]
  exact mm_cvt rfl rfl rfl rfl (by rw [z1]; exact hk1) (by rw [z2]; exact hk2) (by rw [z1, z2]; exact hM)
theorem b_put (hi : i + 5 ≤ L) (hL : L ≤ 2560) (hk1 : k1 + 4 ≤ 601024) (hk2 : k2 + 24 ≤ 7293034) (hM : mm_cal 20 false 93 [.ref 0, .int (xs (i + 1)), .int (xs (i + 2)), .long ((xs (i + 3)).toInt64 <<< ((32 : Int32).toInt64 &&& 63) ||| (xs (i + 4)).toInt64 &&& 4294967295), .ref 24] (wC b ev un md tp ce pl wa sz fl pr rf ro hr th (wM cl tn ft bn fb us tk ma nt tr mk mf mr mp kd wh ca pa he fi mb td nu nx rt [(24, .inl (1, 1, .inr (.inl ou)))])) (fun o w' => mm_back 100 lw_K (mm_wp 21 (some (L, xs)) true 100 lw_K) (k1 + 3) (k2 + 18) 620 623 [(0, .ref 99), (1, .ref 0), (2, .ref 9), (3, .ref 24), (4, .int (nI i))] [] o w')) : mm_wp 21 (some (L, xs)) true 100 lw_K k1 k2 584 [(0, .ref 99), (1, .ref 0), (2, .ref 9), (3, .ref 24), (4, .int (nI i))] [] (wC b ev un md tp ce pl wa sz fl pr rf ro hr th (wM cl tn ft bn fb us tk ma nt tr mk mf mr mp kd wh ca pa he fi mb td nu nx rt [(24, .inl (1, 1, .inr (.inl ou)))])) := by
  have b1 : vp_in (nI i + 1) L := by rw [show (1 : Int32) = nI 1 from rfl, nI_add]; exact vp_in_nI (by omega) (by omega)
  have e1 : (nI i + 1).toNatClampNeg = i + 1 := by rw [show (1 : Int32) = nI 1 from rfl, nI_add]; exact nI_clamp (by omega)
  have b2 : vp_in (nI i + 2) L := by rw [show (2 : Int32) = nI 2 from rfl, nI_add]; exact vp_in_nI (by omega) (by omega)
  have e2 : (nI i + 2).toNatClampNeg = i + 2 := by rw [show (2 : Int32) = nI 2 from rfl, nI_add]; exact nI_clamp (by omega)
  have b3 : vp_in (nI i + 3) L := by rw [show (3 : Int32) = nI 3 from rfl, nI_add]; exact vp_in_nI (by omega) (by omega)
  have e3 : (nI i + 3).toNatClampNeg = i + 3 := by rw [show (3 : Int32) = nI 3 from rfl, nI_add]; exact nI_clamp (by omega)
  have b4 : vp_in (nI i + 4) L := by rw [show (4 : Int32) = nI 4 from rfl, nI_add]; exact vp_in_nI (by omega) (by omega)
  have e4 : (nI i + 4).toNatClampNeg = i + 4 := by rw [show (4 : Int32) = nI 4 from rfl, nI_add]; exact nI_clamp (by omega)
  have z1 : (pg_c 93).1 = 3 := rfl
  have z2 : (pg_c 93).2 = 18 := rfl
  refine mm_go (d := 20) (lv' := [(0, .ref 99), (1, .ref 0), (2, .ref 9), (3, .ref 24), (4, .int (nI i))]) (st' := [.ref 24, .long ((xs (nI i + 3).toNatClampNeg).toInt64 <<< ((32 : Int32).toInt64 &&& 63) ||| (xs (nI i + 4).toNatClampNeg).toInt64 &&& 4294967295), .int (xs (nI i + 2).toNatClampNeg), .int (xs (nI i + 1).toNatClampNeg), .ref 0]) 29 rfl ⟨b1, b2, b3, b4, trivial⟩ ?_
  rw [e1, e2, e3, e4]
  exact mm_cst rfl rfl rfl (by rw [z1]; omega) (by rw [z2]; omega) (by rw [z1, z2]; exact hM)
theorem lt_put (hk1 : k1 ≤ 601024) (hk2 : k2 ≤ 7293034) (h : ¬ kk = 0 ∨ ou 0 = lb) (hn : mm_wp 21 (some (L, xs)) true 100 lw_K k1 k2 1093 [(0, .ref 99), (1, .ref 0), (2, .ref 9), (3, .ref 24), (4, .int (nI i))] [] (wC b ev un md tp ce pl wa sz fl pr rf ro hr th (wM cl tn ft bn fb us tk ma nt kk mk mf mr mp kd wh ca pa he fi mb td nu nx rt [(24, .inl (1, 1, .inr (.inl ou)))]))) : mm_wp 21 (some (L, xs)) true 100 lw_K k1 k2 663 [(0, .ref 99), (1, .ref 0), (2, .ref 9), (3, .ref 24), (4, .int (nI i)), (5, .int kk)] [.long lb] (wC b ev un md tp ce pl wa sz fl pr rf ro hr th (wM cl tn ft bn fb us tk ma nt kk mk mf mr mp kd wh ca pa he fi mb td nu nx rt [(24, .inl (1, 1, .inr (.inl ou)))])) := by
  have z1 : (pg_c 59).1 = 0 := rfl
  have z2 : (pg_c 59).2 = 0 := rfl
  refine mm_go (d := 20) 2 rfl trivial (mm_cvt rfl rfl rfl rfl (by rw [z1]; exact hk1) (by rw [z2]; exact hk2) (m_thrown (d := 19) ?_))
  rw [z1, z2]
  refine mm_go (d := 20) 1 rfl trivial (mm_one ⟨fun _ => ?_, fun c => absurd rfl c⟩)
  refine mm_go (d := 20) 1 rfl trivial (mm_one ⟨fun c => ?_, fun c => ?_⟩)
  · exact mm_go (d := 20) 1 rfl trivial (mm_few [0, 1, 2, 3, 4] rfl hn)
  · have h : ou 0 = lb := h.resolve_left c
    refine mm_go (d := 20) (st' := [.int (lg_cmp (ou (0 : Int32).toNatClampNeg) lb)]) 5 rfl ⟨(vp_in_nI (n := 0) (by decide) (by decide) : vp_in (nI 0) 1), trivial⟩ ?_
    rw [show (0 : Int32).toNatClampNeg = 0 from rfl, h]
    refine mm_one ⟨fun _ => ?_, fun c => absurd ((lg_cmp_eq _ _).mpr rfl) c⟩
    exact mm_go (d := 20) 1 rfl trivial (mm_few [0, 1, 2, 3, 4] rfl hn)
theorem n_get (hi : i + 5 ≤ L) (hL : L ≤ 2560) (hk1 : k1 ≤ 601024) (hk2 : k2 ≤ 7293034) (hM : mm_cal 20 false 79 [.ref 9, .int (xs (i + 1)), .int (xs (i + 2))] (wC b ev un md tp ce pl wa sz fl pr rf ro hr th (wM cl tn ft bn fb us tk ma nt tr mk mf mr mp kd wh ca pa he fi mb td nu nx rt [(24, .inl (1, 1, .inr (.inl ou)))])) (fun o w' => mm_back 100 lw_K (mm_wp 21 (some (L, xs)) true 100 lw_K) k1 k2 727 730 [(0, .ref 99), (1, .ref 0), (2, .ref 9), (3, .ref 24), (4, .int (nI i)), (5, .int kk)] [] o w')) : mm_wp 21 (some (L, xs)) true 100 lw_K k1 k2 712 [(0, .ref 99), (1, .ref 0), (2, .ref 9), (3, .ref 24), (4, .int (nI i))] [.int kk] (wC b ev un md tp ce pl wa sz fl pr rf ro hr th (wM cl tn ft bn fb us tk ma nt tr mk mf mr mp kd wh ca pa he fi mb td nu nx rt [(24, .inl (1, 1, .inr (.inl ou)))])) := by
  have b1 : vp_in (nI i + 1) L := by rw [show (1 : Int32) = nI 1 from rfl, nI_add]; exact vp_in_nI (by omega) (by omega)
  have e1 : (nI i + 1).toNatClampNeg = i + 1 := by rw [show (1 : Int32) = nI 1 from rfl, nI_add]; exact nI_clamp (by omega)
  have b2 : vp_in (nI i + 2) L := by rw [show (2 : Int32) = nI 2 from rfl, nI_add]; exact vp_in_nI (by omega) (by omega)
  have e2 : (nI i + 2).toNatClampNeg = i + 2 := by rw [show (2 : Int32) = nI 2 from rfl, nI_add]; exact nI_clamp (by omega)
  have b3 : vp_in (nI i + 3) L := by rw [show (3 : Int32) = nI 3 from rfl, nI_add]; exact vp_in_nI (by omega) (by omega)
  have e3 : (nI i + 3).toNatClampNeg = i + 3 := by rw [show (3 : Int32) = nI 3 from rfl, nI_add]; exact nI_clamp (by omega)
  have b4 : vp_in (nI i + 4) L := by rw [show (4 : Int32) = nI 4 from rfl, nI_add]; exact vp_in_nI (by omega) (by omega)
  have e4 : (nI i + 4).toNatClampNeg = i + 4 := by rw [show (4 : Int32) = nI 4 from rfl, nI_add]; exact nI_clamp (by omega)
  have z1 : (pg_c 79).1 = 0 := rfl
  have z2 : (pg_c 79).2 = 0 := rfl
  refine mm_go (d := 20) (lv' := [(0, .ref 99), (1, .ref 0), (2, .ref 9), (3, .ref 24), (4, .int (nI i)), (5, .int kk)]) (st' := [.int (xs (nI i + 2).toNatClampNeg), .int (xs (nI i + 1).toNatClampNeg), .ref 9]) 12 rfl ⟨b1, b2, trivial⟩ ?_
  rw [e1, e2]
  exact mm_cvt rfl rfl rfl rfl (by rw [z1]; exact hk1) (by rw [z2]; exact hk2) (by rw [z1, z2]; exact hM)
theorem b_get (hi : i + 5 ≤ L) (hL : L ≤ 2560) (hk1 : k1 + 4 ≤ 601024) (hk2 : k2 + 24 ≤ 7293034) (hM : mm_cal 20 false 94 [.ref 0, .int (xs (i + 1)), .int (xs (i + 2)), .ref 24] (wC b ev un md tp ce pl wa sz fl pr rf ro hr th (wM cl tn ft bn fb us tk ma nt tr mk mf mr mp kd wh ca pa he fi mb td nu nx rt [(24, .inl (1, 1, .inr (.inl ou)))])) (fun o w' => mm_back 100 lw_K (mm_wp 21 (some (L, xs)) true 100 lw_K) (k1 + 3) (k2 + 18) 709 712 [(0, .ref 99), (1, .ref 0), (2, .ref 9), (3, .ref 24), (4, .int (nI i))] [] o w')) : mm_wp 21 (some (L, xs)) true 100 lw_K k1 k2 695 [(0, .ref 99), (1, .ref 0), (2, .ref 9), (3, .ref 24), (4, .int (nI i))] [] (wC b ev un md tp ce pl wa sz fl pr rf ro hr th (wM cl tn ft bn fb us tk ma nt tr mk mf mr mp kd wh ca pa he fi mb td nu nx rt [(24, .inl (1, 1, .inr (.inl ou)))])) := by
  have b1 : vp_in (nI i + 1) L := by rw [show (1 : Int32) = nI 1 from rfl, nI_add]; exact vp_in_nI (by omega) (by omega)
  have e1 : (nI i + 1).toNatClampNeg = i + 1 := by rw [show (1 : Int32) = nI 1 from rfl, nI_add]; exact nI_clamp (by omega)
  have b2 : vp_in (nI i + 2) L := by rw [show (2 : Int32) = nI 2 from rfl, nI_add]; exact vp_in_nI (by omega) (by omega)
  have e2 : (nI i + 2).toNatClampNeg = i + 2 := by rw [show (2 : Int32) = nI 2 from rfl, nI_add]; exact nI_clamp (by omega)
  have b3 : vp_in (nI i + 3) L := by rw [show (3 : Int32) = nI 3 from rfl, nI_add]; exact vp_in_nI (by omega) (by omega)
  have e3 : (nI i + 3).toNatClampNeg = i + 3 := by rw [show (3 : Int32) = nI 3 from rfl, nI_add]; exact nI_clamp (by omega)
  have b4 : vp_in (nI i + 4) L := by rw [show (4 : Int32) = nI 4 from rfl, nI_add]; exact vp_in_nI (by omega) (by omega)
  have e4 : (nI i + 4).toNatClampNeg = i + 4 := by rw [show (4 : Int32) = nI 4 from rfl, nI_add]; exact nI_clamp (by omega)
  have z1 : (pg_c 94).1 = 3 := rfl
  have z2 : (pg_c 94).2 = 18 := rfl
  refine mm_go (d := 20) (lv' := [(0, .ref 99), (1, .ref 0), (2, .ref 9), (3, .ref 24), (4, .int (nI i))]) (st' := [.ref 24, .int (xs (nI i + 2).toNatClampNeg), .int (xs (nI i + 1).toNatClampNeg), .ref 0]) 12 rfl ⟨b1, b2, trivial⟩ ?_
  rw [e1, e2]
  exact mm_cst rfl rfl rfl (by rw [z1]; omega) (by rw [z2]; omega) (by rw [z1, z2]; exact hM)
theorem lt_get (hk1 : k1 ≤ 601024) (hk2 : k2 ≤ 7293034) (h : ¬ kk = 0 ∨ ou 0 = lb) (hn : mm_wp 21 (some (L, xs)) true 100 lw_K k1 k2 1093 [(0, .ref 99), (1, .ref 0), (2, .ref 9), (3, .ref 24), (4, .int (nI i))] [] (wC b ev un md tp ce pl wa sz fl pr rf ro hr th (wM cl tn ft bn fb us tk ma nt kk mk mf mr mp kd wh ca pa he fi mb td nu nx rt [(24, .inl (1, 1, .inr (.inl ou)))]))) : mm_wp 21 (some (L, xs)) true 100 lw_K k1 k2 730 [(0, .ref 99), (1, .ref 0), (2, .ref 9), (3, .ref 24), (4, .int (nI i)), (5, .int kk)] [.long lb] (wC b ev un md tp ce pl wa sz fl pr rf ro hr th (wM cl tn ft bn fb us tk ma nt kk mk mf mr mp kd wh ca pa he fi mb td nu nx rt [(24, .inl (1, 1, .inr (.inl ou)))])) := by
  have z1 : (pg_c 59).1 = 0 := rfl
  have z2 : (pg_c 59).2 = 0 := rfl
  refine mm_go (d := 20) 2 rfl trivial (mm_cvt rfl rfl rfl rfl (by rw [z1]; exact hk1) (by rw [z2]; exact hk2) (m_thrown (d := 19) ?_))
  rw [z1, z2]
  refine mm_go (d := 20) 1 rfl trivial (mm_one ⟨fun _ => ?_, fun c => absurd rfl c⟩)
  refine mm_go (d := 20) 1 rfl trivial (mm_one ⟨fun c => ?_, fun c => ?_⟩)
  · exact mm_go (d := 20) 1 rfl trivial (mm_few [0, 1, 2, 3, 4] rfl hn)
  · have h : ou 0 = lb := h.resolve_left c
    refine mm_go (d := 20) (st' := [.int (lg_cmp (ou (0 : Int32).toNatClampNeg) lb)]) 5 rfl ⟨(vp_in_nI (n := 0) (by decide) (by decide) : vp_in (nI 0) 1), trivial⟩ ?_
    rw [show (0 : Int32).toNatClampNeg = 0 from rfl, h]
    refine mm_one ⟨fun _ => ?_, fun c => absurd ((lg_cmp_eq _ _).mpr rfl) c⟩
    exact mm_go (d := 20) 1 rfl trivial (mm_few [0, 1, 2, 3, 4] rfl hn)
theorem n_link (hi : i + 5 ≤ L) (hL : L ≤ 2560) (hk1 : k1 ≤ 601024) (hk2 : k2 ≤ 7293034) (hM : mm_cal 20 false 80 [.ref 9, .int (xs (i + 1)), .int (xs (i + 2)), .int (xs (i + 3))] (wC b ev un md tp ce pl wa sz fl pr rf ro hr th (wM cl tn ft bn fb us tk ma nt tr mk mf mr mp kd wh ca pa he fi mb td nu nx rt [(24, .inl (1, 1, .inr (.inl ou)))])) (fun o w' => mm_back 100 lw_K (mm_wp 21 (some (L, xs)) true 100 lw_K) k1 k2 805 808 [(0, .ref 99), (1, .ref 0), (2, .ref 9), (3, .ref 24), (4, .int (nI i)), (5, .int kk)] [] o w')) : mm_wp 21 (some (L, xs)) true 100 lw_K k1 k2 784 [(0, .ref 99), (1, .ref 0), (2, .ref 9), (3, .ref 24), (4, .int (nI i))] [.int kk] (wC b ev un md tp ce pl wa sz fl pr rf ro hr th (wM cl tn ft bn fb us tk ma nt tr mk mf mr mp kd wh ca pa he fi mb td nu nx rt [(24, .inl (1, 1, .inr (.inl ou)))])) := by
  have b1 : vp_in (nI i + 1) L := by rw [show (1 : Int32) = nI 1 from rfl, nI_add]; exact vp_in_nI (by omega) (by omega)
  have e1 : (nI i + 1).toNatClampNeg = i + 1 := by rw [show (1 : Int32) = nI 1 from rfl, nI_add]; exact nI_clamp (by omega)
  have b2 : vp_in (nI i + 2) L := by rw [show (2 : Int32) = nI 2 from rfl, nI_add]; exact vp_in_nI (by omega) (by omega)
  have e2 : (nI i + 2).toNatClampNeg = i + 2 := by rw [show (2 : Int32) = nI 2 from rfl, nI_add]; exact nI_clamp (by omega)
  have b3 : vp_in (nI i + 3) L := by rw [show (3 : Int32) = nI 3 from rfl, nI_add]; exact vp_in_nI (by omega) (by omega)
  have e3 : (nI i + 3).toNatClampNeg = i + 3 := by rw [show (3 : Int32) = nI 3 from rfl, nI_add]; exact nI_clamp (by omega)
  have b4 : vp_in (nI i + 4) L := by rw [show (4 : Int32) = nI 4 from rfl, nI_add]; exact vp_in_nI (by omega) (by omega)
  have e4 : (nI i + 4).toNatClampNeg = i + 4 := by rw [show (4 : Int32) = nI 4 from rfl, nI_add]; exact nI_clamp (by omega)
  have z1 : (pg_c 80).1 = 0 := rfl
  have z2 : (pg_c 80).2 = 0 := rfl
  refine mm_go (d := 20) (lv' := [(0, .ref 99), (1, .ref 0), (2, .ref 9), (3, .ref 24), (4, .int (nI i)), (5, .int kk)]) (st' := [.int (xs (nI i + 3).toNatClampNeg), .int (xs (nI i + 2).toNatClampNeg), .int (xs (nI i + 1).toNatClampNeg), .ref 9]) 17 rfl ⟨b1, b2, b3, trivial⟩ ?_
  rw [e1, e2, e3]
  exact mm_cvt rfl rfl rfl rfl (by rw [z1]; exact hk1) (by rw [z2]; exact hk2) (by rw [z1, z2]; exact hM)
theorem b_link (hi : i + 5 ≤ L) (hL : L ≤ 2560) (hk1 : k1 + 4 ≤ 601024) (hk2 : k2 + 24 ≤ 7293034) (hM : mm_cal 20 false 95 [.ref 0, .int (xs (i + 1)), .int (xs (i + 2)), .int (xs (i + 3))] (wC b ev un md tp ce pl wa sz fl pr rf ro hr th (wM cl tn ft bn fb us tk ma nt tr mk mf mr mp kd wh ca pa he fi mb td nu nx rt [(24, .inl (1, 1, .inr (.inl ou)))])) (fun o w' => mm_back 100 lw_K (mm_wp 21 (some (L, xs)) true 100 lw_K) (k1 + 4) (k2 + 24) 781 784 [(0, .ref 99), (1, .ref 0), (2, .ref 9), (3, .ref 24), (4, .int (nI i))] [] o w')) : mm_wp 21 (some (L, xs)) true 100 lw_K k1 k2 762 [(0, .ref 99), (1, .ref 0), (2, .ref 9), (3, .ref 24), (4, .int (nI i))] [] (wC b ev un md tp ce pl wa sz fl pr rf ro hr th (wM cl tn ft bn fb us tk ma nt tr mk mf mr mp kd wh ca pa he fi mb td nu nx rt [(24, .inl (1, 1, .inr (.inl ou)))])) := by
  have b1 : vp_in (nI i + 1) L := by rw [show (1 : Int32) = nI 1 from rfl, nI_add]; exact vp_in_nI (by omega) (by omega)
  have e1 : (nI i + 1).toNatClampNeg = i + 1 := by rw [show (1 : Int32) = nI 1 from rfl, nI_add]; exact nI_clamp (by omega)
  have b2 : vp_in (nI i + 2) L := by rw [show (2 : Int32) = nI 2 from rfl, nI_add]; exact vp_in_nI (by omega) (by omega)
  have e2 : (nI i + 2).toNatClampNeg = i + 2 := by rw [show (2 : Int32) = nI 2 from rfl, nI_add]; exact nI_clamp (by omega)
  have b3 : vp_in (nI i + 3) L := by rw [show (3 : Int32) = nI 3 from rfl, nI_add]; exact vp_in_nI (by omega) (by omega)
  have e3 : (nI i + 3).toNatClampNeg = i + 3 := by rw [show (3 : Int32) = nI 3 from rfl, nI_add]; exact nI_clamp (by omega)
  have b4 : vp_in (nI i + 4) L := by rw [show (4 : Int32) = nI 4 from rfl, nI_add]; exact vp_in_nI (by omega) (by omega)
  have e4 : (nI i + 4).toNatClampNeg = i + 4 := by rw [show (4 : Int32) = nI 4 from rfl, nI_add]; exact nI_clamp (by omega)
  have z1 : (pg_c 95).1 = 4 := rfl
  have z2 : (pg_c 95).2 = 24 := rfl
  refine mm_go (d := 20) (lv' := [(0, .ref 99), (1, .ref 0), (2, .ref 9), (3, .ref 24), (4, .int (nI i))]) (st' := [.int (xs (nI i + 3).toNatClampNeg), .int (xs (nI i + 2).toNatClampNeg), .int (xs (nI i + 1).toNatClampNeg), .ref 0]) 16 rfl ⟨b1, b2, b3, trivial⟩ ?_
  rw [e1, e2, e3]
  exact mm_cst rfl rfl rfl (by rw [z1]; omega) (by rw [z2]; omega) (by rw [z1, z2]; exact hM)
theorem lt_link (hk1 : k1 ≤ 601024) (hk2 : k2 ≤ 7293034) (hn : mm_wp 21 (some (L, xs)) true 100 lw_K k1 k2 1093 [(0, .ref 99), (1, .ref 0), (2, .ref 9), (3, .ref 24), (4, .int (nI i))] [] (wC b ev un md tp ce pl wa sz fl pr rf ro hr th (wM cl tn ft bn fb us tk ma nt kk mk mf mr mp kd wh ca pa he fi mb td nu nx rt [(24, .inl (1, 1, .inr (.inl ou)))]))) : mm_wp 21 (some (L, xs)) true 100 lw_K k1 k2 808 [(0, .ref 99), (1, .ref 0), (2, .ref 9), (3, .ref 24), (4, .int (nI i)), (5, .int kk)] [] (wC b ev un md tp ce pl wa sz fl pr rf ro hr th (wM cl tn ft bn fb us tk ma nt kk mk mf mr mp kd wh ca pa he fi mb td nu nx rt [(24, .inl (1, 1, .inr (.inl ou)))])) := by
  have z1 : (pg_c 59).1 = 0 := rfl
  have z2 : (pg_c 59).2 = 0 := rfl
  refine mm_go (d := 20) 1 rfl trivial (mm_cvt rfl rfl rfl rfl (by rw [z1]; exact hk1) (by rw [z2]; exact hk2) (m_thrown (d := 19) ?_))
  rw [z1, z2]
  refine mm_go (d := 20) 1 rfl trivial (mm_one ⟨fun _ => ?_, fun c => absurd rfl c⟩)
  exact mm_go (d := 20) 1 rfl trivial (mm_few [0, 1, 2, 3, 4] rfl hn)
theorem n_follow (hi : i + 5 ≤ L) (hL : L ≤ 2560) (hk1 : k1 ≤ 601024) (hk2 : k2 ≤ 7293034) (hM : mm_cal 20 false 81 [.ref 9, .int (xs (i + 1)), .int (xs (i + 2)), .int (xs (i + 3))] (wC b ev un md tp ce pl wa sz fl pr rf ro hr th (wM cl tn ft bn fb us tk ma nt tr mk mf mr mp kd wh ca pa he fi mb td nu nx rt [(24, .inl (1, 1, .inr (.inl ou)))])) (fun o w' => mm_back 100 lw_K (mm_wp 21 (some (L, xs)) true 100 lw_K) k1 k2 865 868 [(0, .ref 99), (1, .ref 0), (2, .ref 9), (3, .ref 24), (4, .int (nI i)), (5, .int kk)] [] o w')) : mm_wp 21 (some (L, xs)) true 100 lw_K k1 k2 844 [(0, .ref 99), (1, .ref 0), (2, .ref 9), (3, .ref 24), (4, .int (nI i))] [.int kk] (wC b ev un md tp ce pl wa sz fl pr rf ro hr th (wM cl tn ft bn fb us tk ma nt tr mk mf mr mp kd wh ca pa he fi mb td nu nx rt [(24, .inl (1, 1, .inr (.inl ou)))])) := by
  have b1 : vp_in (nI i + 1) L := by rw [show (1 : Int32) = nI 1 from rfl, nI_add]; exact vp_in_nI (by omega) (by omega)
  have e1 : (nI i + 1).toNatClampNeg = i + 1 := by rw [show (1 : Int32) = nI 1 from rfl, nI_add]; exact nI_clamp (by omega)
  have b2 : vp_in (nI i + 2) L := by rw [show (2 : Int32) = nI 2 from rfl, nI_add]; exact vp_in_nI (by omega) (by omega)
  have e2 : (nI i + 2).toNatClampNeg = i + 2 := by rw [show (2 : Int32) = nI 2 from rfl, nI_add]; exact nI_clamp (by omega)
  have b3 : vp_in (nI i + 3) L := by rw [show (3 : Int32) = nI 3 from rfl, nI_add]; exact vp_in_nI (by omega) (by omega)
  have e3 : (nI i + 3).toNatClampNeg = i + 3 := by rw [show (3 : Int32) = nI 3 from rfl, nI_add]; exact nI_clamp (by omega)
  have b4 : vp_in (nI i + 4) L := by rw [show (4 : Int32) = nI 4 from rfl, nI_add]; exact vp_in_nI (by omega) (by omega)
  have e4 : (nI i + 4).toNatClampNeg = i + 4 := by rw [show (4 : Int32) = nI 4 from rfl, nI_add]; exact nI_clamp (by omega)
  have z1 : (pg_c 81).1 = 0 := rfl
  have z2 : (pg_c 81).2 = 0 := rfl
  refine mm_go (d := 20) (lv' := [(0, .ref 99), (1, .ref 0), (2, .ref 9), (3, .ref 24), (4, .int (nI i)), (5, .int kk)]) (st' := [.int (xs (nI i + 3).toNatClampNeg), .int (xs (nI i + 2).toNatClampNeg), .int (xs (nI i + 1).toNatClampNeg), .ref 9]) 17 rfl ⟨b1, b2, b3, trivial⟩ ?_
  rw [e1, e2, e3]
  exact mm_cvt rfl rfl rfl rfl (by rw [z1]; exact hk1) (by rw [z2]; exact hk2) (by rw [z1, z2]; exact hM)
theorem b_follow (hi : i + 5 ≤ L) (hL : L ≤ 2560) (hk1 : k1 + 4 ≤ 601024) (hk2 : k2 + 24 ≤ 7293034) (hM : mm_cal 20 false 96 [.ref 0, .int (xs (i + 1)), .int (xs (i + 2)), .int (xs (i + 3))] (wC b ev un md tp ce pl wa sz fl pr rf ro hr th (wM cl tn ft bn fb us tk ma nt tr mk mf mr mp kd wh ca pa he fi mb td nu nx rt [(24, .inl (1, 1, .inr (.inl ou)))])) (fun o w' => mm_back 100 lw_K (mm_wp 21 (some (L, xs)) true 100 lw_K) (k1 + 4) (k2 + 24) 841 844 [(0, .ref 99), (1, .ref 0), (2, .ref 9), (3, .ref 24), (4, .int (nI i))] [] o w')) : mm_wp 21 (some (L, xs)) true 100 lw_K k1 k2 822 [(0, .ref 99), (1, .ref 0), (2, .ref 9), (3, .ref 24), (4, .int (nI i))] [] (wC b ev un md tp ce pl wa sz fl pr rf ro hr th (wM cl tn ft bn fb us tk ma nt tr mk mf mr mp kd wh ca pa he fi mb td nu nx rt [(24, .inl (1, 1, .inr (.inl ou)))])) := by
  have b1 : vp_in (nI i + 1) L := by rw [show (1 : Int32) = nI 1 from rfl, nI_add]; exact vp_in_nI (by omega) (by omega)
  have e1 : (nI i + 1).toNatClampNeg = i + 1 := by rw [show (1 : Int32) = nI 1 from rfl, nI_add]; exact nI_clamp (by omega)
  have b2 : vp_in (nI i + 2) L := by rw [show (2 : Int32) = nI 2 from rfl, nI_add]; exact vp_in_nI (by omega) (by omega)
  have e2 : (nI i + 2).toNatClampNeg = i + 2 := by rw [show (2 : Int32) = nI 2 from rfl, nI_add]; exact nI_clamp (by omega)
  have b3 : vp_in (nI i + 3) L := by rw [show (3 : Int32) = nI 3 from rfl, nI_add]; exact vp_in_nI (by omega) (by omega)
  have e3 : (nI i + 3).toNatClampNeg = i + 3 := by rw [show (3 : Int32) = nI 3 from rfl, nI_add]; exact nI_clamp (by omega)
  have b4 : vp_in (nI i + 4) L := by rw [show (4 : Int32) = nI 4 from rfl, nI_add]; exact vp_in_nI (by omega) (by omega)
  have e4 : (nI i + 4).toNatClampNeg = i + 4 := by rw [show (4 : Int32) = nI 4 from rfl, nI_add]; exact nI_clamp (by omega)
  have z1 : (pg_c 96).1 = 4 := rfl
  have z2 : (pg_c 96).2 = 24 := rfl
  refine mm_go (d := 20) (lv' := [(0, .ref 99), (1, .ref 0), (2, .ref 9), (3, .ref 24), (4, .int (nI i))]) (st' := [.int (xs (nI i + 3).toNatClampNeg), .int (xs (nI i + 2).toNatClampNeg), .int (xs (nI i + 1).toNatClampNeg), .ref 0]) 16 rfl ⟨b1, b2, b3, trivial⟩ ?_
  rw [e1, e2, e3]
  exact mm_cst rfl rfl rfl (by rw [z1]; omega) (by rw [z2]; omega) (by rw [z1, z2]; exact hM)
theorem lt_follow (hk1 : k1 ≤ 601024) (hk2 : k2 ≤ 7293034) (hn : mm_wp 21 (some (L, xs)) true 100 lw_K k1 k2 1093 [(0, .ref 99), (1, .ref 0), (2, .ref 9), (3, .ref 24), (4, .int (nI i))] [] (wC b ev un md tp ce pl wa sz fl pr rf ro hr th (wM cl tn ft bn fb us tk ma nt kk mk mf mr mp kd wh ca pa he fi mb td nu nx rt [(24, .inl (1, 1, .inr (.inl ou)))]))) : mm_wp 21 (some (L, xs)) true 100 lw_K k1 k2 868 [(0, .ref 99), (1, .ref 0), (2, .ref 9), (3, .ref 24), (4, .int (nI i)), (5, .int kk)] [] (wC b ev un md tp ce pl wa sz fl pr rf ro hr th (wM cl tn ft bn fb us tk ma nt kk mk mf mr mp kd wh ca pa he fi mb td nu nx rt [(24, .inl (1, 1, .inr (.inl ou)))])) := by
  have z1 : (pg_c 59).1 = 0 := rfl
  have z2 : (pg_c 59).2 = 0 := rfl
  refine mm_go (d := 20) 1 rfl trivial (mm_cvt rfl rfl rfl rfl (by rw [z1]; exact hk1) (by rw [z2]; exact hk2) (m_thrown (d := 19) ?_))
  rw [z1, z2]
  refine mm_go (d := 20) 1 rfl trivial (mm_one ⟨fun _ => ?_, fun c => absurd rfl c⟩)
  exact mm_go (d := 20) 1 rfl trivial (mm_few [0, 1, 2, 3, 4] rfl hn)
theorem n_hold (hi : i + 5 ≤ L) (hL : L ≤ 2560) (hk1 : k1 ≤ 601024) (hk2 : k2 ≤ 7293034) (hM : mm_cal 20 false 82 [.ref 9, .int (xs (i + 1)), .int (xs (i + 2))] (wC b ev un md tp ce pl wa sz fl pr rf ro hr th (wM cl tn ft bn fb us tk ma nt tr mk mf mr mp kd wh ca pa he fi mb td nu nx rt [(24, .inl (1, 1, .inr (.inl ou)))])) (fun o w' => mm_back 100 lw_K (mm_wp 21 (some (L, xs)) true 100 lw_K) k1 k2 913 916 [(0, .ref 99), (1, .ref 0), (2, .ref 9), (3, .ref 24), (4, .int (nI i)), (5, .int kk)] [] o w')) : mm_wp 21 (some (L, xs)) true 100 lw_K k1 k2 898 [(0, .ref 99), (1, .ref 0), (2, .ref 9), (3, .ref 24), (4, .int (nI i))] [.int kk] (wC b ev un md tp ce pl wa sz fl pr rf ro hr th (wM cl tn ft bn fb us tk ma nt tr mk mf mr mp kd wh ca pa he fi mb td nu nx rt [(24, .inl (1, 1, .inr (.inl ou)))])) := by
  have b1 : vp_in (nI i + 1) L := by rw [show (1 : Int32) = nI 1 from rfl, nI_add]; exact vp_in_nI (by omega) (by omega)
  have e1 : (nI i + 1).toNatClampNeg = i + 1 := by rw [show (1 : Int32) = nI 1 from rfl, nI_add]; exact nI_clamp (by omega)
  have b2 : vp_in (nI i + 2) L := by rw [show (2 : Int32) = nI 2 from rfl, nI_add]; exact vp_in_nI (by omega) (by omega)
  have e2 : (nI i + 2).toNatClampNeg = i + 2 := by rw [show (2 : Int32) = nI 2 from rfl, nI_add]; exact nI_clamp (by omega)
  have b3 : vp_in (nI i + 3) L := by rw [show (3 : Int32) = nI 3 from rfl, nI_add]; exact vp_in_nI (by omega) (by omega)
  have e3 : (nI i + 3).toNatClampNeg = i + 3 := by rw [show (3 : Int32) = nI 3 from rfl, nI_add]; exact nI_clamp (by omega)
  have b4 : vp_in (nI i + 4) L := by rw [show (4 : Int32) = nI 4 from rfl, nI_add]; exact vp_in_nI (by omega) (by omega)
  have e4 : (nI i + 4).toNatClampNeg = i + 4 := by rw [show (4 : Int32) = nI 4 from rfl, nI_add]; exact nI_clamp (by omega)
  have z1 : (pg_c 82).1 = 0 := rfl
  have z2 : (pg_c 82).2 = 0 := rfl
  refine mm_go (d := 20) (lv' := [(0, .ref 99), (1, .ref 0), (2, .ref 9), (3, .ref 24), (4, .int (nI i)), (5, .int kk)]) (st' := [.int (xs (nI i + 2).toNatClampNeg), .int (xs (nI i + 1).toNatClampNeg), .ref 9]) 12 rfl ⟨b1, b2, trivial⟩ ?_
  rw [e1, e2]
  exact mm_cvt rfl rfl rfl rfl (by rw [z1]; exact hk1) (by rw [z2]; exact hk2) (by rw [z1, z2]; exact hM)
theorem b_hold (hi : i + 5 ≤ L) (hL : L ≤ 2560) (hk1 : k1 + 4 ≤ 601024) (hk2 : k2 + 24 ≤ 7293034) (hM : mm_cal 20 false 97 [.ref 0, .int (xs (i + 1)), .int (xs (i + 2))] (wC b ev un md tp ce pl wa sz fl pr rf ro hr th (wM cl tn ft bn fb us tk ma nt tr mk mf mr mp kd wh ca pa he fi mb td nu nx rt [(24, .inl (1, 1, .inr (.inl ou)))])) (fun o w' => mm_back 100 lw_K (mm_wp 21 (some (L, xs)) true 100 lw_K) (k1 + 2) (k2 + 12) 895 898 [(0, .ref 99), (1, .ref 0), (2, .ref 9), (3, .ref 24), (4, .int (nI i))] [] o w')) : mm_wp 21 (some (L, xs)) true 100 lw_K k1 k2 882 [(0, .ref 99), (1, .ref 0), (2, .ref 9), (3, .ref 24), (4, .int (nI i))] [] (wC b ev un md tp ce pl wa sz fl pr rf ro hr th (wM cl tn ft bn fb us tk ma nt tr mk mf mr mp kd wh ca pa he fi mb td nu nx rt [(24, .inl (1, 1, .inr (.inl ou)))])) := by
  have b1 : vp_in (nI i + 1) L := by rw [show (1 : Int32) = nI 1 from rfl, nI_add]; exact vp_in_nI (by omega) (by omega)
  have e1 : (nI i + 1).toNatClampNeg = i + 1 := by rw [show (1 : Int32) = nI 1 from rfl, nI_add]; exact nI_clamp (by omega)
  have b2 : vp_in (nI i + 2) L := by rw [show (2 : Int32) = nI 2 from rfl, nI_add]; exact vp_in_nI (by omega) (by omega)
  have e2 : (nI i + 2).toNatClampNeg = i + 2 := by rw [show (2 : Int32) = nI 2 from rfl, nI_add]; exact nI_clamp (by omega)
  have b3 : vp_in (nI i + 3) L := by rw [show (3 : Int32) = nI 3 from rfl, nI_add]; exact vp_in_nI (by omega) (by omega)
  have e3 : (nI i + 3).toNatClampNeg = i + 3 := by rw [show (3 : Int32) = nI 3 from rfl, nI_add]; exact nI_clamp (by omega)
  have b4 : vp_in (nI i + 4) L := by rw [show (4 : Int32) = nI 4 from rfl, nI_add]; exact vp_in_nI (by omega) (by omega)
  have e4 : (nI i + 4).toNatClampNeg = i + 4 := by rw [show (4 : Int32) = nI 4 from rfl, nI_add]; exact nI_clamp (by omega)
  have z1 : (pg_c 97).1 = 2 := rfl
  have z2 : (pg_c 97).2 = 12 := rfl
  refine mm_go (d := 20) (lv' := [(0, .ref 99), (1, .ref 0), (2, .ref 9), (3, .ref 24), (4, .int (nI i))]) (st' := [.int (xs (nI i + 2).toNatClampNeg), .int (xs (nI i + 1).toNatClampNeg), .ref 0]) 11 rfl ⟨b1, b2, trivial⟩ ?_
  rw [e1, e2]
  exact mm_cst rfl rfl rfl (by rw [z1]; omega) (by rw [z2]; omega) (by rw [z1, z2]; exact hM)
theorem lt_hold (hk1 : k1 ≤ 601024) (hk2 : k2 ≤ 7293034) (hn : mm_wp 21 (some (L, xs)) true 100 lw_K k1 k2 1093 [(0, .ref 99), (1, .ref 0), (2, .ref 9), (3, .ref 24), (4, .int (nI i))] [] (wC b ev un md tp ce pl wa sz fl pr rf ro hr th (wM cl tn ft bn fb us tk ma nt kk mk mf mr mp kd wh ca pa he fi mb td nu nx rt [(24, .inl (1, 1, .inr (.inl ou)))]))) : mm_wp 21 (some (L, xs)) true 100 lw_K k1 k2 916 [(0, .ref 99), (1, .ref 0), (2, .ref 9), (3, .ref 24), (4, .int (nI i)), (5, .int kk)] [] (wC b ev un md tp ce pl wa sz fl pr rf ro hr th (wM cl tn ft bn fb us tk ma nt kk mk mf mr mp kd wh ca pa he fi mb td nu nx rt [(24, .inl (1, 1, .inr (.inl ou)))])) := by
  have z1 : (pg_c 59).1 = 0 := rfl
  have z2 : (pg_c 59).2 = 0 := rfl
  refine mm_go (d := 20) 1 rfl trivial (mm_cvt rfl rfl rfl rfl (by rw [z1]; exact hk1) (by rw [z2]; exact hk2) (m_thrown (d := 19) ?_))
  rw [z1, z2]
  refine mm_go (d := 20) 1 rfl trivial (mm_one ⟨fun _ => ?_, fun c => absurd rfl c⟩)
  exact mm_go (d := 20) 1 rfl trivial (mm_few [0, 1, 2, 3, 4] rfl hn)
theorem n_told (hi : i + 5 ≤ L) (hL : L ≤ 2560) (hk1 : k1 ≤ 601024) (hk2 : k2 ≤ 7293034) (hM : mm_cal 20 false 83 [.ref 9, .int (xs (i + 1)), .int (xs (i + 2))] (wC b ev un md tp ce pl wa sz fl pr rf ro hr th (wM cl tn ft bn fb us tk ma nt tr mk mf mr mp kd wh ca pa he fi mb td nu nx rt [(24, .inl (1, 1, .inr (.inl ou)))])) (fun o w' => mm_back 100 lw_K (mm_wp 21 (some (L, xs)) true 100 lw_K) k1 k2 962 965 [(0, .ref 99), (1, .ref 0), (2, .ref 9), (3, .ref 24), (4, .int (nI i)), (5, .int kk)] [] o w')) : mm_wp 21 (some (L, xs)) true 100 lw_K k1 k2 947 [(0, .ref 99), (1, .ref 0), (2, .ref 9), (3, .ref 24), (4, .int (nI i))] [.int kk] (wC b ev un md tp ce pl wa sz fl pr rf ro hr th (wM cl tn ft bn fb us tk ma nt tr mk mf mr mp kd wh ca pa he fi mb td nu nx rt [(24, .inl (1, 1, .inr (.inl ou)))])) := by
  have b1 : vp_in (nI i + 1) L := by rw [show (1 : Int32) = nI 1 from rfl, nI_add]; exact vp_in_nI (by omega) (by omega)
  have e1 : (nI i + 1).toNatClampNeg = i + 1 := by rw [show (1 : Int32) = nI 1 from rfl, nI_add]; exact nI_clamp (by omega)
  have b2 : vp_in (nI i + 2) L := by rw [show (2 : Int32) = nI 2 from rfl, nI_add]; exact vp_in_nI (by omega) (by omega)
  have e2 : (nI i + 2).toNatClampNeg = i + 2 := by rw [show (2 : Int32) = nI 2 from rfl, nI_add]; exact nI_clamp (by omega)
  have b3 : vp_in (nI i + 3) L := by rw [show (3 : Int32) = nI 3 from rfl, nI_add]; exact vp_in_nI (by omega) (by omega)
  have e3 : (nI i + 3).toNatClampNeg = i + 3 := by rw [show (3 : Int32) = nI 3 from rfl, nI_add]; exact nI_clamp (by omega)
  have b4 : vp_in (nI i + 4) L := by rw [show (4 : Int32) = nI 4 from rfl, nI_add]; exact vp_in_nI (by omega) (by omega)
  have e4 : (nI i + 4).toNatClampNeg = i + 4 := by rw [show (4 : Int32) = nI 4 from rfl, nI_add]; exact nI_clamp (by omega)
  have z1 : (pg_c 83).1 = 0 := rfl
  have z2 : (pg_c 83).2 = 0 := rfl
  refine mm_go (d := 20) (lv' := [(0, .ref 99), (1, .ref 0), (2, .ref 9), (3, .ref 24), (4, .int (nI i)), (5, .int kk)]) (st' := [.int (xs (nI i + 2).toNatClampNeg), .int (xs (nI i + 1).toNatClampNeg), .ref 9]) 12 rfl ⟨b1, b2, trivial⟩ ?_
  rw [e1, e2]
  exact mm_cvt rfl rfl rfl rfl (by rw [z1]; exact hk1) (by rw [z2]; exact hk2) (by rw [z1, z2]; exact hM)
theorem b_told (hi : i + 5 ≤ L) (hL : L ≤ 2560) (hk1 : k1 + 4 ≤ 601024) (hk2 : k2 + 24 ≤ 7293034) (hM : mm_cal 20 false 98 [.ref 0, .int (xs (i + 1)), .int (xs (i + 2)), .ref 24] (wC b ev un md tp ce pl wa sz fl pr rf ro hr th (wM cl tn ft bn fb us tk ma nt tr mk mf mr mp kd wh ca pa he fi mb td nu nx rt [(24, .inl (1, 1, .inr (.inl ou)))])) (fun o w' => mm_back 100 lw_K (mm_wp 21 (some (L, xs)) true 100 lw_K) (k1 + 2) (k2 + 12) 944 947 [(0, .ref 99), (1, .ref 0), (2, .ref 9), (3, .ref 24), (4, .int (nI i))] [] o w')) : mm_wp 21 (some (L, xs)) true 100 lw_K k1 k2 930 [(0, .ref 99), (1, .ref 0), (2, .ref 9), (3, .ref 24), (4, .int (nI i))] [] (wC b ev un md tp ce pl wa sz fl pr rf ro hr th (wM cl tn ft bn fb us tk ma nt tr mk mf mr mp kd wh ca pa he fi mb td nu nx rt [(24, .inl (1, 1, .inr (.inl ou)))])) := by
  have b1 : vp_in (nI i + 1) L := by rw [show (1 : Int32) = nI 1 from rfl, nI_add]; exact vp_in_nI (by omega) (by omega)
  have e1 : (nI i + 1).toNatClampNeg = i + 1 := by rw [show (1 : Int32) = nI 1 from rfl, nI_add]; exact nI_clamp (by omega)
  have b2 : vp_in (nI i + 2) L := by rw [show (2 : Int32) = nI 2 from rfl, nI_add]; exact vp_in_nI (by omega) (by omega)
  have e2 : (nI i + 2).toNatClampNeg = i + 2 := by rw [show (2 : Int32) = nI 2 from rfl, nI_add]; exact nI_clamp (by omega)
  have b3 : vp_in (nI i + 3) L := by rw [show (3 : Int32) = nI 3 from rfl, nI_add]; exact vp_in_nI (by omega) (by omega)
  have e3 : (nI i + 3).toNatClampNeg = i + 3 := by rw [show (3 : Int32) = nI 3 from rfl, nI_add]; exact nI_clamp (by omega)
  have b4 : vp_in (nI i + 4) L := by rw [show (4 : Int32) = nI 4 from rfl, nI_add]; exact vp_in_nI (by omega) (by omega)
  have e4 : (nI i + 4).toNatClampNeg = i + 4 := by rw [show (4 : Int32) = nI 4 from rfl, nI_add]; exact nI_clamp (by omega)
  have z1 : (pg_c 98).1 = 2 := rfl
  have z2 : (pg_c 98).2 = 12 := rfl
  refine mm_go (d := 20) (lv' := [(0, .ref 99), (1, .ref 0), (2, .ref 9), (3, .ref 24), (4, .int (nI i))]) (st' := [.ref 24, .int (xs (nI i + 2).toNatClampNeg), .int (xs (nI i + 1).toNatClampNeg), .ref 0]) 12 rfl ⟨b1, b2, trivial⟩ ?_
  rw [e1, e2]
  exact mm_cst rfl rfl rfl (by rw [z1]; omega) (by rw [z2]; omega) (by rw [z1, z2]; exact hM)
theorem lt_told (hk1 : k1 ≤ 601024) (hk2 : k2 ≤ 7293034) (h : ¬ kk = 0 ∨ ou 0 = bb.toInt64) (hn : mm_wp 21 (some (L, xs)) true 100 lw_K k1 k2 1093 [(0, .ref 99), (1, .ref 0), (2, .ref 9), (3, .ref 24), (4, .int (nI i))] [] (wC b ev un md tp ce pl wa sz fl pr rf ro hr th (wM cl tn ft bn fb us tk ma nt kk mk mf mr mp kd wh ca pa he fi mb td nu nx rt [(24, .inl (1, 1, .inr (.inl ou)))]))) : mm_wp 21 (some (L, xs)) true 100 lw_K k1 k2 965 [(0, .ref 99), (1, .ref 0), (2, .ref 9), (3, .ref 24), (4, .int (nI i)), (5, .int kk)] [.int bb] (wC b ev un md tp ce pl wa sz fl pr rf ro hr th (wM cl tn ft bn fb us tk ma nt kk mk mf mr mp kd wh ca pa he fi mb td nu nx rt [(24, .inl (1, 1, .inr (.inl ou)))])) := by
  have z1 : (pg_c 59).1 = 0 := rfl
  have z2 : (pg_c 59).2 = 0 := rfl
  refine mm_go (d := 20) 2 rfl trivial (mm_cvt rfl rfl rfl rfl (by rw [z1]; exact hk1) (by rw [z2]; exact hk2) (m_thrown (d := 19) ?_))
  rw [z1, z2]
  refine mm_go (d := 20) 1 rfl trivial (mm_one ⟨fun _ => ?_, fun c => absurd rfl c⟩)
  refine mm_go (d := 20) 1 rfl trivial (mm_one ⟨fun c => ?_, fun c => ?_⟩)
  · exact mm_go (d := 20) 1 rfl trivial (mm_few [0, 1, 2, 3, 4] rfl hn)
  · have h : ou 0 = bb.toInt64 := h.resolve_left c
    refine mm_go (d := 20) (st' := [.int (lg_cmp (ou (0 : Int32).toNatClampNeg) bb.toInt64)]) 6 rfl ⟨(vp_in_nI (n := 0) (by decide) (by decide) : vp_in (nI 0) 1), trivial⟩ ?_
    rw [show (0 : Int32).toNatClampNeg = 0 from rfl, h]
    refine mm_one ⟨fun _ => ?_, fun c => absurd ((lg_cmp_eq _ _).mpr rfl) c⟩
    exact mm_go (d := 20) 1 rfl trivial (mm_few [0, 1, 2, 3, 4] rfl hn)
theorem n_every (hi : i + 5 ≤ L) (hL : L ≤ 2560) (hk1 : k1 ≤ 601024) (hk2 : k2 ≤ 7293034) (hM : mm_cal 20 false 85 [.ref 9, .int (xs (i + 1))] (wC b ev un md tp ce pl wa sz fl pr rf ro hr th (wM cl tn ft bn fb us tk ma nt tr mk mf mr mp kd wh ca pa he fi mb td nu nx rt [(24, .inl (1, 1, .inr (.inl ou)))])) (fun o w' => mm_back 100 lw_K (mm_wp 21 (some (L, xs)) true 100 lw_K) k1 k2 1031 1034 [(0, .ref 99), (1, .ref 0), (2, .ref 9), (3, .ref 24), (4, .int (nI i)), (5, .int kk)] [] o w')) : mm_wp 21 (some (L, xs)) true 100 lw_K k1 k2 1022 [(0, .ref 99), (1, .ref 0), (2, .ref 9), (3, .ref 24), (4, .int (nI i))] [.int kk] (wC b ev un md tp ce pl wa sz fl pr rf ro hr th (wM cl tn ft bn fb us tk ma nt tr mk mf mr mp kd wh ca pa he fi mb td nu nx rt [(24, .inl (1, 1, .inr (.inl ou)))])) := by
  have b1 : vp_in (nI i + 1) L := by rw [show (1 : Int32) = nI 1 from rfl, nI_add]; exact vp_in_nI (by omega) (by omega)
  have e1 : (nI i + 1).toNatClampNeg = i + 1 := by rw [show (1 : Int32) = nI 1 from rfl, nI_add]; exact nI_clamp (by omega)
  have b2 : vp_in (nI i + 2) L := by rw [show (2 : Int32) = nI 2 from rfl, nI_add]; exact vp_in_nI (by omega) (by omega)
  have e2 : (nI i + 2).toNatClampNeg = i + 2 := by rw [show (2 : Int32) = nI 2 from rfl, nI_add]; exact nI_clamp (by omega)
  have b3 : vp_in (nI i + 3) L := by rw [show (3 : Int32) = nI 3 from rfl, nI_add]; exact vp_in_nI (by omega) (by omega)
  have e3 : (nI i + 3).toNatClampNeg = i + 3 := by rw [show (3 : Int32) = nI 3 from rfl, nI_add]; exact nI_clamp (by omega)
  have b4 : vp_in (nI i + 4) L := by rw [show (4 : Int32) = nI 4 from rfl, nI_add]; exact vp_in_nI (by omega) (by omega)
  have e4 : (nI i + 4).toNatClampNeg = i + 4 := by rw [show (4 : Int32) = nI 4 from rfl, nI_add]; exact nI_clamp (by omega)
  have z1 : (pg_c 85).1 = 0 := rfl
  have z2 : (pg_c 85).2 = 0 := rfl
  refine mm_go (d := 20) (lv' := [(0, .ref 99), (1, .ref 0), (2, .ref 9), (3, .ref 24), (4, .int (nI i)), (5, .int kk)]) (st' := [.int (xs (nI i + 1).toNatClampNeg), .ref 9]) 7 rfl ⟨b1, trivial⟩ ?_
  rw [e1]
  exact mm_cvt rfl rfl rfl rfl (by rw [z1]; exact hk1) (by rw [z2]; exact hk2) (by rw [z1, z2]; exact hM)
theorem b_every (hi : i + 5 ≤ L) (hL : L ≤ 2560) (hk1 : k1 + 4 ≤ 601024) (hk2 : k2 + 24 ≤ 7293034) (hM : mm_cal 20 false 99 [.ref 0, .int (xs (i + 1)), .ref 24] (wC b ev un md tp ce pl wa sz fl pr rf ro hr th (wM cl tn ft bn fb us tk ma nt tr mk mf mr mp kd wh ca pa he fi mb td nu nx rt [(24, .inl (1, 1, .inr (.inl ou)))])) (fun o w' => mm_back 100 lw_K (mm_wp 21 (some (L, xs)) true 100 lw_K) (k1 + 1) (k2 + 6) 1019 1022 [(0, .ref 99), (1, .ref 0), (2, .ref 9), (3, .ref 24), (4, .int (nI i))] [] o w')) : mm_wp 21 (some (L, xs)) true 100 lw_K k1 k2 1011 [(0, .ref 99), (1, .ref 0), (2, .ref 9), (3, .ref 24), (4, .int (nI i))] [] (wC b ev un md tp ce pl wa sz fl pr rf ro hr th (wM cl tn ft bn fb us tk ma nt tr mk mf mr mp kd wh ca pa he fi mb td nu nx rt [(24, .inl (1, 1, .inr (.inl ou)))])) := by
  have b1 : vp_in (nI i + 1) L := by rw [show (1 : Int32) = nI 1 from rfl, nI_add]; exact vp_in_nI (by omega) (by omega)
  have e1 : (nI i + 1).toNatClampNeg = i + 1 := by rw [show (1 : Int32) = nI 1 from rfl, nI_add]; exact nI_clamp (by omega)
  have b2 : vp_in (nI i + 2) L := by rw [show (2 : Int32) = nI 2 from rfl, nI_add]; exact vp_in_nI (by omega) (by omega)
  have e2 : (nI i + 2).toNatClampNeg = i + 2 := by rw [show (2 : Int32) = nI 2 from rfl, nI_add]; exact nI_clamp (by omega)
  have b3 : vp_in (nI i + 3) L := by rw [show (3 : Int32) = nI 3 from rfl, nI_add]; exact vp_in_nI (by omega) (by omega)
  have e3 : (nI i + 3).toNatClampNeg = i + 3 := by rw [show (3 : Int32) = nI 3 from rfl, nI_add]; exact nI_clamp (by omega)
  have b4 : vp_in (nI i + 4) L := by rw [show (4 : Int32) = nI 4 from rfl, nI_add]; exact vp_in_nI (by omega) (by omega)
  have e4 : (nI i + 4).toNatClampNeg = i + 4 := by rw [show (4 : Int32) = nI 4 from rfl, nI_add]; exact nI_clamp (by omega)
  have z1 : (pg_c 99).1 = 1 := rfl
  have z2 : (pg_c 99).2 = 6 := rfl
  refine mm_go (d := 20) (lv' := [(0, .ref 99), (1, .ref 0), (2, .ref 9), (3, .ref 24), (4, .int (nI i))]) (st' := [.ref 24, .int (xs (nI i + 1).toNatClampNeg), .ref 0]) 7 rfl ⟨b1, trivial⟩ ?_
  rw [e1]
  exact mm_cst rfl rfl rfl (by rw [z1]; omega) (by rw [z2]; omega) (by rw [z1, z2]; exact hM)
theorem lt_every (hk1 : k1 ≤ 601024) (hk2 : k2 ≤ 7293034) (h : ¬ kk = 0 ∨ ou 0 = bb.toInt64) (hn : mm_wp 21 (some (L, xs)) true 100 lw_K k1 k2 1093 [(0, .ref 99), (1, .ref 0), (2, .ref 9), (3, .ref 24), (4, .int (nI i))] [] (wC b ev un md tp ce pl wa sz fl pr rf ro hr th (wM cl tn ft bn fb us tk ma nt kk mk mf mr mp kd wh ca pa he fi mb td nu nx rt [(24, .inl (1, 1, .inr (.inl ou)))]))) : mm_wp 21 (some (L, xs)) true 100 lw_K k1 k2 1034 [(0, .ref 99), (1, .ref 0), (2, .ref 9), (3, .ref 24), (4, .int (nI i)), (5, .int kk)] [.int bb] (wC b ev un md tp ce pl wa sz fl pr rf ro hr th (wM cl tn ft bn fb us tk ma nt kk mk mf mr mp kd wh ca pa he fi mb td nu nx rt [(24, .inl (1, 1, .inr (.inl ou)))])) := by
  have z1 : (pg_c 59).1 = 0 := rfl
  have z2 : (pg_c 59).2 = 0 := rfl
  refine mm_go (d := 20) 2 rfl trivial (mm_cvt rfl rfl rfl rfl (by rw [z1]; exact hk1) (by rw [z2]; exact hk2) (m_thrown (d := 19) ?_))
  rw [z1, z2]
  refine mm_go (d := 20) 1 rfl trivial (mm_one ⟨fun _ => ?_, fun c => absurd rfl c⟩)
  refine mm_go (d := 20) 1 rfl trivial (mm_one ⟨fun c => ?_, fun c => ?_⟩)
  · exact mm_go (d := 20) 1 rfl trivial (mm_few [0, 1, 2, 3, 4] rfl hn)
  · have h : ou 0 = bb.toInt64 := h.resolve_left c
    refine mm_go (d := 20) (st' := [.int (lg_cmp (ou (0 : Int32).toNatClampNeg) bb.toInt64)]) 6 rfl ⟨(vp_in_nI (n := 0) (by decide) (by decide) : vp_in (nI 0) 1), trivial⟩ ?_
    rw [show (0 : Int32).toNatClampNeg = 0 from rfl, h]
    refine mm_one ⟨fun _ => ?_, fun c => absurd ((lg_cmp_eq _ _).mpr rfl) c⟩
    exact mm_go (d := 20) 1 rfl trivial (mm_few [0, 1, 2, 3, 4] rfl hn)
theorem n_obj {f : Nat} (hi : i + 5 ≤ L) (hL : L ≤ 2560) (hk1 : k1 ≤ 601024) (hk2 : k2 ≤ 7293034) (hf : f < 2) (hb : (xs (i + 3)) = 0 ↔ f = 0) (hM : mm_cal 20 false 72 [.ref 9, .int (xs (i + 1)), .int (xs (i + 2)), .int (nI f)] (wC b ev un md tp ce pl wa sz fl pr rf ro hr th (wM cl tn ft bn fb us tk ma nt tr mk mf mr mp kd wh ca pa he fi mb td nu nx rt [(24, .inl (1, 1, .inr (.inl ou)))])) (fun o w' => mm_back 100 lw_K (mm_wp 21 (some (L, xs)) true 100 lw_K) k1 k2 264 267 [(0, .ref 99), (1, .ref 0), (2, .ref 9), (3, .ref 24), (4, .int (nI i)), (5, .int kk)] [] o w')) : mm_wp 21 (some (L, xs)) true 100 lw_K k1 k2 235 [(0, .ref 99), (1, .ref 0), (2, .ref 9), (3, .ref 24), (4, .int (nI i))] [.int kk] (wC b ev un md tp ce pl wa sz fl pr rf ro hr th (wM cl tn ft bn fb us tk ma nt tr mk mf mr mp kd wh ca pa he fi mb td nu nx rt [(24, .inl (1, 1, .inr (.inl ou)))])) := by
  have b1 : vp_in (nI i + 1) L := by rw [show (1 : Int32) = nI 1 from rfl, nI_add]; exact vp_in_nI (by omega) (by omega)
  have e1 : (nI i + 1).toNatClampNeg = i + 1 := by rw [show (1 : Int32) = nI 1 from rfl, nI_add]; exact nI_clamp (by omega)
  have b2 : vp_in (nI i + 2) L := by rw [show (2 : Int32) = nI 2 from rfl, nI_add]; exact vp_in_nI (by omega) (by omega)
  have e2 : (nI i + 2).toNatClampNeg = i + 2 := by rw [show (2 : Int32) = nI 2 from rfl, nI_add]; exact nI_clamp (by omega)
  have b3 : vp_in (nI i + 3) L := by rw [show (3 : Int32) = nI 3 from rfl, nI_add]; exact vp_in_nI (by omega) (by omega)
  have e3 : (nI i + 3).toNatClampNeg = i + 3 := by rw [show (3 : Int32) = nI 3 from rfl, nI_add]; exact nI_clamp (by omega)
  have b4 : vp_in (nI i + 4) L := by rw [show (4 : Int32) = nI 4 from rfl, nI_add]; exact vp_in_nI (by omega) (by omega)
  have e4 : (nI i + 4).toNatClampNeg = i + 4 := by rw [show (4 : Int32) = nI 4 from rfl, nI_add]; exact nI_clamp (by omega)
  have z1 : (pg_c 72).1 = 0 := rfl
  have z2 : (pg_c 72).2 = 0 := rfl
  have fin : mm_wp 21 (some (L, xs)) true 100 lw_K k1 k2 264 [(0, .ref 99), (1, .ref 0), (2, .ref 9), (3, .ref 24), (4, .int (nI i)), (5, .int kk)] [.int (nI f), .int (xs (i + 2)), .int (xs (i + 1)), .ref 9] (wC b ev un md tp ce pl wa sz fl pr rf ro hr th (wM cl tn ft bn fb us tk ma nt tr mk mf mr mp kd wh ca pa he fi mb td nu nx rt [(24, .inl (1, 1, .inr (.inl ou)))])) := mm_cvt rfl rfl rfl rfl (by rw [z1]; exact hk1) (by rw [z2]; exact hk2) (by rw [z1, z2]; exact hM)
  refine mm_go (d := 20) (lv' := [(0, .ref 99), (1, .ref 0), (2, .ref 9), (3, .ref 24), (4, .int (nI i)), (5, .int kk)]) (st' := [.int (xs (nI i + 3).toNatClampNeg), .int (xs (nI i + 2).toNatClampNeg), .int (xs (nI i + 1).toNatClampNeg), .ref 9]) 17 rfl ⟨b1, b2, b3, trivial⟩ ?_
  rw [e1, e2, e3]
  refine mm_one ⟨fun c => ?_, fun c => ?_⟩
  · have e : f = 0 := hb.mp c
    subst e
    exact mm_go (d := 20) 1 rfl trivial fin
  · have e : f = 1 := by
      have : ¬ f = 0 := fun e => c (hb.mpr e)
      omega
    subst e
    exact mm_go (d := 20) 2 rfl trivial fin
theorem b_obj (hi : i + 5 ≤ L) (hL : L ≤ 2560) (hk1 : k1 + 4 ≤ 601024) (hk2 : k2 + 24 ≤ 7293034) (hM : ∀ f, f < 2 → ((xs (i + 3)) = 0 ↔ f = 0) → mm_cal 20 false 89 [.ref 0, .int (xs (i + 1)), .int (xs (i + 2)), .int (nI f), .ref 24] (wC b ev un md tp ce pl wa sz fl pr rf ro hr th (wM cl tn ft bn fb us tk ma nt tr mk mf mr mp kd wh ca pa he fi mb td nu nx rt [(24, .inl (1, 1, .inr (.inl ou)))])) (fun o w' => mm_back 100 lw_K (mm_wp 21 (some (L, xs)) true 100 lw_K) (k1 + 3) (k2 + 18) 232 235 [(0, .ref 99), (1, .ref 0), (2, .ref 9), (3, .ref 24), (4, .int (nI i))] [] o w')) : mm_wp 21 (some (L, xs)) true 100 lw_K k1 k2 204 [(0, .ref 99), (1, .ref 0), (2, .ref 9), (3, .ref 24), (4, .int (nI i))] [] (wC b ev un md tp ce pl wa sz fl pr rf ro hr th (wM cl tn ft bn fb us tk ma nt tr mk mf mr mp kd wh ca pa he fi mb td nu nx rt [(24, .inl (1, 1, .inr (.inl ou)))])) := by
  have b1 : vp_in (nI i + 1) L := by rw [show (1 : Int32) = nI 1 from rfl, nI_add]; exact vp_in_nI (by omega) (by omega)
  have e1 : (nI i + 1).toNatClampNeg = i + 1 := by rw [show (1 : Int32) = nI 1 from rfl, nI_add]; exact nI_clamp (by omega)
  have b2 : vp_in (nI i + 2) L := by rw [show (2 : Int32) = nI 2 from rfl, nI_add]; exact vp_in_nI (by omega) (by omega)
  have e2 : (nI i + 2).toNatClampNeg = i + 2 := by rw [show (2 : Int32) = nI 2 from rfl, nI_add]; exact nI_clamp (by omega)
  have b3 : vp_in (nI i + 3) L := by rw [show (3 : Int32) = nI 3 from rfl, nI_add]; exact vp_in_nI (by omega) (by omega)
  have e3 : (nI i + 3).toNatClampNeg = i + 3 := by rw [show (3 : Int32) = nI 3 from rfl, nI_add]; exact nI_clamp (by omega)
  have b4 : vp_in (nI i + 4) L := by rw [show (4 : Int32) = nI 4 from rfl, nI_add]; exact vp_in_nI (by omega) (by omega)
  have e4 : (nI i + 4).toNatClampNeg = i + 4 := by rw [show (4 : Int32) = nI 4 from rfl, nI_add]; exact nI_clamp (by omega)
  have z1 : (pg_c 89).1 = 3 := rfl
  have z2 : (pg_c 89).2 = 18 := rfl
  have fin : ∀ f, f < 2 → ((xs (i + 3)) = 0 ↔ f = 0) → mm_wp 21 (some (L, xs)) true 100 lw_K k1 k2 231 [(0, .ref 99), (1, .ref 0), (2, .ref 9), (3, .ref 24), (4, .int (nI i))] [.int (nI f), .int (xs (i + 2)), .int (xs (i + 1)), .ref 0] (wC b ev un md tp ce pl wa sz fl pr rf ro hr th (wM cl tn ft bn fb us tk ma nt tr mk mf mr mp kd wh ca pa he fi mb td nu nx rt [(24, .inl (1, 1, .inr (.inl ou)))])) := fun f h1 h2 =>
    mm_go (d := 20) 1 rfl trivial (mm_cst rfl rfl rfl (by rw [z1]; omega) (by rw [z2]; omega) (by rw [z1, z2]; exact hM f h1 h2))
  refine mm_go (d := 20) (lv' := [(0, .ref 99), (1, .ref 0), (2, .ref 9), (3, .ref 24), (4, .int (nI i))]) (st' := [.int (xs (nI i + 3).toNatClampNeg), .int (xs (nI i + 2).toNatClampNeg), .int (xs (nI i + 1).toNatClampNeg), .ref 0]) 16 rfl ⟨b1, b2, b3, trivial⟩ ?_
  rw [e1, e2, e3]
  refine mm_one ⟨fun c => ?_, fun c => ?_⟩
  · exact mm_go (d := 20) 1 rfl trivial (fin 0 (by decide) ⟨fun _ => rfl, fun _ => c⟩)
  · exact mm_go (d := 20) 2 rfl trivial (fin 1 (by decide) ⟨fun e => absurd e c, fun e => absurd e (by decide)⟩)
theorem lt_obj (hk1 : k1 ≤ 601024) (hk2 : k2 ≤ 7293034) (h : ¬ kk = 0 ∨ ou 0 = bb.toInt64) (hn : mm_wp 21 (some (L, xs)) true 100 lw_K k1 k2 1093 [(0, .ref 99), (1, .ref 0), (2, .ref 9), (3, .ref 24), (4, .int (nI i))] [] (wC b ev un md tp ce pl wa sz fl pr rf ro hr th (wM cl tn ft bn fb us tk ma nt kk mk mf mr mp kd wh ca pa he fi mb td nu nx rt [(24, .inl (1, 1, .inr (.inl ou)))]))) : mm_wp 21 (some (L, xs)) true 100 lw_K k1 k2 267 [(0, .ref 99), (1, .ref 0), (2, .ref 9), (3, .ref 24), (4, .int (nI i)), (5, .int kk)] [.int bb] (wC b ev un md tp ce pl wa sz fl pr rf ro hr th (wM cl tn ft bn fb us tk ma nt kk mk mf mr mp kd wh ca pa he fi mb td nu nx rt [(24, .inl (1, 1, .inr (.inl ou)))])) := by
  have z1 : (pg_c 59).1 = 0 := rfl
  have z2 : (pg_c 59).2 = 0 := rfl
  refine mm_go (d := 20) 2 rfl trivial (mm_cvt rfl rfl rfl rfl (by rw [z1]; exact hk1) (by rw [z2]; exact hk2) (m_thrown (d := 19) ?_))
  rw [z1, z2]
  refine mm_go (d := 20) 1 rfl trivial (mm_one ⟨fun _ => ?_, fun c => absurd rfl c⟩)
  refine mm_go (d := 20) 1 rfl trivial (mm_one ⟨fun c => ?_, fun c => ?_⟩)
  · exact mm_go (d := 20) 1 rfl trivial (mm_few [0, 1, 2, 3, 4] rfl hn)
  · have h : ou 0 = bb.toInt64 := h.resolve_left c
    refine mm_go (d := 20) (st' := [.int (lg_cmp (ou (0 : Int32).toNatClampNeg) bb.toInt64)]) 6 rfl ⟨(vp_in_nI (n := 0) (by decide) (by decide) : vp_in (nI 0) 1), trivial⟩ ?_
    rw [show (0 : Int32).toNatClampNeg = 0 from rfl, h]
    refine mm_one ⟨fun _ => ?_, fun c => absurd ((lg_cmp_eq _ _).mpr rfl) c⟩
    exact mm_go (d := 20) 1 rfl trivial (mm_few [0, 1, 2, 3, 4] rfl hn)
theorem n_arr {f : Nat} (hi : i + 5 ≤ L) (hL : L ≤ 2560) (hk1 : k1 ≤ 601024) (hk2 : k2 ≤ 7293034) (hf : f < 2) (hb : (xs (i + 3)) = 0 ↔ f = 0) (hM : mm_cal 20 false 73 [.ref 9, .int (xs (i + 1)), .int (xs (i + 2)), .int (nI f)] (wC b ev un md tp ce pl wa sz fl pr rf ro hr th (wM cl tn ft bn fb us tk ma nt tr mk mf mr mp kd wh ca pa he fi mb td nu nx rt [(24, .inl (1, 1, .inr (.inl ou)))])) (fun o w' => mm_back 100 lw_K (mm_wp 21 (some (L, xs)) true 100 lw_K) k1 k2 360 363 [(0, .ref 99), (1, .ref 0), (2, .ref 9), (3, .ref 24), (4, .int (nI i)), (5, .int kk)] [] o w')) : mm_wp 21 (some (L, xs)) true 100 lw_K k1 k2 331 [(0, .ref 99), (1, .ref 0), (2, .ref 9), (3, .ref 24), (4, .int (nI i))] [.int kk] (wC b ev un md tp ce pl wa sz fl pr rf ro hr th (wM cl tn ft bn fb us tk ma nt tr mk mf mr mp kd wh ca pa he fi mb td nu nx rt [(24, .inl (1, 1, .inr (.inl ou)))])) := by
  have b1 : vp_in (nI i + 1) L := by rw [show (1 : Int32) = nI 1 from rfl, nI_add]; exact vp_in_nI (by omega) (by omega)
  have e1 : (nI i + 1).toNatClampNeg = i + 1 := by rw [show (1 : Int32) = nI 1 from rfl, nI_add]; exact nI_clamp (by omega)
  have b2 : vp_in (nI i + 2) L := by rw [show (2 : Int32) = nI 2 from rfl, nI_add]; exact vp_in_nI (by omega) (by omega)
  have e2 : (nI i + 2).toNatClampNeg = i + 2 := by rw [show (2 : Int32) = nI 2 from rfl, nI_add]; exact nI_clamp (by omega)
  have b3 : vp_in (nI i + 3) L := by rw [show (3 : Int32) = nI 3 from rfl, nI_add]; exact vp_in_nI (by omega) (by omega)
  have e3 : (nI i + 3).toNatClampNeg = i + 3 := by rw [show (3 : Int32) = nI 3 from rfl, nI_add]; exact nI_clamp (by omega)
  have b4 : vp_in (nI i + 4) L := by rw [show (4 : Int32) = nI 4 from rfl, nI_add]; exact vp_in_nI (by omega) (by omega)
  have e4 : (nI i + 4).toNatClampNeg = i + 4 := by rw [show (4 : Int32) = nI 4 from rfl, nI_add]; exact nI_clamp (by omega)
  have z1 : (pg_c 73).1 = 0 := rfl
  have z2 : (pg_c 73).2 = 0 := rfl
  have fin : mm_wp 21 (some (L, xs)) true 100 lw_K k1 k2 360 [(0, .ref 99), (1, .ref 0), (2, .ref 9), (3, .ref 24), (4, .int (nI i)), (5, .int kk)] [.int (nI f), .int (xs (i + 2)), .int (xs (i + 1)), .ref 9] (wC b ev un md tp ce pl wa sz fl pr rf ro hr th (wM cl tn ft bn fb us tk ma nt tr mk mf mr mp kd wh ca pa he fi mb td nu nx rt [(24, .inl (1, 1, .inr (.inl ou)))])) := mm_cvt rfl rfl rfl rfl (by rw [z1]; exact hk1) (by rw [z2]; exact hk2) (by rw [z1, z2]; exact hM)
  refine mm_go (d := 20) (lv' := [(0, .ref 99), (1, .ref 0), (2, .ref 9), (3, .ref 24), (4, .int (nI i)), (5, .int kk)]) (st' := [.int (xs (nI i + 3).toNatClampNeg), .int (xs (nI i + 2).toNatClampNeg), .int (xs (nI i + 1).toNatClampNeg), .ref 9]) 17 rfl ⟨b1, b2, b3, trivial⟩ ?_
  rw [e1, e2, e3]
  refine mm_one ⟨fun c => ?_, fun c => ?_⟩
  · have e : f = 0 := hb.mp c
    subst e
    exact mm_go (d := 20) 1 rfl trivial fin
  · have e : f = 1 := by
      have : ¬ f = 0 := fun e => c (hb.mpr e)
      omega
    subst e
    exact mm_go (d := 20) 2 rfl trivial fin
theorem b_arr (hi : i + 5 ≤ L) (hL : L ≤ 2560) (hk1 : k1 + 4 ≤ 601024) (hk2 : k2 + 24 ≤ 7293034) (hM : ∀ f, f < 2 → ((xs (i + 3)) = 0 ↔ f = 0) → mm_cal 20 false 90 [.ref 0, .int (xs (i + 1)), .int (xs (i + 2)), .int (nI f), .ref 24] (wC b ev un md tp ce pl wa sz fl pr rf ro hr th (wM cl tn ft bn fb us tk ma nt tr mk mf mr mp kd wh ca pa he fi mb td nu nx rt [(24, .inl (1, 1, .inr (.inl ou)))])) (fun o w' => mm_back 100 lw_K (mm_wp 21 (some (L, xs)) true 100 lw_K) (k1 + 3) (k2 + 18) 328 331 [(0, .ref 99), (1, .ref 0), (2, .ref 9), (3, .ref 24), (4, .int (nI i))] [] o w')) : mm_wp 21 (some (L, xs)) true 100 lw_K k1 k2 300 [(0, .ref 99), (1, .ref 0), (2, .ref 9), (3, .ref 24), (4, .int (nI i))] [] (wC b ev un md tp ce pl wa sz fl pr rf ro hr th (wM cl tn ft bn fb us tk ma nt tr mk mf mr mp kd wh ca pa he fi mb td nu nx rt [(24, .inl (1, 1, .inr (.inl ou)))])) := by
  have b1 : vp_in (nI i + 1) L := by rw [show (1 : Int32) = nI 1 from rfl, nI_add]; exact vp_in_nI (by omega) (by omega)
  have e1 : (nI i + 1).toNatClampNeg = i + 1 := by rw [show (1 : Int32) = nI 1 from rfl, nI_add]; exact nI_clamp (by omega)
  have b2 : vp_in (nI i + 2) L := by rw [show (2 : Int32) = nI 2 from rfl, nI_add]; exact vp_in_nI (by omega) (by omega)
  have e2 : (nI i + 2).toNatClampNeg = i + 2 := by rw [show (2 : Int32) = nI 2 from rfl, nI_add]; exact nI_clamp (by omega)
  have b3 : vp_in (nI i + 3) L := by rw [show (3 : Int32) = nI 3 from rfl, nI_add]; exact vp_in_nI (by omega) (by omega)
  have e3 : (nI i + 3).toNatClampNeg = i + 3 := by rw [show (3 : Int32) = nI 3 from rfl, nI_add]; exact nI_clamp (by omega)
  have b4 : vp_in (nI i + 4) L := by rw [show (4 : Int32) = nI 4 from rfl, nI_add]; exact vp_in_nI (by omega) (by omega)
  have e4 : (nI i + 4).toNatClampNeg = i + 4 := by rw [show (4 : Int32) = nI 4 from rfl, nI_add]; exact nI_clamp (by omega)
  have z1 : (pg_c 90).1 = 3 := rfl
  have z2 : (pg_c 90).2 = 18 := rfl
  have fin : ∀ f, f < 2 → ((xs (i + 3)) = 0 ↔ f = 0) → mm_wp 21 (some (L, xs)) true 100 lw_K k1 k2 327 [(0, .ref 99), (1, .ref 0), (2, .ref 9), (3, .ref 24), (4, .int (nI i))] [.int (nI f), .int (xs (i + 2)), .int (xs (i + 1)), .ref 0] (wC b ev un md tp ce pl wa sz fl pr rf ro hr th (wM cl tn ft bn fb us tk ma nt tr mk mf mr mp kd wh ca pa he fi mb td nu nx rt [(24, .inl (1, 1, .inr (.inl ou)))])) := fun f h1 h2 =>
    mm_go (d := 20) 1 rfl trivial (mm_cst rfl rfl rfl (by rw [z1]; omega) (by rw [z2]; omega) (by rw [z1, z2]; exact hM f h1 h2))
  refine mm_go (d := 20) (lv' := [(0, .ref 99), (1, .ref 0), (2, .ref 9), (3, .ref 24), (4, .int (nI i))]) (st' := [.int (xs (nI i + 3).toNatClampNeg), .int (xs (nI i + 2).toNatClampNeg), .int (xs (nI i + 1).toNatClampNeg), .ref 0]) 16 rfl ⟨b1, b2, b3, trivial⟩ ?_
  rw [e1, e2, e3]
  refine mm_one ⟨fun c => ?_, fun c => ?_⟩
  · exact mm_go (d := 20) 1 rfl trivial (fin 0 (by decide) ⟨fun _ => rfl, fun _ => c⟩)
  · exact mm_go (d := 20) 2 rfl trivial (fin 1 (by decide) ⟨fun e => absurd e c, fun e => absurd e (by decide)⟩)
theorem lt_arr (hk1 : k1 ≤ 601024) (hk2 : k2 ≤ 7293034) (h : ¬ kk = 0 ∨ ou 0 = bb.toInt64) (hn : mm_wp 21 (some (L, xs)) true 100 lw_K k1 k2 1093 [(0, .ref 99), (1, .ref 0), (2, .ref 9), (3, .ref 24), (4, .int (nI i))] [] (wC b ev un md tp ce pl wa sz fl pr rf ro hr th (wM cl tn ft bn fb us tk ma nt kk mk mf mr mp kd wh ca pa he fi mb td nu nx rt [(24, .inl (1, 1, .inr (.inl ou)))]))) : mm_wp 21 (some (L, xs)) true 100 lw_K k1 k2 363 [(0, .ref 99), (1, .ref 0), (2, .ref 9), (3, .ref 24), (4, .int (nI i)), (5, .int kk)] [.int bb] (wC b ev un md tp ce pl wa sz fl pr rf ro hr th (wM cl tn ft bn fb us tk ma nt kk mk mf mr mp kd wh ca pa he fi mb td nu nx rt [(24, .inl (1, 1, .inr (.inl ou)))])) := by
  have z1 : (pg_c 59).1 = 0 := rfl
  have z2 : (pg_c 59).2 = 0 := rfl
  refine mm_go (d := 20) 2 rfl trivial (mm_cvt rfl rfl rfl rfl (by rw [z1]; exact hk1) (by rw [z2]; exact hk2) (m_thrown (d := 19) ?_))
  rw [z1, z2]
  refine mm_go (d := 20) 1 rfl trivial (mm_one ⟨fun _ => ?_, fun c => absurd rfl c⟩)
  refine mm_go (d := 20) 1 rfl trivial (mm_one ⟨fun c => ?_, fun c => ?_⟩)
  · exact mm_go (d := 20) 1 rfl trivial (mm_few [0, 1, 2, 3, 4] rfl hn)
  · have h : ou 0 = bb.toInt64 := h.resolve_left c
    refine mm_go (d := 20) (st' := [.int (lg_cmp (ou (0 : Int32).toNatClampNeg) bb.toInt64)]) 6 rfl ⟨(vp_in_nI (n := 0) (by decide) (by decide) : vp_in (nI 0) 1), trivial⟩ ?_
    rw [show (0 : Int32).toNatClampNeg = 0 from rfl, h]
    refine mm_one ⟨fun _ => ?_, fun c => absurd ((lg_cmp_eq _ _).mpr rfl) c⟩
    exact mm_go (d := 20) 1 rfl trivial (mm_few [0, 1, 2, 3, 4] rfl hn)
theorem n_txt {f : Nat} (hi : i + 5 ≤ L) (hL : L ≤ 2560) (hk1 : k1 ≤ 601024) (hk2 : k2 ≤ 7293034) (hf : f < 2) (hb : (xs (i + 3)) = 0 ↔ f = 0) (hM : mm_cal 20 false 74 [.ref 9, .int (xs (i + 1)), .int (xs (i + 2)), .int (nI f)] (wC b ev un md tp ce pl wa sz fl pr rf ro hr th (wM cl tn ft bn fb us tk ma nt tr mk mf mr mp kd wh ca pa he fi mb td nu nx rt [(24, .inl (1, 1, .inr (.inl ou)))])) (fun o w' => mm_back 100 lw_K (mm_wp 21 (some (L, xs)) true 100 lw_K) k1 k2 456 459 [(0, .ref 99), (1, .ref 0), (2, .ref 9), (3, .ref 24), (4, .int (nI i)), (5, .int kk)] [] o w')) : mm_wp 21 (some (L, xs)) true 100 lw_K k1 k2 427 [(0, .ref 99), (1, .ref 0), (2, .ref 9), (3, .ref 24), (4, .int (nI i))] [.int kk] (wC b ev un md tp ce pl wa sz fl pr rf ro hr th (wM cl tn ft bn fb us tk ma nt tr mk mf mr mp kd wh ca pa he fi mb td nu nx rt [(24, .inl (1, 1, .inr (.inl ou)))])) := by
  have b1 : vp_in (nI i + 1) L := by rw [show (1 : Int32) = nI 1 from rfl, nI_add]; exact vp_in_nI (by omega) (by omega)
  have e1 : (nI i + 1).toNatClampNeg = i + 1 := by rw [show (1 : Int32) = nI 1 from rfl, nI_add]; exact nI_clamp (by omega)
  have b2 : vp_in (nI i + 2) L := by rw [show (2 : Int32) = nI 2 from rfl, nI_add]; exact vp_in_nI (by omega) (by omega)
  have e2 : (nI i + 2).toNatClampNeg = i + 2 := by rw [show (2 : Int32) = nI 2 from rfl, nI_add]; exact nI_clamp (by omega)
  have b3 : vp_in (nI i + 3) L := by rw [show (3 : Int32) = nI 3 from rfl, nI_add]; exact vp_in_nI (by omega) (by omega)
  have e3 : (nI i + 3).toNatClampNeg = i + 3 := by rw [show (3 : Int32) = nI 3 from rfl, nI_add]; exact nI_clamp (by omega)
  have b4 : vp_in (nI i + 4) L := by rw [show (4 : Int32) = nI 4 from rfl, nI_add]; exact vp_in_nI (by omega) (by omega)
  have e4 : (nI i + 4).toNatClampNeg = i + 4 := by rw [show (4 : Int32) = nI 4 from rfl, nI_add]; exact nI_clamp (by omega)
  have z1 : (pg_c 74).1 = 0 := rfl
  have z2 : (pg_c 74).2 = 0 := rfl
  have fin : mm_wp 21 (some (L, xs)) true 100 lw_K k1 k2 456 [(0, .ref 99), (1, .ref 0), (2, .ref 9), (3, .ref 24), (4, .int (nI i)), (5, .int kk)] [.int (nI f), .int (xs (i + 2)), .int (xs (i + 1)), .ref 9] (wC b ev un md tp ce pl wa sz fl pr rf ro hr th (wM cl tn ft bn fb us tk ma nt tr mk mf mr mp kd wh ca pa he fi mb td nu nx rt [(24, .inl (1, 1, .inr (.inl ou)))])) := mm_cvt rfl rfl rfl rfl (by rw [z1]; exact hk1) (by rw [z2]; exact hk2) (by rw [z1, z2]; exact hM)
  refine mm_go (d := 20) (lv' := [(0, .ref 99), (1, .ref 0), (2, .ref 9), (3, .ref 24), (4, .int (nI i)), (5, .int kk)]) (st' := [.int (xs (nI i + 3).toNatClampNeg), .int (xs (nI i + 2).toNatClampNeg), .int (xs (nI i + 1).toNatClampNeg), .ref 9]) 17 rfl ⟨b1, b2, b3, trivial⟩ ?_
  rw [e1, e2, e3]
  refine mm_one ⟨fun c => ?_, fun c => ?_⟩
  · have e : f = 0 := hb.mp c
    subst e
    exact mm_go (d := 20) 1 rfl trivial fin
  · have e : f = 1 := by
      have : ¬ f = 0 := fun e => c (hb.mpr e)
      omega
    subst e
    exact mm_go (d := 20) 2 rfl trivial fin
theorem b_txt (hi : i + 5 ≤ L) (hL : L ≤ 2560) (hk1 : k1 + 4 ≤ 601024) (hk2 : k2 + 24 ≤ 7293034) (hM : ∀ f, f < 2 → ((xs (i + 3)) = 0 ↔ f = 0) → mm_cal 20 false 91 [.ref 0, .int (xs (i + 1)), .int (xs (i + 2)), .int (nI f), .ref 24] (wC b ev un md tp ce pl wa sz fl pr rf ro hr th (wM cl tn ft bn fb us tk ma nt tr mk mf mr mp kd wh ca pa he fi mb td nu nx rt [(24, .inl (1, 1, .inr (.inl ou)))])) (fun o w' => mm_back 100 lw_K (mm_wp 21 (some (L, xs)) true 100 lw_K) (k1 + 3) (k2 + 18) 424 427 [(0, .ref 99), (1, .ref 0), (2, .ref 9), (3, .ref 24), (4, .int (nI i))] [] o w')) : mm_wp 21 (some (L, xs)) true 100 lw_K k1 k2 396 [(0, .ref 99), (1, .ref 0), (2, .ref 9), (3, .ref 24), (4, .int (nI i))] [] (wC b ev un md tp ce pl wa sz fl pr rf ro hr th (wM cl tn ft bn fb us tk ma nt tr mk mf mr mp kd wh ca pa he fi mb td nu nx rt [(24, .inl (1, 1, .inr (.inl ou)))])) := by
  have b1 : vp_in (nI i + 1) L := by rw [show (1 : Int32) = nI 1 from rfl, nI_add]; exact vp_in_nI (by omega) (by omega)
  have e1 : (nI i + 1).toNatClampNeg = i + 1 := by rw [show (1 : Int32) = nI 1 from rfl, nI_add]; exact nI_clamp (by omega)
  have b2 : vp_in (nI i + 2) L := by rw [show (2 : Int32) = nI 2 from rfl, nI_add]; exact vp_in_nI (by omega) (by omega)
  have e2 : (nI i + 2).toNatClampNeg = i + 2 := by rw [show (2 : Int32) = nI 2 from rfl, nI_add]; exact nI_clamp (by omega)
  have b3 : vp_in (nI i + 3) L := by rw [show (3 : Int32) = nI 3 from rfl, nI_add]; exact vp_in_nI (by omega) (by omega)
  have e3 : (nI i + 3).toNatClampNeg = i + 3 := by rw [show (3 : Int32) = nI 3 from rfl, nI_add]; exact nI_clamp (by omega)
  have b4 : vp_in (nI i + 4) L := by rw [show (4 : Int32) = nI 4 from rfl, nI_add]; exact vp_in_nI (by omega) (by omega)
  have e4 : (nI i + 4).toNatClampNeg = i + 4 := by rw [show (4 : Int32) = nI 4 from rfl, nI_add]; exact nI_clamp (by omega)
  have z1 : (pg_c 91).1 = 3 := rfl
  have z2 : (pg_c 91).2 = 18 := rfl
  have fin : ∀ f, f < 2 → ((xs (i + 3)) = 0 ↔ f = 0) → mm_wp 21 (some (L, xs)) true 100 lw_K k1 k2 423 [(0, .ref 99), (1, .ref 0), (2, .ref 9), (3, .ref 24), (4, .int (nI i))] [.int (nI f), .int (xs (i + 2)), .int (xs (i + 1)), .ref 0] (wC b ev un md tp ce pl wa sz fl pr rf ro hr th (wM cl tn ft bn fb us tk ma nt tr mk mf mr mp kd wh ca pa he fi mb td nu nx rt [(24, .inl (1, 1, .inr (.inl ou)))])) := fun f h1 h2 =>
    mm_go (d := 20) 1 rfl trivial (mm_cst rfl rfl rfl (by rw [z1]; omega) (by rw [z2]; omega) (by rw [z1, z2]; exact hM f h1 h2))
  refine mm_go (d := 20) (lv' := [(0, .ref 99), (1, .ref 0), (2, .ref 9), (3, .ref 24), (4, .int (nI i))]) (st' := [.int (xs (nI i + 3).toNatClampNeg), .int (xs (nI i + 2).toNatClampNeg), .int (xs (nI i + 1).toNatClampNeg), .ref 0]) 16 rfl ⟨b1, b2, b3, trivial⟩ ?_
  rw [e1, e2, e3]
  refine mm_one ⟨fun c => ?_, fun c => ?_⟩
  · exact mm_go (d := 20) 1 rfl trivial (fin 0 (by decide) ⟨fun _ => rfl, fun _ => c⟩)
  · exact mm_go (d := 20) 2 rfl trivial (fin 1 (by decide) ⟨fun e => absurd e c, fun e => absurd e (by decide)⟩)
theorem lt_txt (hk1 : k1 ≤ 601024) (hk2 : k2 ≤ 7293034) (h : ¬ kk = 0 ∨ ou 0 = bb.toInt64) (hn : mm_wp 21 (some (L, xs)) true 100 lw_K k1 k2 1093 [(0, .ref 99), (1, .ref 0), (2, .ref 9), (3, .ref 24), (4, .int (nI i))] [] (wC b ev un md tp ce pl wa sz fl pr rf ro hr th (wM cl tn ft bn fb us tk ma nt kk mk mf mr mp kd wh ca pa he fi mb td nu nx rt [(24, .inl (1, 1, .inr (.inl ou)))]))) : mm_wp 21 (some (L, xs)) true 100 lw_K k1 k2 459 [(0, .ref 99), (1, .ref 0), (2, .ref 9), (3, .ref 24), (4, .int (nI i)), (5, .int kk)] [.int bb] (wC b ev un md tp ce pl wa sz fl pr rf ro hr th (wM cl tn ft bn fb us tk ma nt kk mk mf mr mp kd wh ca pa he fi mb td nu nx rt [(24, .inl (1, 1, .inr (.inl ou)))])) := by
  have z1 : (pg_c 59).1 = 0 := rfl
  have z2 : (pg_c 59).2 = 0 := rfl
  refine mm_go (d := 20) 2 rfl trivial (mm_cvt rfl rfl rfl rfl (by rw [z1]; exact hk1) (by rw [z2]; exact hk2) (m_thrown (d := 19) ?_))
  rw [z1, z2]
  refine mm_go (d := 20) 1 rfl trivial (mm_one ⟨fun _ => ?_, fun c => absurd rfl c⟩)
  refine mm_go (d := 20) 1 rfl trivial (mm_one ⟨fun c => ?_, fun c => ?_⟩)
  · exact mm_go (d := 20) 1 rfl trivial (mm_few [0, 1, 2, 3, 4] rfl hn)
  · have h : ou 0 = bb.toInt64 := h.resolve_left c
    refine mm_go (d := 20) (st' := [.int (lg_cmp (ou (0 : Int32).toNatClampNeg) bb.toInt64)]) 6 rfl ⟨(vp_in_nI (n := 0) (by decide) (by decide) : vp_in (nI 0) 1), trivial⟩ ?_
    rw [show (0 : Int32).toNatClampNeg = 0 from rfl, h]
    refine mm_one ⟨fun _ => ?_, fun c => absurd ((lg_cmp_eq _ _).mpr rfl) c⟩
    exact mm_go (d := 20) 1 rfl trivial (mm_few [0, 1, 2, 3, 4] rfl hn)
end
