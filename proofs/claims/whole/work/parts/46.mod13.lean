theorem nar_k : ∀ k, k < 6 → vp_nar .byte (nI k).toInt8.toInt32 = nI k := by decide +kernel
/-- a thing's number is taken: q; a block is taken: p -/
def Tk (ft tn : Int32) (fi : Nat → Int32) (q : Nat) (ft' tn' : Int32) : Prop := q < 180100 ∧ ((ft = -1 ∧ tn = nI q ∧ ft' = -1 ∧ tn' = nI (q + 1)) ∨ (ft = nI q ∧ ft' = fi q ∧ tn' = tn))
def Bk (fb bn : Int32) (nx : Nat → Int32) (p : Nat) (fb' bn' : Int32) : Prop := p < 190000 ∧ ((fb = -1 ∧ bn = nI p ∧ fb' = -1 ∧ bn' = nI (p + 1)) ∨ (fb = nI p ∧ fb' = nx p ∧ bn' = bn))
section
variable {d : Nat} {al : Bool} {K : mm_K} {w r : mm_W} {b : Bool} {ev un md tp ce pl wa sz : Int32} {fl pr ro : Nat → Int32} {rf hr th : Nat → Int64}
variable {cl tn ft bn fb us tk ma nt tr mk : Int32} {kd wh ca pa he fi mb td nx rt : Nat → Int32} {nu : Nat → Int64} {q k f t n i j v u s : Nat} {x y z o : Int32} {l : Int64} {B : Nat → Nat}
theorem m_mk4 {p m : Nat} (hp : p < 190000) (hk : mm_wp (d + 5) none al 70 K 0 0 236 [(0, .ref 9), (1, .int (nI k)), (2, .int o), (3, .int x), (4, .int y), (5, .int z), (6, .int (nI q)), (7, .int (nI p)), (8, .int (nI m))] [] (wC b ev un md tp ce pl wa sz fl pr rf ro hr th (wM cl tn ft bn fb us tk ma nt tr mk fl rf pr kd wh ca pa he fi mb td (zer nu (4 * p) (4 * p + 4)) nx rt r))) :
    ∀ (c i : Nat), 4 - i = c → i ≤ 4 → mm_wp (d + 5) none al 70 K 0 0 211 [(0, .ref 9), (1, .int (nI k)), (2, .int o), (3, .int x), (4, .int y), (5, .int z), (6, .int (nI q)), (7, .int (nI p)), (8, .int (nI m)), (9, .int (nI p)), (10, .int (nI i))] [] (wC b ev un md tp ce pl wa sz fl pr rf ro hr th (wM cl tn ft bn fb us tk ma nt tr mk fl rf pr kd wh ca pa he fi mb td (zer nu (4 * p) (4 * p + i)) nx rt r)) := by
  intro c
  induction c with
  | zero =>
    intro i hc hi
    have e : i = 4 := by omega
    subst e
    exact mm_go (d := d + 4) 2 rfl trivial (mm_one ⟨fun _ => mm_few [0, 1, 2, 3, 4, 5, 6, 7, 8] rfl hk, fun g => absurd (show nI 4 ≤ 4 by decide) g⟩)
  | succ c ih =>
    intro i hc hi
    have e0 : (4 : Int32) * nI p + nI i = nI (4 * p + i) := by rw [show (4 : Int32) = nI 4 from rfl, pk_mul, nI_add]
    have i1 : vp_in ((4 : Int32) * nI p + nI i) 760000 := by rw [e0]; exact vp_in_nI (by omega) (by decide)
    have e1 : ((4 : Int32) * nI p + nI i).toNatClampNeg = 4 * p + i := by rw [e0]; exact nI_clamp (by omega)
    refine mm_go (d := d + 4) 2 rfl trivial (mm_one ⟨fun g => absurd (show nI 4 ≤ nI i from g) (nI_ge (by omega) (by omega)), fun _ => ?_⟩)
    refine mm_go (d := d + 4) (lv' := [(0, .ref 9), (1, .int (nI k)), (2, .int o), (3, .int x), (4, .int y), (5, .int z), (6, .int (nI q)), (7, .int (nI p)), (8, .int (nI m)), (9, .int (nI p)), (10, .int (nI i + 1))]) (w' := (wC b ev un md tp ce pl wa sz fl pr rf ro hr th (wM cl tn ft bn fb us tk ma nt tr mk fl rf pr kd wh ca pa he fi mb td (vp_updL (zer nu (4 * p) (4 * p + i)) ((4 : Int32) * nI p + nI i).toNatClampNeg 0) nx rt r))) 11 rfl ⟨i1, trivial⟩ ?_
    rw [e1, nI_1, zer_s _ (by omega)]
    exact ih (i + 1) (by omega) (by omega)
theorem m_mkB {Bnv : Nat → Int32 → Int32 → Int32 → (Nat → Int32) → (Nat → Int64) → Prop} (hq : q < 180100)
    (hs : ∀ m e bn fb nx nu, Bnv (m + 1) e bn fb nx nu → ∃ p fb' bn', Bk fb bn nx p fb' bn' ∧ Bnv m (nI p) bn' fb' (upd nx p e) (zer nu (4 * p) (4 * p + 4)))
    (hk : ∀ e bn fb nx nu, Bnv 0 e bn fb nx nu → K (.inl (some (.int (nI q)))) (wC b ev un md tp ce pl wa sz fl pr rf ro hr th (wM cl tn ft bn fb (us + x) (tk + y) (ma + x) nt tr mk fl rf pr kd wh ca pa he (upd fi q e) mb td nu nx rt r))) :
    ∀ (m : Nat) (e bn fb : Int32) (nx : Nat → Int32) (nu : Nat → Int64), m < 2 ^ 31 → Bnv m e bn fb nx nu → mm_wp (d + 5) none al 70 K 0 0 148 [(0, .ref 9), (1, .int (nI k)), (2, .int o), (3, .int x), (4, .int y), (5, .int z), (6, .int (nI q)), (7, .int e), (8, .int (nI m))] [] (wC b ev un md tp ce pl wa sz fl pr rf ro hr th (wM cl tn ft bn fb us tk ma nt tr mk fl rf pr kd wh ca pa he fi mb td nu nx rt r)) := by
  have i1 : vp_in (nI q) 180100 := vp_in_nI hq (by decide)
  have e1 : (nI q).toNatClampNeg = q := nI_clamp (by omega)
  intro m
  induction m with
  | zero =>
    intro e bn fb nx nu hm hI
    refine mm_go (d := d + 4) 1 rfl trivial (mm_one ⟨fun _ => ?_, fun g => absurd (show nI 0 ≤ 0 by decide) g⟩)
    refine mm_go (d := d + 4) (w' := (wC b ev un md tp ce pl wa sz fl pr rf ro hr th (wM cl tn ft bn fb (us + x) (tk + y) (ma + x) nt tr mk fl rf pr kd wh ca pa he (upd fi (nI q).toNatClampNeg e) mb td nu nx rt r))) 24 rfl ⟨i1, trivial⟩ ?_
    rw [e1]
    exact mm_one (hk e bn fb nx nu hI)
  | succ m ih =>
    intro e bn fb nx nu hm hI
    obtain ⟨p, fb', bn', ⟨hp, hBk⟩, hI'⟩ := hs m e bn fb nx nu hI
    have i2 : vp_in (nI p) 190000 := vp_in_nI hp (by decide)
    have e2 : (nI p).toNatClampNeg = p := nI_clamp (by omega)
    have hp1 : ¬ nI p = -1 := fun e => absurd (show nI p < 0 by rw [e]; decide) (nI_pos (by omega))
    have fin : mm_wp (d + 5) none al 70 K 0 0 195 [(0, .ref 9), (1, .int (nI k)), (2, .int o), (3, .int x), (4, .int y), (5, .int z), (6, .int (nI q)), (7, .int e), (8, .int (nI (m + 1))), (9, .int (nI p))] [] (wC b ev un md tp ce pl wa sz fl pr rf ro hr th (wM cl tn ft bn' fb' us tk ma nt tr mk fl rf pr kd wh ca pa he fi mb td nu nx rt r)) := by
      refine mm_go (d := d + 4) (lv' := [(0, .ref 9), (1, .int (nI k)), (2, .int o), (3, .int x), (4, .int y), (5, .int z), (6, .int (nI q)), (7, .int (nI p)), (8, .int (nI (m + 1))), (9, .int (nI p)), (10, .int (nI 0))]) (w' := (wC b ev un md tp ce pl wa sz fl pr rf ro hr th (wM cl tn ft bn' fb' us tk ma nt tr mk fl rf pr kd wh ca pa he fi mb td nu (upd nx (nI p).toNatClampNeg e) rt r))) 9 rfl ⟨i2, trivial⟩ ?_
      rw [e2]
      have g := m_mk4 (d := d) (al := al) (K := K) (q := q) (p := p) (m := m + 1) hp (k := k) (o := o) (x := x) (y := y) (z := z) (b := b) (ev := ev) (un := un) (md := md) (tp := tp) (ce := ce) (pl := pl) (wa := wa) (sz := sz) (fl := fl) (pr := pr) (ro := ro) (rf := rf) (hr := hr) (th := th) (cl := cl) (tn := tn) (ft := ft) (bn := bn') (fb := fb') (us := us) (tk := tk) (ma := ma) (nt := nt) (tr := tr) (mk := mk) (kd := kd) (wh := wh) (ca := ca) (pa := pa) (he := he) (fi := fi) (mb := mb) (td := td) (nx := upd nx p e) (rt := rt) (nu := nu) (r := r) ?_ 4 0 rfl (Nat.zero_le _)
      · rw [show zer nu (4 * p) (4 * p + 0) = nu from zer_0 nu (4 * p)] at g
        exact g
      · refine mm_go (d := d + 4) (lv' := [(0, .ref 9), (1, .int (nI k)), (2, .int o), (3, .int x), (4, .int y), (5, .int z), (6, .int (nI q)), (7, .int (nI p)), (8, .int (nI (m + 1) + -1))]) 2 rfl trivial ?_
        rw [nI_m1]
        exact ih _ _ _ _ _ (by omega) hI'
    refine mm_go (d := d + 4) 1 rfl trivial (mm_one ⟨fun g => absurd g (nI_nle (by omega) (by omega)), fun _ => ?_⟩)
    refine mm_go (d := d + 4) 5 rfl trivial (mm_one ⟨fun g => ?_, fun g => ?_⟩)
    · have g : ¬ fb = -1 := g
      rcases hBk with ⟨c, -, -, -⟩ | ⟨c, c1, c2⟩
      · exact absurd c g
      · subst c
        subst c1
        subst c2
        refine mm_go (d := d + 4) (lv' := [(0, .ref 9), (1, .int (nI k)), (2, .int o), (3, .int x), (4, .int y), (5, .int z), (6, .int (nI q)), (7, .int e), (8, .int (nI (m + 1))), (9, .int (nI p))]) (w' := (wC b ev un md tp ce pl wa sz fl pr rf ro hr th (wM cl tn ft bn' (nx (nI p).toNatClampNeg) us tk ma nt tr mk fl rf pr kd wh ca pa he fi mb td nu nx rt r))) 6 rfl ⟨i2, trivial⟩ ?_
        rw [e2]
        exact fin
    · have g : fb = -1 := Classical.not_not.mp g
      rcases hBk with ⟨c, c1, c2, c3⟩ | ⟨c, c1, c2⟩
      · subst c1
        subst c2
        subst c3
        subst g
        refine mm_go (d := d + 4) (lv' := [(0, .ref 9), (1, .int (nI k)), (2, .int o), (3, .int x), (4, .int y), (5, .int z), (6, .int (nI q)), (7, .int e), (8, .int (nI (m + 1))), (9, .int (nI p))]) (w' := (wC b ev un md tp ce pl wa sz fl pr rf ro hr th (wM cl tn ft (nI p + 1) (-1) us tk ma nt tr mk fl rf pr kd wh ca pa he fi mb td nu nx rt r))) 10 rfl trivial ?_
        rw [nI_1]
        exact fin
      · exact absurd (c.symm.trans g) hp1
theorem m_mk27 (hk6 : k < 6)
    (hno : ¬ (us + x ≤ 100000 ∧ tk + y ≤ 180000) → K (.inl (some (.int (-1)))) (wC b ev un md tp ce pl wa sz fl pr rf ro hr th (wM cl tn ft bn fb us tk ma nt tr mk fl rf pr kd wh ca pa he fi mb td nu nx rt r)))
    (hyes : us + x ≤ 100000 → tk + y ≤ 180000 → ∃ q ft' tn' f t n, Tk ft tn fi q ft' tn' ∧ Mt fl pr rf (upd kd q (nI k)) (upd wh q o) (upd ca q x) (upd pa q y) (upd he q z) q k f t n ∧ ∃ Bnv : Nat → Int32 → Int32 → Int32 → (Nat → Int32) → (Nat → Int64) → Prop, Bnv (bkN k n) (-1) bn fb nx nu ∧ (∀ m e bn fb nx nu, Bnv (m + 1) e bn fb nx nu → ∃ p fb' bn', Bk fb bn nx p fb' bn' ∧ Bnv m (nI p) bn' fb' (upd nx p e) (zer nu (4 * p) (4 * p + 4))) ∧ ∀ e bn fb nx nu, Bnv 0 e bn fb nx nu → K (.inl (some (.int (nI q)))) (wC b ev un md tp ce pl wa sz fl pr rf ro hr th (wM cl tn' ft' bn fb (us + x) (tk + y) (ma + x) nt tr mk fl rf pr (upd kd q (nI k)) (upd wh q o) (upd ca q x) (upd pa q y) (upd he q z) (upd fi q e) mb td nu nx rt r))) : mm_wp (d + 5) none al 70 K 0 0 27 [(0, .ref 9), (1, .int (nI k)), (2, .int o), (3, .int x), (4, .int y), (5, .int z)] [] (wC b ev un md tp ce pl wa sz fl pr rf ro hr th (wM cl tn ft bn fb us tk ma nt tr mk fl rf pr kd wh ca pa he fi mb td nu nx rt r)) := by
  refine mm_go (d := d + 4) 5 rfl trivial (mm_one ⟨fun g => ?_, fun g => ?_⟩)
  · exact mm_go (d := d + 4) 1 rfl trivial (mm_one (hno (fun e => absurd e.1 (Int32.not_le.mpr g))))
  have g : us + x ≤ 100000 := Int32.not_lt.mp g
  refine mm_go (d := d + 4) 5 rfl trivial (mm_one ⟨fun g2 => ?_, fun g2 => ?_⟩)
  case _ =>
    obtain ⟨q, ft', tn', f, t, n, ⟨hq, hT⟩, hMt, Bnv, hB0, hBs, hBe⟩ := hyes g g2
    have hn : n ≤ 100000 := hMt.2.1.2.2.2
    have i1 : vp_in (nI q) 180100 := vp_in_nI hq (by decide)
    have e1 : (nI q).toNatClampNeg = q := nI_clamp (by omega)
    have hq1 : ¬ nI q = -1 := fun e => absurd (show nI q < 0 by rw [e]; decide) (nI_pos (by omega))
    have fin : mm_wp (d + 5) none al 70 K 0 0 94 [(0, .ref 9), (1, .int (nI k)), (2, .int o), (3, .int x), (4, .int y), (5, .int z), (6, .int (nI q))] [] (wC b ev un md tp ce pl wa sz fl pr rf ro hr th (wM cl tn' ft' bn fb us tk ma nt tr mk fl rf pr kd wh ca pa he fi mb td nu nx rt r)) := by
      refine mm_go (d := d + 4) (st' := [.int (nI q), .ref 9]) (lv' := [(0, .ref 9), (1, .int (nI k)), (2, .int o), (3, .int x), (4, .int y), (5, .int z), (6, .int (nI q)), (7, .int (-1))]) (w' := (wC b ev un md tp ce pl wa sz fl pr rf ro hr th (wM cl tn' ft' bn fb us tk ma nt tr mk fl rf pr (upd kd (nI q).toNatClampNeg (vp_nar .byte (nI k).toInt8.toInt32)) (upd wh (nI q).toNatClampNeg o) (upd ca (nI q).toNatClampNeg x) (upd pa (nI q).toNatClampNeg y) (upd he (nI q).toNatClampNeg z) fi mb td nu nx rt r))) 30 rfl ⟨i1, i1, i1, i1, i1, trivial⟩ ?_
      rw [e1, nar_k k hk6]
      refine mm_one (m_blocks (d := d + 2) hMt ?_)
      refine mm_go (d := d + 4) (lv' := [(0, .ref 9), (1, .int (nI k)), (2, .int o), (3, .int x), (4, .int y), (5, .int z), (6, .int (nI q)), (7, .int (-1)), (8, .int (nI (bkN k n)))]) 1 rfl trivial ?_
      exact m_mkB hq hBs hBe (bkN k n) _ _ _ _ _ (by rw [bk_cw]; unfold cwN; split <;> omega) hB0
    refine mm_go (d := d + 4) 5 rfl trivial (mm_one ⟨fun c => ?_, fun c => ?_⟩)
    · have c : ¬ ft = -1 := c
      rcases hT with ⟨c0, -, -, -⟩ | ⟨c0, c1, c2⟩
      · exact absurd c0 c
      · subst c0
        subst c1
        subst c2
        refine mm_go (d := d + 4) (lv' := [(0, .ref 9), (1, .int (nI k)), (2, .int o), (3, .int x), (4, .int y), (5, .int z), (6, .int (nI q))]) (w' := (wC b ev un md tp ce pl wa sz fl pr rf ro hr th (wM cl tn' (fi (nI q).toNatClampNeg) bn fb us tk ma nt tr mk fl rf pr kd wh ca pa he fi mb td nu nx rt r))) 6 rfl ⟨i1, trivial⟩ ?_
        rw [e1]
        exact fin
    · have c : ft = -1 := Classical.not_not.mp c
      rcases hT with ⟨c0, c1, c2, c3⟩ | ⟨c0, c1, c2⟩
      · subst c1
        subst c2
        subst c3
        subst c
        refine mm_go (d := d + 4) (lv' := [(0, .ref 9), (1, .int (nI k)), (2, .int o), (3, .int x), (4, .int y), (5, .int z), (6, .int (nI q))]) (w' := (wC b ev un md tp ce pl wa sz fl pr rf ro hr th (wM cl (nI q + 1) (-1) bn fb us tk ma nt tr mk fl rf pr kd wh ca pa he fi mb td nu nx rt r))) 10 rfl trivial ?_
        rw [nI_1]
        exact fin
      · exact absurd (c0.symm.trans c) hq1
  case _ =>
    exact mm_go (d := d + 4) 1 rfl trivial (mm_one (hno (fun e => absurd e.2 g2)))
theorem m_make {P : (Nat → Int32) → (Nat → Int32) → Int32 → Int32 → Int32 → Int32 → Int32 → (Nat → Int32) → (Nat → Int32) → (Nat → Int32) → Prop} (hk6 : k < 6)
    (hsw : ¬ (us + x ≤ 100000 ∧ tk + y ≤ 180000) → ∀ K' : mm_K, (∀ mb td us tk ft fb mk kd fi nx, P mb td us tk ft fb mk kd fi nx → K' (.inl none) (wC b ev un md tp ce pl wa sz fl pr rf ro hr th (wM cl tn ft bn fb us tk ma nt tr mk fl rf pr kd wh ca pa he fi mb td nu nx rt r))) → mm_cal (d + 4) false 68 [.ref 9] (wC b ev un md tp ce pl wa sz fl pr rf ro hr th (wM cl tn ft bn fb us tk ma nt tr mk fl rf pr kd wh ca pa he fi mb td nu nx rt r)) K')
    (hst : us + x ≤ 100000 → tk + y ≤ 180000 → P mb td us tk ft fb mk kd fi nx)
    (hno : ∀ mb td us tk ft fb mk kd fi nx, P mb td us tk ft fb mk kd fi nx → ¬ (us + x ≤ 100000 ∧ tk + y ≤ 180000) → K (.inl (some (.int (-1)))) (wC b ev un md tp ce pl wa sz fl pr rf ro hr th (wM cl tn ft bn fb us tk ma nt tr mk fl rf pr kd wh ca pa he fi mb td nu nx rt r)))
    (hyes : ∀ mb td us tk ft fb mk kd fi nx, P mb td us tk ft fb mk kd fi nx → us + x ≤ 100000 → tk + y ≤ 180000 → ∃ q ft' tn' f t n, Tk ft tn fi q ft' tn' ∧ Mt fl pr rf (upd kd q (nI k)) (upd wh q o) (upd ca q x) (upd pa q y) (upd he q z) q k f t n ∧ ∃ Bnv : Nat → Int32 → Int32 → Int32 → (Nat → Int32) → (Nat → Int64) → Prop, Bnv (bkN k n) (-1) bn fb nx nu ∧ (∀ m e bn fb nx nu, Bnv (m + 1) e bn fb nx nu → ∃ p fb' bn', Bk fb bn nx p fb' bn' ∧ Bnv m (nI p) bn' fb' (upd nx p e) (zer nu (4 * p) (4 * p + 4))) ∧ ∀ e bn fb nx nu, Bnv 0 e bn fb nx nu → K (.inl (some (.int (nI q)))) (wC b ev un md tp ce pl wa sz fl pr rf ro hr th (wM cl tn' ft' bn fb (us + x) (tk + y) (ma + x) nt tr mk fl rf pr (upd kd q (nI k)) (upd wh q o) (upd ca q x) (upd pa q y) (upd he q z) (upd fi q e) mb td nu nx rt r))) : mm_cal (d + 5) al 70 [.ref 9, .int (nI k), .int o, .int x, .int y, .int z] (wC b ev un md tp ce pl wa sz fl pr rf ro hr th (wM cl tn ft bn fb us tk ma nt tr mk fl rf pr kd wh ca pa he fi mb td nu nx rt r)) K := by
  have hsw27 : ¬ (us + x ≤ 100000 ∧ tk + y ≤ 180000) → mm_wp (d + 5) none al 70 K 0 0 23 [(0, .ref 9), (1, .int (nI k)), (2, .int o), (3, .int x), (4, .int y), (5, .int z)] [] (wC b ev un md tp ce pl wa sz fl pr rf ro hr th (wM cl tn ft bn fb us tk ma nt tr mk fl rf pr kd wh ca pa he fi mb td nu nx rt r)) := fun g =>
    mm_go (d := d + 4) 1 rfl trivial (mm_one (hsw g _ (fun mb td us tk ft fb mk kd fi nx hP => m_mk27 hk6 (hno _ _ _ _ _ _ _ _ _ _ hP) (hyes _ _ _ _ _ _ _ _ _ _ hP))))
  refine mm_go (d := d + 4) 5 rfl trivial (mm_one ⟨fun g => ?_, fun g => ?_⟩)
  · exact hsw27 (fun e => absurd e.1 (Int32.not_le.mpr g))
  have g : us + x ≤ 100000 := Int32.not_lt.mp g
  refine mm_go (d := d + 4) 5 rfl trivial (mm_one ⟨fun g2 => ?_, fun g2 => ?_⟩)
  case _ => exact m_mk27 hk6 (hno _ _ _ _ _ _ _ _ _ _ (hst g g2)) (hyes _ _ _ _ _ _ _ _ _ _ (hst g g2))
  case _ => exact hsw27 (fun e => absurd e.2 g2)
end
