/-- the marks of the first i things are put to 0 -/
def unm (mb : Nat → Int32) (i : Nat) : Nat → Int32 := fun j => if j < i then 0 else mb j
theorem unm_0 (mb : Nat → Int32) : unm mb 0 = mb := by
  funext j
  unfold unm
  rw [if_neg (by omega)]
theorem unm_s (mb : Nat → Int32) (i : Nat) : upd (unm mb i) i 0 = unm mb (i + 1) := by
  funext j
  unfold upd unm
  by_cases c : j = i
  · subst c
    rw [if_pos rfl, if_pos (by omega)]
  · rw [if_neg c]
    by_cases c2 : j < i
    · rw [if_pos c2, if_pos (by omega)]
    · rw [if_neg c2, if_neg (by omega)]
/-- mark of x, where M wait -/
def Mk (x : Int32) (mb td : Nat → Int32) (M : Nat) (mb' td' : Nat → Int32) (M' : Nat) : Prop :=
  (x = -1 ∧ mb' = mb ∧ td' = td ∧ M' = M) ∨
  (∃ q, q < 180100 ∧ x = nI q ∧ ¬ mb q = 0 ∧ mb' = mb ∧ td' = td ∧ M' = M) ∨
  (∃ q, q < 180100 ∧ x = nI q ∧ mb q = 0 ∧ M < 180100 ∧ mb' = upd mb q 1 ∧ td' = upd td M (nI q) ∧ M' = M + 1)
section
variable {d : Nat} {al : Bool} {K : mm_K} {w r : mm_W} {b : Bool} {ev un md tp ce pl wa sz : Int32} {fl pr ro : Nat → Int32} {rf hr th : Nat → Int64}
variable {cl tn ft bn fb us tk ma nt tr mk : Int32} {kd wh ca pa he fi mb td nx rt : Nat → Int32} {nu : Nat → Int64} {q k f t n i j v u s : Nat} {x y z o : Int32} {l : Int64} {B : Nat → Nat}
theorem m_mark {M M' : Nat} {mb' td' : Nat → Int32} (h : Mk x mb td M mb' td' M') (hk : K (.inl none) (wC b ev un md tp ce pl wa sz fl pr rf ro hr th (wM cl tn ft bn fb us tk ma nt tr (nI M') fl rf pr kd wh ca pa he fi mb' td' nu nx rt r))) : mm_cal (d + 1) al 67 [.ref 9, .int x] (wC b ev un md tp ce pl wa sz fl pr rf ro hr th (wM cl tn ft bn fb us tk ma nt tr (nI M) fl rf pr kd wh ca pa he fi mb td nu nx rt r)) K := by
  rcases h with ⟨rfl, rfl, rfl, rfl⟩ | ⟨q, hq, rfl, hm, rfl, rfl, rfl⟩ | ⟨q, hq, rfl, hm, hM, rfl, rfl, rfl⟩
  · exact m_mark0 hk
  · exact m_mark1 hq hm hk
  · exact m_mark2 hq hm hM hk
theorem m_sw1 {N : Nat} (hN : N ≤ 180100) (hk : mm_wp (d + 4) none al 68 K 0 0 23 [(0, .ref 9)] [] (wC b ev un md tp ce pl wa sz fl pr rf ro hr th (wM cl (nI N) ft bn fb us tk ma nt tr mk fl rf pr kd wh ca pa he fi (unm mb N) td nu nx rt r))) :
    ∀ (m i : Nat), N - i = m → i ≤ N → mm_wp (d + 4) none al 68 K 0 0 2 [(0, .ref 9), (1, .int (nI i))] [] (wC b ev un md tp ce pl wa sz fl pr rf ro hr th (wM cl (nI N) ft bn fb us tk ma nt tr mk fl rf pr kd wh ca pa he fi (unm mb i) td nu nx rt r)) := by
  intro m
  induction m with
  | zero =>
    intro i hm hi
    have e : i = N := by omega
    subst e
    exact mm_go (d := d + 3) 3 rfl trivial (mm_one ⟨fun _ => mm_few [0] rfl hk, fun c => absurd (nI_le (Nat.le_refl i) (by omega)) c⟩)
  | succ m ih =>
    intro i hm hi
    have i1 : vp_in (nI i) 180100 := vp_in_nI (by omega) (by decide)
    have e1 : (nI i).toNatClampNeg = i := nI_clamp (by omega)
    refine mm_go (d := d + 3) 3 rfl trivial (mm_one ⟨fun c => absurd c (nI_ge (by omega) (by omega)), fun _ => ?_⟩)
    refine mm_go (d := d + 3) (lv' := [(0, .ref 9), (1, .int (nI i + 1))]) (w' := (wC b ev un md tp ce pl wa sz fl pr rf ro hr th (wM cl (nI N) ft bn fb us tk ma nt tr mk fl rf pr kd wh ca pa he fi (upd (unm mb i) (nI i).toNatClampNeg 0) td nu nx rt r))) 7 rfl ⟨i1, trivial⟩ ?_
    rw [e1, unm_s, nI_1]
    exact ih (i + 1) (by omega) (by omega)
theorem m_sw2 {Inv : Nat → (Nat → Int32) → (Nat → Int32) → Nat → Prop}
    (h2 : ∀ i mb td M, i < 64 → Inv i mb td M → ∃ mb' td' M', Mk (rt i) mb td M mb' td' M' ∧ Inv (i + 1) mb' td' M')
    (hk : ∀ mb td M, Inv 64 mb td M → mm_wp (d + 4) none al 68 K 0 0 52 [(0, .ref 9)] [] (wC b ev un md tp ce pl wa sz fl pr rf ro hr th (wM cl tn ft bn fb us tk ma nt tr (nI M) fl rf pr kd wh ca pa he fi mb td nu nx rt r))) :
    ∀ (m i : Nat) (mb td : Nat → Int32) (M : Nat), 64 - i = m → i ≤ 64 → Inv i mb td M → mm_wp (d + 4) none al 68 K 0 0 30 [(0, .ref 9), (1, .int (nI i))] [] (wC b ev un md tp ce pl wa sz fl pr rf ro hr th (wM cl tn ft bn fb us tk ma nt tr (nI M) fl rf pr kd wh ca pa he fi mb td nu nx rt r)) := by
  intro m
  induction m with
  | zero =>
    intro i mb td M hm hi hI
    have e : i = 64 := by omega
    subst e
    exact mm_go (d := d + 3) 2 rfl trivial (mm_one ⟨fun _ => mm_few [0] rfl (hk _ _ _ hI), fun c => absurd (show nI 64 ≤ 64 by decide) c⟩)
  | succ m ih =>
    intro i mb td M hm hi hI
    have i1 : vp_in (nI i) 64 := vp_in_nI (by omega) (by decide)
    have e1 : (nI i).toNatClampNeg = i := nI_clamp (by omega)
    obtain ⟨mb', td', M', hM, hI'⟩ := h2 i mb td M (by omega) hI
    refine mm_go (d := d + 3) 2 rfl trivial (mm_one ⟨fun c => absurd (show nI 64 ≤ nI i from c) (nI_ge (by omega) (by omega)), fun _ => ?_⟩)
    refine mm_go (d := d + 3) (st' := [.int (rt (nI i).toNatClampNeg), .ref 9]) 5 rfl ⟨i1, trivial⟩ ?_
    rw [e1]
    refine mm_one (m_mark (d := d + 2) hM ?_)
    refine mm_go (d := d + 3) (lv' := [(0, .ref 9), (1, .int (nI i + 1))]) 2 rfl trivial ?_
    rw [nI_1]
    exact ih (i + 1) _ _ _ (by omega) (by omega) hI'
theorem m_sw3i {Inv : Nat → (Nat → Int32) → (Nat → Int32) → Nat → Prop} (h : Mt fl pr rf kd wh ca pa he q k f t n) (hB : Mc fi nx q (bkN k n) B) (h4 : ¬ k = 4)
    (hs : (∀ i mb td M, i < n → Inv i mb td M → (isrN rf k t i = 0 → Inv (i + 1) mb td M) ∧ (isrN rf k t i = 1 → ∃ mb' td' M', Mk ((nu (4 * B (i / 4) + i % 4)).toInt32 - 1) mb td M mb' td' M' ∧ Inv (i + 1) mb' td' M')))
    (hk : ∀ mb td M, Inv n mb td M → mm_wp (d + 4) none al 68 K 0 0 52 [(0, .ref 9)] [] (wC b ev un md tp ce pl wa sz fl pr rf ro hr th (wM cl tn ft bn fb us tk ma nt tr (nI M) fl rf pr kd wh ca pa he fi mb td nu nx rt r))) :
    ∀ (m i : Nat) (x : Int32) (mb td : Nat → Int32) (M : Nat), n - i = m → i ≤ n → (i < n → x = nI (B (i / 4))) → Inv i mb td M → mm_wp (d + 4) none al 68 K 0 0 118 [(0, .ref 9), (1, .int (nI q)), (2, .int x), (3, .int (nI n)), (4, .int (nI i))] [] (wC b ev un md tp ce pl wa sz fl pr rf ro hr th (wM cl tn ft bn fb us tk ma nt tr (nI M) fl rf pr kd wh ca pa he fi mb td nu nx rt r)) := by
  have hn : n ≤ 100000 := h.2.1.2.2.2
  have eb : bkN k n = (n + 3) / 4 := if_neg h4
  intro m
  induction m with
  | zero =>
    intro i x mb td M hm hi hx hI
    have e : i = n := by omega
    subst e
    refine mm_go (d := d + 3) 2 rfl trivial (mm_one ⟨fun _ => ?_, fun c => absurd (nI_le (Nat.le_refl i) (by omega)) c⟩)
    exact mm_go (d := d + 3) 1 rfl trivial (mm_few [0] rfl (hk _ _ _ hI))
  | succ m ih =>
    intro i x mb td M hm hi hx hI
    have hin : i < n := by omega
    have ex := hx hin
    subst ex
    have hb := hB.1 (i / 4) (by omega)
    have i1 : vp_in (nI (4 * B (i / 4) + i % 4)) 760000 := vp_in_nI (by omega) (by decide)
    have e1 : (nI (4 * B (i / 4) + i % 4)).toNatClampNeg = 4 * B (i / 4) + i % 4 := nI_clamp (by omega)
    have i2 : vp_in (nI (B (i / 4))) 190000 := vp_in_nI (by omega) (by decide)
    have e2 : (nI (B (i / 4))).toNatClampNeg = B (i / 4) := nI_clamp (by omega)
    have h4m : nI i - nI i / 4 * 4 = nI (i % 4) := by rw [show (4 : Int32) = nI 4 from rfl, pk_rem (by omega) (by decide) (by decide)]
    have fin : ∀ mb td M, Inv (i + 1) mb td M → mm_wp (d + 4) none al 68 K 0 0 154 [(0, .ref 9), (1, .int (nI q)), (2, .int (nI (B (i / 4)))), (3, .int (nI n)), (4, .int (nI i))] [] (wC b ev un md tp ce pl wa sz fl pr rf ro hr th (wM cl tn ft bn fb us tk ma nt tr (nI M) fl rf pr kd wh ca pa he fi mb td nu nx rt r)) := by
      intro mb td M hI'
      refine mm_go (d := d + 3) (st' := [.int 3, .int (nI i - nI i / 4 * 4)]) 4 rfl trivial ?_
      rw [h4m]
      refine mm_one ⟨fun c => ?_, fun c => ?_⟩
      · have c : ¬ nI (i % 4) = 3 := c
        refine mm_go (d := d + 3) (lv' := [(0, .ref 9), (1, .int (nI q)), (2, .int (nI (B (i / 4)))), (3, .int (nI n)), (4, .int (nI i + 1))]) 2 rfl trivial ?_
        rw [nI_1]
        exact ih (i + 1) _ _ _ _ (by omega) (by omega) (fun g => by
          have : ¬ i % 4 = 3 := fun e => c (by rw [e]; rfl)
          have : (i + 1) / 4 = i / 4 := by omega
          rw [this]) hI'
      · have c : i % 4 = 3 := (nI_eq (by omega) (by decide)).mp (Classical.not_not.mp c)
        refine mm_go (d := d + 3) (lv' := [(0, .ref 9), (1, .int (nI q)), (2, .int (nx (nI (B (i / 4))).toNatClampNeg)), (3, .int (nI n)), (4, .int (nI i + 1))]) 7 rfl ⟨i2, trivial⟩ ?_
        rw [nI_1, e2]
        exact ih (i + 1) _ _ _ _ (by omega) (by omega) (fun g => by
          have : (i + 1) / 4 = i / 4 + 1 := by omega
          rw [this]
          exact hB.2.2 (i / 4) (by omega)) hI'
    refine mm_go (d := d + 3) 2 rfl trivial (mm_one ⟨fun c => absurd c (nI_ge (by omega) (by omega)), fun _ => ?_⟩)
    refine mm_go (d := d + 3) 3 rfl trivial (mm_one (m_isRef (d := d + 2) h hin ?_))
    have h2 := isrN_2 rf k t i
    obtain ⟨s0, s1⟩ := hs i mb td M hin hI
    refine mm_one ⟨fun c => ?_, fun c => ?_⟩
    · have c : isrN rf k t i = 0 := (nI_eq (by omega) (by decide)).mp c
      exact fin _ _ _ (s0 c)
    · have c : ¬ isrN rf k t i = 0 := fun e => c (by rw [e]; rfl)
      obtain ⟨mb', td', M', hM, hI'⟩ := s1 (by omega)
      refine mm_go (d := d + 3) (st' := [.int ((nu (4 * nI (B (i / 4)) + (nI i - nI i / 4 * 4)).toNatClampNeg).toInt32 - 1), .ref 9]) 14 rfl ⟨?_, trivial⟩ ?_
      · show vp_in (4 * nI (B (i / 4)) + (nI i - nI i / 4 * 4)) 760000
        rw [h4m, show (4 : Int32) = nI 4 from rfl, pk_mul, nI_add]
        exact i1
      · rw [h4m, show (4 : Int32) * nI (B (i / 4)) = nI (4 * B (i / 4)) from pk_mul 4 _, nI_add, e1]
        exact mm_one (m_mark (d := d + 2) hM (fin _ _ _ hI'))
theorem m_sw3 {Jnv : Nat → (Nat → Int32) → (Nat → Int32) → Nat → Prop}
    (hb : ∀ s mb td M, Jnv s mb td M → M ≤ 180100)
    (h4 : ∀ s mb td M, Jnv s mb td (M + 1) → s < 180100 ∧ ∃ q k f t n B, td M = nI q ∧ Mt fl pr rf kd wh ca pa he q k f t n ∧ Mc fi nx q (bkN k n) B ∧ (k = 4 ∨ k = 2 → Jnv (s + 1) mb td M) ∧ (¬ (k = 4 ∨ k = 2) → ∃ Inv : Nat → (Nat → Int32) → (Nat → Int32) → Nat → Prop, Inv 0 mb td M ∧ (∀ i mb td M, i < n → Inv i mb td M → (isrN rf k t i = 0 → Inv (i + 1) mb td M) ∧ (isrN rf k t i = 1 → ∃ mb' td' M', Mk ((nu (4 * B (i / 4) + i % 4)).toInt32 - 1) mb td M mb' td' M' ∧ Inv (i + 1) mb' td' M')) ∧ ∀ mb td M, Inv n mb td M → Jnv (s + 1) mb td M))
    (hk : ∀ s mb td, Jnv s mb td 0 → mm_wp (d + 4) none al 68 K 0 0 178 [(0, .ref 9)] [] (wC b ev un md tp ce pl wa sz fl pr rf ro hr th (wM cl tn ft bn fb us tk ma nt tr (nI 0) fl rf pr kd wh ca pa he fi mb td nu nx rt r))) :
    ∀ (m s : Nat) (mb td : Nat → Int32) (M : Nat), 180100 - s = m → s ≤ 180100 → Jnv s mb td M → mm_wp (d + 4) none al 68 K 0 0 52 [(0, .ref 9)] [] (wC b ev un md tp ce pl wa sz fl pr rf ro hr th (wM cl tn ft bn fb us tk ma nt tr (nI M) fl rf pr kd wh ca pa he fi mb td nu nx rt r)) := by
  intro m
  induction m with
  | zero =>
    intro s mb td M hm hs hJ
    cases M with
    | zero => exact mm_go (d := d + 3) 2 rfl trivial (mm_one ⟨fun _ => hk s _ _ hJ, fun c => absurd (show nI 0 ≤ 0 by decide) c⟩)
    | succ M => exact absurd (h4 s mb td M hJ).1 (by omega)
  | succ m ih =>
    intro s mb td M hm hs hJ
    cases M with
    | zero => exact mm_go (d := d + 3) 2 rfl trivial (mm_one ⟨fun _ => hk s _ _ hJ, fun c => absurd (show nI 0 ≤ 0 by decide) c⟩)
    | succ M =>
      have hM := hb s mb td _ hJ
      obtain ⟨hs2, q, k, f, t, n, B, etd, hMt, hB, hA, hC⟩ := h4 s mb td M hJ
      have hq : q < 180100 := hMt.1
      have hn : n ≤ 100000 := hMt.2.1.2.2.2
      have h6 : k < 6 := hMt.2.2.2.1
      have ek : kd q = nI k := hMt.2.2.2.2.2.2.1
      have i1 : vp_in (nI (M + 1) - 1) 180100 := by rw [nI_pred]; exact vp_in_nI (by omega) (by decide)
      have e1 : (nI (M + 1) - 1).toNatClampNeg = M := by rw [nI_pred]; exact nI_clamp (by omega)
      have e2 : td (nI (M + 1) - 1).toNatClampNeg = nI q := by rw [e1]; exact etd
      have i2 : vp_in (nI q) 180100 := vp_in_nI hq (by decide)
      have e3 : (nI q).toNatClampNeg = q := nI_clamp (by omega)
      refine mm_go (d := d + 3) 2 rfl trivial (mm_one ⟨fun c => absurd c (nI_nle (by omega) (by omega)), fun _ => ?_⟩)
      refine mm_go (d := d + 3) (st' := [.int (td (nI (M + 1) - 1).toNatClampNeg), .ref 9]) (lv' := [(0, .ref 9), (1, .int (td (nI (M + 1) - 1).toNatClampNeg)), (2, .int (fi (td (nI (M + 1) - 1).toNatClampNeg).toNatClampNeg))]) (w' := (wC b ev un md tp ce pl wa sz fl pr rf ro hr th (wM cl tn ft bn fb us tk ma nt tr (nI (M + 1) - 1) fl rf pr kd wh ca pa he fi mb td nu nx rt r))) 19 rfl ⟨i1, (by rw [e2]; exact i2 : vp_in (td (nI (M + 1) - 1).toNatClampNeg) 180100), trivial⟩ ?_
      rw [e2, e3, nI_pred]
      refine mm_one (m_size (d := d + 2) hMt ?_)
      refine mm_go (d := d + 3) (st' := [.int 4, .int (kd (nI q).toNatClampNeg)]) 6 rfl ⟨i2, trivial⟩ ?_
      rw [e3, ek]
      refine mm_one ⟨fun c => ?_, fun c => ?_⟩
      · have c : k = 4 := (nI_eq (by omega) (by decide)).mp c
        exact mm_few [0] rfl (ih (s + 1) _ _ _ (by omega) (by omega) (hA (.inl c)))
      · have c : ¬ k = 4 := fun e => c (by rw [e]; rfl)
        refine mm_go (d := d + 3) (st' := [.int 2, .int (kd (nI q).toNatClampNeg)]) 5 rfl ⟨i2, trivial⟩ ?_
        rw [e3, ek]
        refine mm_one ⟨fun c2 => ?_, fun c2 => ?_⟩
        · have c2 : ¬ k = 2 := fun e => c2 (by rw [e]; rfl)
          obtain ⟨Inv, hI0, hst, hend⟩ := hC (fun e => e.elim c c2)
          refine mm_go (d := d + 3) (lv' := [(0, .ref 9), (1, .int (nI q)), (2, .int (fi q)), (3, .int (nI n)), (4, .int (nI 0))]) 2 rfl trivial ?_
          exact m_sw3i hMt hB c hst (fun mb td M g => ih (s + 1) _ _ _ (by omega) (by omega) (hend _ _ _ g)) n 0 (fi q) mb td M rfl (Nat.zero_le _) (fun g => hB.2.1 (by unfold bkN; rw [if_neg c]; omega)) hI0
        · have c2 : k = 2 := (nI_eq (by omega) (by decide)).mp (Classical.not_not.mp c2)
          exact mm_go (d := d + 3) 1 rfl trivial (mm_few [0] rfl (ih (s + 1) _ _ _ (by omega) (by omega) (hA (.inr c2))))
theorem m_sw4 {N : Nat} {Lnv : (Nat → Int32) → (Nat → Int32) → Nat → Int32 → Int32 → Int32 → Int32 → (Nat → Int32) → (Nat → Int32) → (Nat → Int32) → Prop} (hN : N ≤ 180100)
    (h6 : ∀ mb td i us tk ft fb kd fi nx, i < N → Lnv mb td i us tk ft fb kd fi nx → (kd i = 0 → Lnv mb td (i + 1) us tk ft fb kd fi nx) ∧ (¬ kd i = 0 → ¬ mb i = 0 → Lnv mb td (i + 1) (us + ca i) (tk + pa i) ft fb kd fi nx) ∧ (¬ kd i = 0 → mb i = 0 → ∃ k f t n, ∃ Fnv : Nat → Int32 → (Nat → Int32) → Int32 → Prop, Mt fl pr rf kd wh ca pa he i k f t n ∧ Fnv (bkN k n) (fi i) nx fb ∧ (∀ m x nx fb, Fnv (m + 1) x nx fb → ∃ q, x = nI q ∧ q < 190000 ∧ Fnv m (nx q) (upd nx q fb) (nI q)) ∧ ∀ x nx fb, Fnv 0 x nx fb → Lnv mb td (i + 1) us tk (nI i) fb (upd kd i 0) (upd fi i ft) nx))
    (hk : ∀ us tk ft fb kd fi nx, Lnv mb td N us tk ft fb kd fi nx → K (.inl none) (wC b ev un md tp ce pl wa sz fl pr rf ro hr th (wM cl (nI N) ft bn fb us tk ma nt tr mk fl rf pr kd wh ca pa he fi mb td nu nx rt r))) :
    ∀ (m i : Nat) (us tk ft fb : Int32) (kd fi nx : Nat → Int32), N - i = m → i ≤ N → Lnv mb td i us tk ft fb kd fi nx → mm_wp (d + 4) none al 68 K 0 0 190 [(0, .ref 9), (1, .int (nI i))] [] (wC b ev un md tp ce pl wa sz fl pr rf ro hr th (wM cl (nI N) ft bn fb us tk ma nt tr mk fl rf pr kd wh ca pa he fi mb td nu nx rt r)) := by
  intro m
  induction m with
  | zero =>
    intro i us tk ft fb kd fi nx hm hi hL
    have e : i = N := by omega
    subst e
    exact mm_go (d := d + 3) 3 rfl trivial (mm_one ⟨fun _ => mm_one (hk _ _ _ _ _ _ _ hL), fun c => absurd (nI_le (Nat.le_refl i) (by omega)) c⟩)
  | succ m ih =>
    intro i us tk ft fb kd fi nx hm hi hL
    have i1 : vp_in (nI i) 180100 := vp_in_nI (by omega) (by decide)
    have e1 : (nI i).toNatClampNeg = i := nI_clamp (by omega)
    obtain ⟨s0, s1, s2⟩ := h6 mb td i us tk ft fb kd fi nx (by omega) hL
    refine mm_go (d := d + 3) 3 rfl trivial (mm_one ⟨fun c => absurd c (nI_ge (by omega) (by omega)), fun _ => ?_⟩)
    refine mm_go (d := d + 3) (st' := [.int (kd (nI i).toNatClampNeg)]) 4 rfl ⟨i1, trivial⟩ ?_
    rw [e1]
    refine mm_one ⟨fun c => ?_, fun c => ?_⟩
    · have c : ¬ kd i = 0 := c
      refine mm_go (d := d + 3) (st' := [.int (mb (nI i).toNatClampNeg)]) 4 rfl ⟨i1, trivial⟩ ?_
      rw [e1]
      refine mm_one ⟨fun c2 => ?_, fun c2 => ?_⟩
      · obtain ⟨k, f, t, n, Fnv, hMt, hF0, hFs, hFe⟩ := s2 c c2
        have hn : n ≤ 100000 := hMt.2.1.2.2.2
        refine mm_go (d := d + 3) 2 rfl trivial (mm_one (m_free (d := d) (l := bkN k n) (by omega) (by rw [bk_cw]; unfold cwN; split <;> omega) (fun K' hK => m_blocks hMt hK) hF0 hFs (fun x nx fb hF => ?_)))
        refine mm_go (d := d + 3) (lv' := [(0, .ref 9), (1, .int (nI i + 1))]) 2 rfl trivial ?_
        rw [nI_1]
        exact ih (i + 1) _ _ _ _ _ _ _ (by omega) (by omega) (hFe x nx fb hF)
      · refine mm_go (d := d + 3) (lv' := [(0, .ref 9), (1, .int (nI i + 1))]) (w' := (wC b ev un md tp ce pl wa sz fl pr rf ro hr th (wM cl (nI N) ft bn fb (us + ca (nI i).toNatClampNeg) (tk + pa (nI i).toNatClampNeg) ma nt tr mk fl rf pr kd wh ca pa he fi mb td nu nx rt r))) 21 rfl ⟨i1, i1, trivial⟩ ?_
        rw [e1, nI_1]
        exact ih (i + 1) _ _ _ _ _ _ _ (by omega) (by omega) (s1 c c2)
    · refine mm_go (d := d + 3) (lv' := [(0, .ref 9), (1, .int (nI i + 1))]) 3 rfl trivial ?_
      rw [nI_1]
      exact ih (i + 1) _ _ _ _ _ _ _ (by omega) (by omega) (s0 (Classical.not_not.mp c))
theorem m_sweep {N : Nat} {Inv Jnv : Nat → (Nat → Int32) → (Nat → Int32) → Nat → Prop} {Lnv : (Nat → Int32) → (Nat → Int32) → Nat → Int32 → Int32 → Int32 → Int32 → (Nat → Int32) → (Nat → Int32) → (Nat → Int32) → Prop} (hN : N ≤ 180100)
    (h1 : Inv 0 (unm mb N) td 0)
    (h2 : ∀ i mb td M, i < 64 → Inv i mb td M → ∃ mb' td' M', Mk (rt i) mb td M mb' td' M' ∧ Inv (i + 1) mb' td' M')
    (h3 : ∀ mb td M, Inv 64 mb td M → Jnv 0 mb td M)
    (hb : ∀ s mb td M, Jnv s mb td M → M ≤ 180100)
    (h4 : ∀ s mb td M, Jnv s mb td (M + 1) → s < 180100 ∧ ∃ q k f t n B, td M = nI q ∧ Mt fl pr rf kd wh ca pa he q k f t n ∧ Mc fi nx q (bkN k n) B ∧ (k = 4 ∨ k = 2 → Jnv (s + 1) mb td M) ∧ (¬ (k = 4 ∨ k = 2) → ∃ Inv : Nat → (Nat → Int32) → (Nat → Int32) → Nat → Prop, Inv 0 mb td M ∧ (∀ i mb td M, i < n → Inv i mb td M → (isrN rf k t i = 0 → Inv (i + 1) mb td M) ∧ (isrN rf k t i = 1 → ∃ mb' td' M', Mk ((nu (4 * B (i / 4) + i % 4)).toInt32 - 1) mb td M mb' td' M' ∧ Inv (i + 1) mb' td' M')) ∧ ∀ mb td M, Inv n mb td M → Jnv (s + 1) mb td M))
    (h5 : ∀ s mb td, Jnv s mb td 0 → Lnv mb td 0 0 0 ft fb kd fi nx)
    (h6 : ∀ mb td i us tk ft fb kd fi nx, i < N → Lnv mb td i us tk ft fb kd fi nx → (kd i = 0 → Lnv mb td (i + 1) us tk ft fb kd fi nx) ∧ (¬ kd i = 0 → ¬ mb i = 0 → Lnv mb td (i + 1) (us + ca i) (tk + pa i) ft fb kd fi nx) ∧ (¬ kd i = 0 → mb i = 0 → ∃ k f t n, ∃ Fnv : Nat → Int32 → (Nat → Int32) → Int32 → Prop, Mt fl pr rf kd wh ca pa he i k f t n ∧ Fnv (bkN k n) (fi i) nx fb ∧ (∀ m x nx fb, Fnv (m + 1) x nx fb → ∃ q, x = nI q ∧ q < 190000 ∧ Fnv m (nx q) (upd nx q fb) (nI q)) ∧ ∀ x nx fb, Fnv 0 x nx fb → Lnv mb td (i + 1) us tk (nI i) fb (upd kd i 0) (upd fi i ft) nx))
    (hk : ∀ mb td us tk ft fb kd fi nx, Lnv mb td N us tk ft fb kd fi nx → K (.inl none) (wC b ev un md tp ce pl wa sz fl pr rf ro hr th (wM cl (nI N) ft bn fb us tk ma nt tr (nI 0) fl rf pr kd wh ca pa he fi mb td nu nx rt r))) : mm_cal (d + 4) al 68 [.ref 9] (wC b ev un md tp ce pl wa sz fl pr rf ro hr th (wM cl (nI N) ft bn fb us tk ma nt tr mk fl rf pr kd wh ca pa he fi mb td nu nx rt r)) K := by
  have g := m_sw1 (d := d) (al := al) (K := K) (mb := mb) (N := N) hN (b := b) (ev := ev) (un := un) (md := md) (tp := tp) (ce := ce) (pl := pl) (wa := wa) (sz := sz) (fl := fl) (pr := pr) (ro := ro) (rf := rf) (hr := hr) (th := th) (cl := cl) (ft := ft) (bn := bn) (fb := fb) (us := us) (tk := tk) (ma := ma) (nt := nt) (tr := tr) (mk := mk) (kd := kd) (wh := wh) (ca := ca) (pa := pa) (he := he) (fi := fi) (td := td) (nx := nx) (rt := rt) (nu := nu) (r := r) ?_ N 0 rfl (Nat.zero_le _)
  · rw [unm_0] at g
    exact mm_go (d := d + 3) 2 rfl trivial g
  · refine mm_go (d := d + 3) (lv' := [(0, .ref 9), (1, .int (nI 0))]) (w' := (wC b ev un md tp ce pl wa sz fl pr rf ro hr th (wM cl (nI N) ft bn fb us tk ma nt tr (nI 0) fl rf pr kd wh ca pa he fi (unm mb N) td nu nx rt r))) 5 rfl trivial ?_
    refine m_sw2 h2 (fun mb td M hI => ?_) 64 0 _ _ _ rfl (Nat.zero_le _) h1
    refine m_sw3 hb h4 (fun s mb td hJ => ?_) 180100 0 mb td M rfl (Nat.zero_le _) (h3 _ _ _ hI)
    refine mm_go (d := d + 3) (lv' := [(0, .ref 9), (1, .int (nI 0))]) (w' := (wC b ev un md tp ce pl wa sz fl pr rf ro hr th (wM cl (nI N) ft bn fb 0 0 ma nt tr (nI 0) fl rf pr kd wh ca pa he fi mb td nu nx rt r))) 8 rfl trivial ?_
    exact m_sw4 hN h6 (fun us tk ft fb kd fi nx hL => hk _ _ _ _ _ _ _ _ _ hL) N 0 _ _ _ _ _ _ _ rfl (Nat.zero_le _) (h5 s mb td hJ)
theorem m_collect {P : (Nat → Int32) → (Nat → Int32) → Int32 → Int32 → Int32 → Int32 → Int32 → (Nat → Int32) → (Nat → Int32) → (Nat → Int32) → Prop}
    (hm : ∀ K' : mm_K, (∀ mb td us tk ft fb mk kd fi nx, P mb td us tk ft fb mk kd fi nx → K' (.inl none) (wC b ev un md tp ce pl wa sz fl pr rf ro hr th (wM cl tn ft bn fb us tk ma nt 0 mk fl rf pr kd wh ca pa he fi mb td nu nx rt r))) → mm_cal (d + 4) false 68 [.ref 9] (wC b ev un md tp ce pl wa sz fl pr rf ro hr th (wM cl tn ft bn fb us tk ma nt 0 mk fl rf pr kd wh ca pa he fi mb td nu nx rt r)) K')
    (hk : ∀ mb td us tk ft fb mk kd fi nx, P mb td us tk ft fb mk kd fi nx → K (.inl (some (.int us))) (wC b ev un md tp ce pl wa sz fl pr rf ro hr th (wM cl tn ft bn fb us tk ma nt 0 mk fl rf pr kd wh ca pa he fi mb td nu nx rt r))) : mm_cal (d + 5) al 84 [.ref 9] (wC b ev un md tp ce pl wa sz fl pr rf ro hr th (wM cl tn ft bn fb us tk ma nt tr mk fl rf pr kd wh ca pa he fi mb td nu nx rt r)) K := by
  refine mm_go (d := d + 4) (w' := (wC b ev un md tp ce pl wa sz fl pr rf ro hr th (wM cl tn ft bn fb us tk ma nt 0 mk fl rf pr kd wh ca pa he fi mb td nu nx rt r))) 4 rfl trivial (mm_one (hm _ (fun mb td us tk ft fb mk kd fi nx hP => ?_)))
  exact mm_go (d := d + 4) 2 rfl trivial (mm_one (hk _ _ _ _ _ _ _ _ _ _ hP))
end
