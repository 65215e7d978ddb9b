theorem wb_one64 (v : BitVec 64) : v &&& 1#64 = 1#64 ↔ v.toNat.testBit 0 = true := by
  constructor
  · intro h
    have h2 := congrArg (fun y : BitVec 64 => y.toNat % 2) h
    simp only [BitVec.toNat_and, BitVec.toNat_ofNat] at h2
    rw [Nat.testBit_zero, decide_eq_true_iff]
    have : v.toNat &&& 1 % 2 ^ 64 = v.toNat % 2 := Nat.and_one_is_mod _
    rw [this] at h2
    omega
  · intro h
    rw [Nat.testBit_zero, decide_eq_true_iff] at h
    apply BitVec.eq_of_toNat_eq
    rw [BitVec.toNat_and]
    show v.toNat &&& 1 = 1
    rw [Nat.and_one_is_mod, h]
theorem wb_one32 (v : BitVec 32) : v &&& 1#32 = 1#32 ↔ v.toNat.testBit 0 = true := by
  constructor
  · intro h
    have h2 := congrArg (fun y : BitVec 32 => y.toNat % 2) h
    simp only [BitVec.toNat_and, BitVec.toNat_ofNat] at h2
    rw [Nat.testBit_zero, decide_eq_true_iff]
    have : v.toNat &&& 1 % 2 ^ 32 = v.toNat % 2 := Nat.and_one_is_mod _
    rw [this] at h2
    omega
  · intro h
    rw [Nat.testBit_zero, decide_eq_true_iff] at h
    apply BitVec.eq_of_toNat_eq
    rw [BitVec.toNat_and]
    show v.toNat &&& 1 = 1
    rw [Nat.and_one_is_mod, h]
theorem wb_s0 {m : Nat} (v : BitVec m) {i : Nat} (hi : i < m) : (v.sshiftRight i).toNat.testBit 0 = v.toNat.testBit i := by
  have h := BitVec.getLsbD_sshiftRight (x := v) (s := i) (i := 0)
  rw [if_pos (by omega)] at h
  rw [show (!decide (m ≤ 0)) = true from by simp; omega, Bool.true_and] at h
  exact h
theorem wb_sbit {x : Int64} {i : Nat} (hi : i < 64) : x >>> ((nI i).toInt64 &&& 63) &&& 1 = 1 ↔ x.toBitVec.toNat / 2 ^ i % 2 = 1 := by
  have h1 : (x >>> ((nI i).toInt64 &&& 63) &&& 1).toBitVec = x.toBitVec.sshiftRight i &&& 1#64 := by
    rw [wb_c i hi]
    show (x >>> lN i).toBitVec &&& 1#64 = _
    rw [Int64.toBitVec_shiftRight, wb_tb, wb_sm i hi]
    show x.toBitVec.sshiftRight (BitVec.ofNat 64 i).toNat &&& 1#64 = _
    rw [BitVec.toNat_ofNat, Nat.mod_eq_of_lt (by omega)]
  have h2 : x >>> ((nI i).toInt64 &&& 63) &&& 1 = 1 ↔ x.toBitVec.sshiftRight i &&& 1#64 = 1#64 := by
    constructor
    · intro h
      rw [← h1, h]
      rfl
    · intro h
      exact wb_inj (h1.trans h)
  rw [h2, wb_one64, wb_s0 _ hi, Nat.testBit_eq_decide_div_mod_eq, decide_eq_true_iff]
theorem wb_c32 : ∀ k, k < 32 → (((nI k) &&& 31).toBitVec.smod 32).toNat = k := by decide +kernel
theorem wb_sbit32 {x : Int32} {i : Nat} (hi : i < 32) : x >>> (nI i &&& 31) &&& 1 = 1 ↔ x.toBitVec.toNat / 2 ^ i % 2 = 1 := by
  have h1 : (x >>> (nI i &&& 31) &&& 1).toBitVec = x.toBitVec.sshiftRight i &&& 1#32 := by
    show (x >>> (nI i &&& 31)).toBitVec &&& 1#32 = _
    rw [Int32.toBitVec_shiftRight]
    show x.toBitVec.sshiftRight ((nI i &&& 31).toBitVec.smod 32).toNat &&& 1#32 = _
    rw [wb_c32 i hi]
  have h2 : x >>> (nI i &&& 31) &&& 1 = 1 ↔ x.toBitVec.sshiftRight i &&& 1#32 = 1#32 := by
    constructor
    · intro h
      rw [← h1, h]
      rfl
    · intro h
      exact Int32.toBitVec_inj.mp (h1.trans h)
  rw [h2, wb_one32, wb_s0 _ hi, Nat.testBit_eq_decide_div_mod_eq, decide_eq_true_iff]
/-- thing q of the model is of kind k, free or not (f), detail t, count n -/
def Mt (fl pr : Nat → Int32) (rf : Nat → Int64) (kd wh ca pa he : Nat → Int32) (q k f t n : Nat) : Prop :=
  q < 180100 ∧ hdOk k f t n ∧ 0 < k ∧ k < 6 ∧ (k = 1 → t < 100 ∧ n ≤ 64 ∧ fl t = nI n) ∧ (k = 5 → n ≤ 8 ∧ ∀ j, j < n → ((he q).toBitVec.toNat / 2 ^ j % 2 = t / 2 ^ j % 2)) ∧ kd q = nI k ∧ wh q = nI (if k = 1 then t else n) ∧ ca q = cstI pr k f t n ∧ pa q = nI (hdP k n)
/-- words of its contents; blocks -/
def cwN (k n : Nat) : Nat := if k = 4 then (n + 3) / 4 else n
def bkN (k n : Nat) : Nat := if k = 4 then (n + 15) / 16 else (n + 3) / 4
/-- the word of place j -/
def wdN (k j : Nat) : Nat := if k = 4 then j / 4 else j
/-- its chain of blocks -/
def Mc (fi nx : Nat → Int32) (q m : Nat) (B : Nat → Nat) : Prop := (∀ s, s < m → B s < 190000) ∧ (0 < m → fi q = nI (B 0)) ∧ ∀ s, s + 1 < m → nx (B s) = nI (B (s + 1))
theorem bk_cw (k n : Nat) : bkN k n = (cwN k n + 3) / 4 := by
  unfold bkN cwN
  split <;> omega
theorem wd_cw {k n j : Nat} (h : j < n) : wdN k j < cwN k n := by
  unfold wdN cwN
  split <;> omega
theorem wd_bk {k n j : Nat} (h : j < n) : wdN k j / 4 < bkN k n := by
  have := wd_cw (k := k) h
  rw [bk_cw]
  omega
section
variable {d : Nat} {al : Bool} {K : mm_K} {w r : mm_W} {b : Bool} {ev un md tp ce pl wa sz : Int32} {fl pr ro : Nat → Int32} {rf hr th : Nat → Int64}
variable {cl tn ft bn fb us tk ma nt tr mk : Int32} {kd wh ca pa he fi mb td nx rt : Nat → Int32} {nu : Nat → Int64} {q k f t n i j v u s : Nat} {x y z o : Int32} {l : Int64} {B : Nat → Nat}
theorem m_size (h : Mt fl pr rf kd wh ca pa he q k f t n) (hk : K (.inl (some (.int (nI n)))) (wC b ev un md tp ce pl wa sz fl pr rf ro hr th (wM cl tn ft bn fb us tk ma nt tr mk fl rf pr kd wh ca pa he fi mb td nu nx rt r))) : mm_cal (d + 1) al 63 [.ref 9, .int (nI q)] (wC b ev un md tp ce pl wa sz fl pr rf ro hr th (wM cl tn ft bn fb us tk ma nt tr mk fl rf pr kd wh ca pa he fi mb td nu nx rt r)) K := by
  obtain ⟨hq, ho, h0, h6, h1, h5, ek, ew, -, -⟩ := h
  by_cases c : k = 1
  · subst c
    obtain ⟨ht, -, hf⟩ := h1 rfl
    exact m_sizeO hq ek ht ew (by rw [hf]; exact hk)
  · refine m_sizeE hq (fun e => c ((nI_eq (by omega) (by decide)).mp (ek.symm.trans e))) ?_
    rw [ew, if_neg c]
    exact hk
theorem m_isRef (h : Mt fl pr rf kd wh ca pa he q k f t n) (hj : j < n) (hk : K (.inl (some (.int (nI (isrN rf k t j))))) (wC b ev un md tp ce pl wa sz fl pr rf ro hr th (wM cl tn ft bn fb us tk ma nt tr mk fl rf pr kd wh ca pa he fi mb td nu nx rt r))) : mm_cal (d + 1) al 64 [.ref 9, .int (nI q), .int (nI j)] (wC b ev un md tp ce pl wa sz fl pr rf ro hr th (wM cl tn ft bn fb us tk ma nt tr mk fl rf pr kd wh ca pa he fi mb td nu nx rt r)) K := by
  obtain ⟨hq, ho, h0, h6, h1, h5, ek, ew, -, -⟩ := h
  have key : ∀ m, m < 6 → kd q = nI m → k = m := fun m hm e => (nI_eq (by omega) (by omega)).mp (ek.symm.trans e)
  by_cases c : k = 1
  · subst c
    obtain ⟨ht, hn, hf⟩ := h1 rfl
    have e : isrN rf 1 t j = (rf t).toBitVec.toNat / 2 ^ j % 2 := if_pos rfl
    refine m_isRefO hq ek ht ew (fun g => ?_) (fun g => ?_)
    · rw [e, (wb_sbit (by omega)).mp g] at hk
      exact hk
    · rw [e, show (rf t).toBitVec.toNat / 2 ^ j % 2 = 0 from (Nat.mod_two_eq_zero_or_one _).resolve_right (fun g2 => g ((wb_sbit (by omega)).mpr g2))] at hk
      exact hk
  · refine m_isRefE hq (fun e => c (key 1 (by decide) e)) (fun e => ?_) (fun e g => ?_) (fun e g => ?_) (fun e3 e5 => ?_)
    · have := key 3 (by decide) e
      subst this
      exact hk
    · have := key 5 (by decide) e
      subst this
      obtain ⟨hn, hb⟩ := h5 rfl
      have e2 : isrN rf 5 t j = t / 2 ^ j % 2 := rfl
      rw [e2, ← hb j hj, (wb_sbit32 (by omega)).mp g] at hk
      exact hk
    · have := key 5 (by decide) e
      subst this
      obtain ⟨hn, hb⟩ := h5 rfl
      have e2 : isrN rf 5 t j = t / 2 ^ j % 2 := rfl
      rw [e2, ← hb j hj, show (he q).toBitVec.toNat / 2 ^ j % 2 = 0 from (Nat.mod_two_eq_zero_or_one _).resolve_right (fun g2 => g ((wb_sbit32 (by omega)).mpr g2))] at hk
      exact hk
    · have e2 : isrN rf k t j = 0 := by
        unfold isrN
        rw [if_neg c, if_neg (fun g => e3 (by rw [ek, g]; rfl)), if_neg (fun g => e5 (by rw [ek, g]; rfl))]
      rw [e2] at hk
      exact hk
theorem m_blocks (h : Mt fl pr rf kd wh ca pa he q k f t n) (hk : K (.inl (some (.int (nI (bkN k n))))) (wC b ev un md tp ce pl wa sz fl pr rf ro hr th (wM cl tn ft bn fb us tk ma nt tr mk fl rf pr kd wh ca pa he fi mb td nu nx rt r))) : mm_cal (d + 2) al 65 [.ref 9, .int (nI q)] (wC b ev un md tp ce pl wa sz fl pr rf ro hr th (wM cl tn ft bn fb us tk ma nt tr mk fl rf pr kd wh ca pa he fi mb td nu nx rt r)) K := by
  have h' := h
  obtain ⟨hq, ho, h0, h6, h1, h5, ek, ew, -, -⟩ := h
  have hn : n ≤ 100000 := ho.2.2.2
  by_cases c : k = 4
  · subst c
    exact m_blocksT hq ek hn ew hk
  · have e : bkN k n = (n + 3) / 4 := if_neg c
    rw [e] at hk
    exact m_blocksE hq (fun e => c ((nI_eq (by omega) (by decide)).mp (ek.symm.trans e))) hn (fun K' hK => m_size h' hK) hk
theorem m_place (h : Mt fl pr rf kd wh ca pa he q k f t n) (hB : Mc fi nx q (bkN k n) B) (hj : j < n) (hk : K (.inl (some (.int (nI (4 * B (wdN k j / 4) + wdN k j % 4))))) (wC b ev un md tp ce pl wa sz fl pr rf ro hr th (wM cl tn ft bn fb us tk ma nt tr mk fl rf pr kd wh ca pa he fi mb td nu nx rt r))) : mm_cal (d + 1) al 66 [.ref 9, .int (nI q), .int (nI j)] (wC b ev un md tp ce pl wa sz fl pr rf ro hr th (wM cl tn ft bn fb us tk ma nt tr mk fl rf pr kd wh ca pa he fi mb td nu nx rt r)) K := by
  obtain ⟨hq, ho, h0, h6, h1, h5, ek, ew, -, -⟩ := h
  have hn : n ≤ 100000 := ho.2.2.2
  have hw := wd_bk (k := k) hj
  obtain ⟨b1, b2, b3⟩ := hB
  by_cases c : k = 4
  · subst c
    exact m_placeT hq ek (by omega) (fun s hs => b1 s (by have : wdN 4 j = j / 4 := rfl; omega)) (b2 (by omega)) (fun s hs => b3 s (by have : wdN 4 j = j / 4 := rfl; omega)) hk
  · have e : wdN k j = j := if_neg c
    rw [e] at hk hw
    exact m_placeE hq (fun e => c ((nI_eq (by omega) (by decide)).mp (ek.symm.trans e))) (by omega) (fun s hs => b1 s (by omega)) (b2 (by omega)) (fun s hs => b3 s (by omega)) hk
theorem m_thingR (h : x < 0 ∨ 64 ≤ x) (hk : K (.inl (some (.int (-1)))) (wC b ev un md tp ce pl wa sz fl pr rf ro hr th (wM cl tn ft bn fb us tk ma nt 1 mk fl rf pr kd wh ca pa he fi mb td nu nx rt r))) : mm_cal (d + 2) al 76 [.ref 9, .int x, .int y, .int z] (wC b ev un md tp ce pl wa sz fl pr rf ro hr th (wM cl tn ft bn fb us tk ma nt tr mk fl rf pr kd wh ca pa he fi mb td nu nx rt r)) K := by
  refine mm_go (d := d + 1) 1 rfl trivial (mm_one (m_isRootN (d := d) h ?_))
  refine mm_one ⟨fun _ => ?_, fun u => absurd rfl u⟩
  exact mm_go (d := d + 1) (w' := (wC b ev un md tp ce pl wa sz fl pr rf ro hr th (wM cl tn ft bn fb us tk ma nt 1 mk fl rf pr kd wh ca pa he fi mb td nu nx rt r))) 4 rfl trivial (mm_one hk)
theorem m_thing0 (hv : v < 64) (h0 : rt v = -1) (hk : K (.inl (some (.int (-1)))) (wC b ev un md tp ce pl wa sz fl pr rf ro hr th (wM cl tn ft bn fb us tk ma nt 1 mk fl rf pr kd wh ca pa he fi mb td nu nx rt r))) : mm_cal (d + 2) al 76 [.ref 9, .int (nI v), .int y, .int z] (wC b ev un md tp ce pl wa sz fl pr rf ro hr th (wM cl tn ft bn fb us tk ma nt tr mk fl rf pr kd wh ca pa he fi mb td nu nx rt r)) K := by
  have i1 : vp_in (nI v) 64 := vp_in_nI hv (by decide)
  have e1 : (nI v).toNatClampNeg = v := nI_clamp (by omega)
  refine mm_go (d := d + 1) 1 rfl trivial (mm_one (m_isRootY (d := d) hv ?_))
  refine mm_one ⟨fun u => absurd (show nI 1 = 0 from u) (by decide), fun _ => ?_⟩
  refine mm_go (d := d + 1) (st' := [.int (-1), .int (rt (nI v).toNatClampNeg)]) 5 rfl ⟨i1, trivial⟩ ?_
  rw [e1]
  refine mm_one ⟨fun _ => ?_, fun u => absurd h0 u⟩
  exact mm_go (d := d + 1) (w' := (wC b ev un md tp ce pl wa sz fl pr rf ro hr th (wM cl tn ft bn fb us tk ma nt 1 mk fl rf pr kd wh ca pa he fi mb td nu nx rt r))) 4 rfl trivial (mm_one hk)
theorem m_thingN (hv : v < 64) (h0 : rt v = nI q) (h : Mt fl pr rf kd wh ca pa he q k f t n) (hy : y < 0 ∨ nI n ≤ y) (hk : K (.inl (some (.int (-1)))) (wC b ev un md tp ce pl wa sz fl pr rf ro hr th (wM cl tn ft bn fb us tk ma nt 1 mk fl rf pr kd wh ca pa he fi mb td nu nx rt r))) : mm_cal (d + 2) al 76 [.ref 9, .int (nI v), .int y, .int z] (wC b ev un md tp ce pl wa sz fl pr rf ro hr th (wM cl tn ft bn fb us tk ma nt tr mk fl rf pr kd wh ca pa he fi mb td nu nx rt r)) K := by
  have i1 : vp_in (nI v) 64 := vp_in_nI hv (by decide)
  have e1 : (nI v).toNatClampNeg = v := nI_clamp (by omega)
  have hq : q < 180100 := h.1
  have hy1 : ¬ nI q = -1 := fun e => absurd (show nI q < 0 by rw [e]; decide) (nI_pos (by omega))
  refine mm_go (d := d + 1) 1 rfl trivial (mm_one (m_isRootY (d := d) hv ?_))
  refine mm_one ⟨fun u => absurd (show nI 1 = 0 from u) (by decide), fun _ => ?_⟩
  refine mm_go (d := d + 1) (st' := [.int (-1), .int (rt (nI v).toNatClampNeg)]) 5 rfl ⟨i1, trivial⟩ ?_
  rw [e1, h0]
  refine mm_one ⟨fun u => absurd u hy1, fun _ => ?_⟩
  refine mm_go (d := d + 1) 1 rfl trivial (mm_one ⟨fun u => ?_, fun u => ?_⟩)
  · exact mm_go (d := d + 1) (w' := (wC b ev un md tp ce pl wa sz fl pr rf ro hr th (wM cl tn ft bn fb us tk ma nt 1 mk fl rf pr kd wh ca pa he fi mb td nu nx rt r))) 4 rfl trivial (mm_one hk)
  · refine mm_go (d := d + 1) (st' := [.int (rt (nI v).toNatClampNeg), .ref 9, .int y]) 6 rfl ⟨i1, trivial⟩ ?_
    rw [e1, h0]
    refine mm_one (m_size (d := d) h ?_)
    refine mm_one ⟨fun u2 => hy.elim (fun g => absurd g u) (fun g => absurd g (Int32.not_le.mpr u2)), fun _ => ?_⟩
    exact mm_go (d := d + 1) (w' := (wC b ev un md tp ce pl wa sz fl pr rf ro hr th (wM cl tn ft bn fb us tk ma nt 1 mk fl rf pr kd wh ca pa he fi mb td nu nx rt r))) 4 rfl trivial (mm_one hk)
theorem m_thing (hv : v < 64) (h0 : rt v = nI q) (h : Mt fl pr rf kd wh ca pa he q k f t n) (hj : j < n) (hu : u < 2)
    (hn : ¬ isrN rf k t j = u → K (.inl (some (.int (-1)))) (wC b ev un md tp ce pl wa sz fl pr rf ro hr th (wM cl tn ft bn fb us tk ma nt 2 mk fl rf pr kd wh ca pa he fi mb td nu nx rt r))) (hk : isrN rf k t j = u → K (.inl (some (.int (nI q)))) (wC b ev un md tp ce pl wa sz fl pr rf ro hr th (wM cl tn ft bn fb us tk ma nt 0 mk fl rf pr kd wh ca pa he fi mb td nu nx rt r))) : mm_cal (d + 2) al 76 [.ref 9, .int (nI v), .int (nI j), .int (nI u)] (wC b ev un md tp ce pl wa sz fl pr rf ro hr th (wM cl tn ft bn fb us tk ma nt tr mk fl rf pr kd wh ca pa he fi mb td nu nx rt r)) K := by
  have i1 : vp_in (nI v) 64 := vp_in_nI hv (by decide)
  have e1 : (nI v).toNatClampNeg = v := nI_clamp (by omega)
  have hq : q < 180100 := h.1
  have hnn : n ≤ 100000 := h.2.1.2.2.2
  have hy1 : ¬ nI q = -1 := fun e => absurd (show nI q < 0 by rw [e]; decide) (nI_pos (by omega))
  refine mm_go (d := d + 1) 1 rfl trivial (mm_one (m_isRootY (d := d) hv ?_))
  refine mm_one ⟨fun u => absurd (show nI 1 = 0 from u) (by decide), fun _ => ?_⟩
  refine mm_go (d := d + 1) (st' := [.int (-1), .int (rt (nI v).toNatClampNeg)]) 5 rfl ⟨i1, trivial⟩ ?_
  rw [e1, h0]
  refine mm_one ⟨fun u => absurd u hy1, fun _ => ?_⟩
  refine mm_go (d := d + 1) 1 rfl trivial (mm_one ⟨fun g => absurd g (nI_pos (by omega)), fun _ => ?_⟩)
  refine mm_go (d := d + 1) (st' := [.int (rt (nI v).toNatClampNeg), .ref 9, .int (nI j)]) 6 rfl ⟨i1, trivial⟩ ?_
  rw [e1, h0]
  refine mm_one (m_size (d := d) h ?_)
  refine mm_one ⟨fun _ => ?_, fun g => absurd (nI_lt hj (by omega)) g⟩
  refine mm_go (d := d + 1) (st' := [.int (nI j), .int (rt (nI v).toNatClampNeg), .ref 9, .ref 9]) 7 rfl ⟨i1, trivial⟩ ?_
  rw [e1, h0]
  refine mm_one (m_isRef (d := d) h hj ?_)
  have h2 := isrN_2 rf k t j
  refine mm_go (d := d + 1) 1 rfl trivial (mm_one ⟨fun g => ?_, fun g => ?_⟩)
  · refine mm_go (d := d + 1) (w' := (wC b ev un md tp ce pl wa sz fl pr rf ro hr th (wM cl tn ft bn fb us tk ma nt 2 mk fl rf pr kd wh ca pa he fi mb td nu nx rt r))) 4 rfl trivial (mm_one ⟨fun _ => ?_, fun g2 => absurd (Classical.not_not.mp g2) (by decide)⟩)
    exact mm_go (d := d + 1) 1 rfl trivial (mm_one (hn (fun e => g (by rw [e]))))
  · refine mm_go (d := d + 1) (w' := (wC b ev un md tp ce pl wa sz fl pr rf ro hr th (wM cl tn ft bn fb us tk ma nt 0 mk fl rf pr kd wh ca pa he fi mb td nu nx rt r))) 5 rfl trivial (mm_one ⟨fun g2 => absurd rfl g2, fun _ => ?_⟩)
    refine mm_go (d := d + 1) (st' := [.int (rt (nI v).toNatClampNeg)]) (w' := (wC b ev un md tp ce pl wa sz fl pr rf ro hr th (wM cl tn ft bn fb us tk ma nt 0 mk fl rf pr kd wh ca pa he fi mb td nu nx rt r))) 5 rfl ⟨i1, trivial⟩ ?_
    rw [e1, h0]
    exact mm_one (hk ((nI_eq (by omega) (by omega)).mp (Classical.not_not.mp g)))
end
