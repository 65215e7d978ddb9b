theorem wb_tb (n : Nat) : (lN n).toBitVec = BitVec.ofNat 64 n := rfl
theorem wb_inj {a b : Int64} (h : a.toBitVec = b.toBitVec) : a = b := Int64.toBitVec_inj.mp h
theorem wb_tn {n : Nat} (h : n < 2 ^ 64) : (lN n).toBitVec.toNat = n := by rw [wb_tb, BitVec.toNat_ofNat, Nat.mod_eq_of_lt h]
theorem wb_of (x : Int64) : ∃ n, n < 2 ^ 64 ∧ x = lN n := ⟨x.toBitVec.toNat, x.toBitVec.isLt, wb_inj (by rw [wb_tb]; simp)⟩
theorem wb_of32 (x : Int32) : ∃ n, n < 2 ^ 32 ∧ x = nI n := ⟨x.toBitVec.toNat, x.toBitVec.isLt, Int32.toBitVec_inj.mp (by show _ = BitVec.ofNat 32 _; simp)⟩
theorem wb_c : ∀ k, k < 64 → ((nI k).toInt64 &&& 63) = lN k := by decide +kernel
theorem wb_cu : ∀ k, k < 64 → ((nI k).toInt64.toUInt64 &&& Int64.toUInt64 63) = UInt64.ofNat k := by decide +kernel
theorem wb_sm : ∀ k, k < 64 → (BitVec.ofNat 64 k).smod 64 = BitVec.ofNat 64 k := by decide +kernel
theorem wb_pw {a b : Nat} (h : a ≤ b) : 2 ^ b = 2 ^ a * 2 ^ (b - a) := by rw [← Nat.pow_add]; congr 1; omega
theorem wb_lt2 {a b : Nat} (h : a < b) : 2 ^ a < 2 ^ b := Nat.pow_lt_pow_right (by decide) h
theorem wb_mod (n : Nat) : lN n = lN (n % 2 ^ 64) := wb_inj (by rw [wb_tb, wb_tb]; apply BitVec.eq_of_toNat_eq; rw [BitVec.toNat_ofNat, BitVec.toNat_ofNat, Nat.mod_mod])
theorem wb_shr {n k : Nat} (hn : n < 2 ^ 64) (hk : k < 64) : ((lN n).toUInt64 >>> ((nI k).toInt64.toUInt64 &&& Int64.toUInt64 63)).toInt64 = lN (n / 2 ^ k) := by
  rw [wb_cu k hk]
  apply wb_inj
  apply BitVec.eq_of_toNat_eq
  show ((lN n).toUInt64 >>> UInt64.ofNat k).toNat = (BitVec.ofNat 64 _).toNat
  have h1 : (UInt64.ofNat k).toNat = k := by
    show (BitVec.ofNat 64 k).toNat = k
    rw [BitVec.toNat_ofNat, Nat.mod_eq_of_lt (by omega)]
  have h2 : (lN n).toUInt64.toNat = n := wb_tn hn
  rw [UInt64.toNat_shiftRight, h1, h2, Nat.mod_eq_of_lt hk, Nat.shiftRight_eq_div_pow, BitVec.toNat_ofNat, Nat.mod_eq_of_lt (Nat.lt_of_le_of_lt (Nat.div_le_self _ _) hn)]
theorem wb_shl (n : Nat) {k : Nat} (hk : k < 64) : lN n <<< ((nI k).toInt64 &&& 63) = lN (n * 2 ^ k) := by
  rw [wb_c k hk]
  apply wb_inj
  rw [Int64.toBitVec_shiftLeft, wb_tb, wb_tb, wb_tb, wb_sm k hk]
  apply BitVec.eq_of_toNat_eq
  rw [BitVec.shiftLeft_eq', BitVec.toNat_shiftLeft, BitVec.toNat_ofNat, BitVec.toNat_ofNat, BitVec.toNat_ofNat, Nat.mod_eq_of_lt (show k < 2 ^ 64 by omega), Nat.shiftLeft_eq, Nat.mul_mod, Nat.mod_mod, ← Nat.mul_mod]
theorem wb_and {a b : Nat} (ha : a < 2 ^ 64) (hb : b < 2 ^ 64) : lN a &&& lN b = lN (a &&& b) := by
  apply wb_inj
  rw [Int64.toBitVec_and, wb_tb, wb_tb, wb_tb]
  apply BitVec.eq_of_toNat_eq
  rw [BitVec.toNat_and, BitVec.toNat_ofNat, BitVec.toNat_ofNat, BitVec.toNat_ofNat, Nat.mod_eq_of_lt ha, Nat.mod_eq_of_lt hb, Nat.mod_eq_of_lt (Nat.and_lt_two_pow _ hb)]
theorem wb_or {a b : Nat} (ha : a < 2 ^ 64) (hb : b < 2 ^ 64) : lN a ||| lN b = lN (a ||| b) := by
  apply wb_inj
  rw [Int64.toBitVec_or, wb_tb, wb_tb, wb_tb]
  apply BitVec.eq_of_toNat_eq
  rw [BitVec.toNat_or, BitVec.toNat_ofNat, BitVec.toNat_ofNat, BitVec.toNat_ofNat, Nat.mod_eq_of_lt ha, Nat.mod_eq_of_lt hb, Nat.mod_eq_of_lt (Nat.or_lt_two_pow ha hb)]
theorem wb_mask {n k : Nat} (hn : n < 2 ^ 64) (hk : k < 64) : lN n &&& lN (2 ^ k - 1) = lN (n % 2 ^ k) := by
  rw [wb_and hn (by have := wb_lt2 hk; omega), Nat.and_two_pow_sub_one_eq_mod]
theorem wb_a1 {n : Nat} (hn : n < 2 ^ 64) : lN n &&& 1 = lN (n % 2) := wb_mask (k := 1) hn (by decide)
theorem wb_bit {n k : Nat} (hn : n < 2 ^ 64) (hk : k < 64) : ((lN n).toUInt64 >>> ((nI k).toInt64.toUInt64 &&& Int64.toUInt64 63)).toInt64 &&& 1 = lN (n / 2 ^ k % 2) := by
  rw [wb_shr hn hk, wb_a1 (Nat.lt_of_le_of_lt (Nat.div_le_self _ _) hn)]
theorem wb_sar {n k : Nat} (hn : n < 2 ^ 63) (hk : k < 64) : lN n >>> ((nI k).toInt64 &&& 63) = lN (n / 2 ^ k) := by
  rw [wb_c k hk]
  apply Int64.toInt_inj.mp
  have h2 : n / 2 ^ k ≤ n := Nat.div_le_self _ _
  have e : (lN n >>> lN k).toInt = (lN n).toInt >>> k := by
    show ((lN n).toBitVec.sshiftRight ((lN k).toBitVec.smod 64).toNat).toInt = _
    rw [wb_tb k, wb_sm k hk, BitVec.toInt_sshiftRight, BitVec.toNat_ofNat, Nat.mod_eq_of_lt (Nat.lt_of_lt_of_le hk (by decide))]
    rfl
  rw [e, pk_lT hn, pk_lT (by omega), Int.shiftRight_eq_div_pow]
  rfl
/-- a head as a number: kind, free, detail, count -/
def hdN (k f t n : Nat) : Nat := k + 8 * f + 16 * t + 4096 * n
/-- a head that occurs -/
def hdOk (k f t n : Nat) : Prop := k < 8 ∧ f < 2 ∧ t < 256 ∧ n ≤ 100000
/-- words of a thing, its head among them; places -/
def hdW (k n : Nat) : Nat := 1 + (if k = 4 then (n + 3) / 4 else n)
def hdP (k n : Nat) : Nat := if k = 1 then hdW k n else hdW k n + 1
theorem hdN_lt {k f t n : Nat} (h : hdOk k f t n) : hdN k f t n < 2 ^ 30 := by
  unfold hdOk at h
  unfold hdN
  omega
section
variable {d : Nat} {al : Bool} {K : mm_K} {w : mm_W} {k f t n : Nat}
theorem h1_kind (h : hdOk k f t n) (hk : K (.inl (some (.int (nI k)))) w) : mm_cal (d + 1) al 1 [.long (lN (hdN k f t n))] w K := by
  have hlt := hdN_lt h
  have e : (lN (hdN k f t n)).toInt32 &&& 7 = nI k := by
    rw [lN_i, pk_andN (by omega) 3 rfl]
    unfold hdOk at h
    unfold hdN
    congr 1
    omega
  refine mm_go (d := d) 4 rfl trivial (mm_one ?_)
  show K (.inl (some (.int ((lN (hdN k f t n)).toInt32 &&& 7)))) w
  rw [e]
  exact hk
theorem h1_count (h : hdOk k f t n) (hk : K (.inl (some (.int (nI n)))) w) : mm_cal (d + 1) al 4 [.long (lN (hdN k f t n))] w K := by
  have hlt := hdN_lt h
  have e : (lN (hdN k f t n) >>> ((12 : Int32).toInt64 &&& 63)).toInt32 = nI n := by
    rw [show (12 : Int32) = nI 12 from rfl, wb_sar (by omega) (by decide), lN_i]
    unfold hdOk at h
    unfold hdN
    congr 1
    omega
  refine mm_go (d := d) 4 rfl trivial (mm_one ?_)
  show K (.inl (some (.int ((lN (hdN k f t n) >>> ((12 : Int32).toInt64 &&& 63)).toInt32)))) w
  rw [e]
  exact hk
theorem h1_detail (h : hdOk k f t n) (hk : K (.inl (some (.int (nI t)))) w) : mm_cal (d + 1) al 3 [.long (lN (hdN k f t n))] w K := by
  have hlt := hdN_lt h
  have e : (lN (hdN k f t n) >>> ((4 : Int32).toInt64 &&& 63)).toInt32 &&& 255 = nI t := by
    rw [show (4 : Int32) = nI 4 from rfl, wb_sar (by omega) (by decide), lN_i, pk_andN (by omega) 8 rfl]
    unfold hdOk at h
    unfold hdN
    congr 1
    omega
  refine mm_go (d := d) 6 rfl trivial (mm_one ?_)
  show K (.inl (some (.int ((lN (hdN k f t n) >>> ((4 : Int32).toInt64 &&& 63)).toInt32 &&& 255)))) w
  rw [e]
  exact hk
theorem h1_words (h : hdOk k f t n) (hk : K (.inl (some (.int (nI (hdW k n))))) w) : mm_cal (d + 2) al 5 [.long (lN (hdN k f t n))] w K := by
  have hn : n ≤ 100000 := h.2.2.2
  have hk8 : k < 8 := h.1
  refine mm_go (d := d + 1) 1 rfl trivial (mm_one (h1_count h ?_))
  refine mm_go (d := d + 1) 3 rfl trivial (mm_one (h1_kind h ?_))
  refine mm_go (d := d + 1) 1 rfl trivial (mm_one ⟨fun c => ?_, fun c => ?_⟩)
  · have c : ¬ nI k = 4 := c
    have c4 : ¬ k = 4 := fun e => c (by rw [e]; rfl)
    refine mm_go (d := d + 1) 2 rfl trivial (mm_one ?_)
    show K (.inl (some (.int (1 + nI n)))) w
    rw [show (1 : Int32) = nI 1 from rfl, nI_add]
    unfold hdW at hk
    rw [if_neg c4] at hk
    exact hk
  · have c : ¬ ¬ nI k = 4 := c
    have c4 : k = 4 := by
      have := Classical.not_not.mp c
      exact (nI_eq (by omega) (by decide)).mp (this.trans (rfl : (4 : Int32) = nI 4))
    refine mm_go (d := d + 1) 7 rfl trivial (mm_one ?_)
    show K (.inl (some (.int (1 + (nI n + 3) / 4)))) w
    rw [show (1 : Int32) = nI 1 from rfl, show (3 : Int32) = nI 3 from rfl, show (4 : Int32) = nI 4 from rfl, nI_add, pk_div (by omega) (by decide) (by decide), nI_add]
    unfold hdW at hk
    rw [if_pos c4] at hk
    exact hk
theorem h1_isFree (h : hdOk k f t n) (hk : K (.inl (some (.int (nI f)))) w) : mm_cal (d + 1) al 2 [.long (lN (hdN k f t n))] w K := by
  have hlt := hdN_lt h
  have e : lN (hdN k f t n) &&& 8 = lN (8 * f) := by
    have e1 : (hdN k f t n) &&& 8 = 8 * f := by
      apply Nat.eq_of_testBit_eq
      intro i
      rw [Nat.testBit_and]
      unfold hdOk at h
      rcases (show f = 0 ∨ f = 1 by omega) with rfl | rfl
      · by_cases hi : i = 3
        · subst hi
          have : (hdN k 0 t n).testBit 3 = false := by
            rw [Nat.testBit_eq_decide_div_mod_eq]
            unfold hdN
            simp only [decide_eq_false_iff_not]
            omega
          rw [this]
          simp
        · have : Nat.testBit 8 i = false := by
            rw [show (8 : Nat) = 2 ^ 3 from rfl, Nat.testBit_two_pow]
            simp only [decide_eq_false_iff_not]
            omega
          rw [this]
          simp
      · by_cases hi : i = 3
        · subst hi
          have : (hdN k 1 t n).testBit 3 = true := by
            rw [Nat.testBit_eq_decide_div_mod_eq]
            unfold hdN
            simp only [decide_eq_true_eq]
            omega
          rw [this]
          rfl
        · have : Nat.testBit 8 i = false := by
            rw [show (8 : Nat) = 2 ^ 3 from rfl, Nat.testBit_two_pow]
            simp only [decide_eq_false_iff_not]
            omega
          rw [this]
          simp [this]
    rw [show (8 : Int64) = lN 8 from rfl, wb_and (by omega) (by decide), e1]
  refine mm_go (d := d) 5 rfl trivial (mm_one ⟨fun c => ?_, fun c => ?_⟩)
  · have c : lg_cmp (lN (hdN k f t n) &&& 8) 0 = 0 := c
    rw [e] at c
    have hf : f = 0 := by
      rcases (show f = 0 ∨ f = 1 by have := h.2.1; omega) with rfl | rfl
      · rfl
      · exact absurd c (by decide)
    subst hf
    exact mm_go (d := d) 1 rfl trivial (mm_one ⟨rfl, hk⟩)
  · have c : ¬ lg_cmp (lN (hdN k f t n) &&& 8) 0 = 0 := c
    rw [e] at c
    have hf : f = 1 := by
      rcases (show f = 0 ∨ f = 1 by have := h.2.1; omega) with rfl | rfl
      · exact absurd (by decide) c
      · rfl
    subst hf
    exact mm_go (d := d) 2 rfl trivial (mm_one ⟨rfl, hk⟩)
theorem h1_places (h : hdOk k f t n) (hk : K (.inl (some (.int (nI (hdP k n))))) w) : mm_cal (d + 3) al 6 [.long (lN (hdN k f t n))] w K := by
  have hn : n ≤ 100000 := h.2.2.2
  have hk8 : k < 8 := h.1
  refine mm_go (d := d + 2) 1 rfl trivial (mm_one (h1_kind h ?_))
  refine mm_go (d := d + 2) 1 rfl trivial (mm_one ⟨fun c => ?_, fun c => ?_⟩)
  · have c : ¬ nI k = 1 := c
    have c1 : ¬ k = 1 := fun e => c (by rw [e]; rfl)
    refine mm_go (d := d + 2) 1 rfl trivial (mm_one (h1_words h ?_))
    refine mm_go (d := d + 2) 2 rfl trivial (mm_one ?_)
    show K (.inl (some (.int (nI (hdW k n) + 1)))) w
    rw [nI_1]
    unfold hdP at hk
    rw [if_neg c1] at hk
    exact hk
  · have c : ¬ ¬ nI k = 1 := c
    have c1 : k = 1 := (nI_eq (by omega) (by decide)).mp ((Classical.not_not.mp c).trans (rfl : (1 : Int32) = nI 1))
    refine mm_go (d := d + 2) 1 rfl trivial (mm_one (h1_words h ?_))
    refine mm_go (d := d + 2) 1 rfl trivial (mm_one ?_)
    unfold hdP at hk
    rw [if_pos c1] at hk
    exact hk
/-- may a thing of this kind hold references -/
def hdR (k : Nat) : Nat := if k = 1 ∨ k = 3 ∨ k = 5 then 1 else 0
theorem h1_mayRefer (h : hdOk k f t n) (hk : K (.inl (some (.int (nI (hdR k))))) w) : mm_cal (d + 2) al 7 [.long (lN (hdN k f t n))] w K := by
  have hk8 : k < 8 := h.1
  have key : ∀ j, j < 8 → (nI k = nI j ↔ k = j) := fun j hj => nI_eq (by omega) (by omega)
  refine mm_go (d := d + 1) 1 rfl trivial (mm_one (h1_kind h ?_))
  refine mm_go (d := d + 1) 3 rfl trivial (mm_one ⟨fun c => ?_, fun c => ?_⟩)
  · have c1 : k = 1 := (key 1 (by decide)).mp c
    subst c1
    exact mm_go (d := d + 1) 2 rfl trivial (mm_one ⟨rfl, hk⟩)
  · have c1 : ¬ k = 1 := fun e => c ((key 1 (by decide)).mpr e)
    refine mm_go (d := d + 1) 2 rfl trivial (mm_one ⟨fun c => ?_, fun c => ?_⟩)
    · have c3 : k = 3 := (key 3 (by decide)).mp c
      subst c3
      exact mm_go (d := d + 1) 2 rfl trivial (mm_one ⟨rfl, hk⟩)
    · have c3 : ¬ k = 3 := fun e => c ((key 3 (by decide)).mpr e)
      refine mm_go (d := d + 1) 2 rfl trivial (mm_one ⟨fun c => ?_, fun c => ?_⟩)
      · have c : ¬ nI k = 5 := c
        have c5 : ¬ k = 5 := fun e => c ((key 5 (by decide)).mpr e)
        refine mm_go (d := d + 1) 1 rfl trivial (mm_one ⟨rfl, ?_⟩)
        unfold hdR at hk
        rw [if_neg (by omega)] at hk
        exact hk
      · have c : ¬ ¬ nI k = 5 := c
        have c5 : k = 5 := (key 5 (by decide)).mp (Classical.not_not.mp c)
        subst c5
        exact mm_go (d := d + 1) 2 rfl trivial (mm_one ⟨rfl, hk⟩)
end
