theorem sh_mask : ∀ m, m ≤ 16 → ((1 : Int32) <<< (nI m &&& 31) - 1).toBitVec.toNat = 2 ^ m - 1 := by decide +kernel
/-- the bits of a class's own first k fields, behind g fields -/
theorem sh_step {S g k : Nat} (hg : g + k < 64) (c : S / 2 ^ k % 2 = 1) : lN (S % 2 ^ k * 2 ^ g) ||| (1 : Int64) <<< ((nI (g + k)).toInt64 &&& 63) = lN (S % 2 ^ (k + 1) * 2 ^ g) := by
  have e1 : (1 : Int64) <<< ((nI (g + k)).toInt64 &&& 63) = lN (1 * 2 ^ (g + k)) := wb_shl 1 hg
  have p64 : 2 ^ (g + k) < 2 ^ 64 := wb_lt2 hg
  have l1 : S % 2 ^ k < 2 ^ k := Nat.mod_lt _ (Nat.two_pow_pos k)
  have l2 : S % 2 ^ k * 2 ^ g < 2 ^ (g + k) := by
    rw [Nat.pow_add, Nat.mul_comm (2 ^ g)]
    exact Nat.mul_lt_mul_of_pos_right l1 (Nat.two_pow_pos g)
  rw [e1, Nat.one_mul, wb_or (Nat.lt_trans l2 p64) p64]
  have e2 : S % 2 ^ (k + 1) = 2 ^ k + S % 2 ^ k := by
    rw [Nat.pow_succ, Nat.mod_mul, c, Nat.mul_one, Nat.add_comm]
  have e3 : S % 2 ^ (k + 1) * 2 ^ g = 2 ^ (g + k) * 1 + S % 2 ^ k * 2 ^ g := by
    rw [e2, Nat.add_mul, Nat.mul_one, Nat.pow_add, Nat.mul_comm (2 ^ g)]
  rw [e3, Nat.two_pow_add_eq_or_of_lt l2, Nat.mul_one, Nat.or_comm]
theorem sh_stay {S g k : Nat} (c : ¬ S / 2 ^ k % 2 = 1) : lN (S % 2 ^ (k + 1) * 2 ^ g) = lN (S % 2 ^ k * 2 ^ g) := by
  have c0 : S / 2 ^ k % 2 = 0 := (Nat.mod_two_eq_zero_or_one _).resolve_right c
  rw [Nat.pow_succ, Nat.mod_mul, c0, Nat.mul_zero, Nat.add_zero]
theorem sh_end {s : Int32} {m g : Nat} (hm : m ≤ 16) (hg : g + m ≤ 64) : (s &&& ((1 : Int32) <<< (nI m &&& 31) - 1)).toInt64 <<< ((nI g).toInt64 &&& 63) = lN (s.toBitVec.toNat % 2 ^ m * 2 ^ g) := by
  have l1 : s.toBitVec.toNat % 2 ^ m < 2 ^ m := Nat.mod_lt _ (Nat.two_pow_pos m)
  have l2 : 2 ^ m ≤ 2 ^ 16 := Nat.pow_le_pow_right (by decide) hm
  rw [pk_and s m (sh_mask m hm), nI_l (by omega)]
  by_cases c : g < 64
  · exact wb_shl _ c
  · have e1 : g = 64 := by omega
    have e2 : m = 0 := by omega
    subst e1
    subst e2
    rw [Nat.pow_zero, Nat.mod_one, Nat.zero_mul]
    decide
section
variable {d : Nat} {al : Bool} {K : mm_K} {w r : mm_W} {b : Bool} {ev un md tp ce pl wa sz : Int32} {fl pr ro : Nat → Int32} {rf hr th : Nat → Int64}
variable {cl tn ft bn fb us tk ma nt tr mk : Int32} {mf mp kd wh ca pa he fi mb td nx rt : Nat → Int32} {mr nu : Nat → Int64} {z m g : Nat} {o x s p : Int32}
theorem m_shapeL (hz : z < 100) (hm : m ≤ 16) (hg : g + m ≤ 64) {inh : Int64}
    (hk : mm_wp (d + 2) none al 62 K 0 0 167 [(0, .ref 9), (1, .int o), (2, .int (nI m)), (3, .int s), (4, .int p), (5, .int (nI g)), (6, .int (nI m))] [] (wC b ev un md tp ce pl wa sz fl pr rf ro hr th (wM (nI z) tn ft bn fb us tk ma nt tr mk mf (vp_updL mr z (inh ||| lN (s.toBitVec.toNat % 2 ^ m * 2 ^ g))) mp kd wh ca pa he fi mb td nu nx rt r))) :
    ∀ (c i : Nat), m - i = c → i ≤ m → mm_wp (d + 2) none al 62 K 0 0 126 [(0, .ref 9), (1, .int o), (2, .int (nI m)), (3, .int s), (4, .int p), (5, .int (nI g)), (6, .int (nI i))] [] (wC b ev un md tp ce pl wa sz fl pr rf ro hr th (wM (nI z) tn ft bn fb us tk ma nt tr mk mf (vp_updL mr z (inh ||| lN (s.toBitVec.toNat % 2 ^ i * 2 ^ g))) mp kd wh ca pa he fi mb td nu nx rt r)) := by
  have i1 : vp_in (nI z) 100 := vp_in_nI hz (by decide)
  have e1 : (nI z).toNatClampNeg = z := nI_clamp (by omega)
  intro c
  induction c with
  | zero =>
    intro i hc hi
    have e : i = m := by omega
    subst e
    exact mm_go (d := d + 1) 2 rfl trivial (mm_one ⟨fun _ => hk, fun u => absurd (nI_le (Nat.le_refl i) (by omega)) u⟩)
  | succ c ih =>
    intro i hc hi
    have fin : mm_wp (d + 2) none al 62 K 0 0 161 [(0, .ref 9), (1, .int o), (2, .int (nI m)), (3, .int s), (4, .int p), (5, .int (nI g)), (6, .int (nI i))] [] (wC b ev un md tp ce pl wa sz fl pr rf ro hr th (wM (nI z) tn ft bn fb us tk ma nt tr mk mf (vp_updL mr z (inh ||| lN (s.toBitVec.toNat % 2 ^ (i + 1) * 2 ^ g))) mp kd wh ca pa he fi mb td nu nx rt r)) := by
      refine mm_go (d := d + 1) (lv' := [(0, .ref 9), (1, .int o), (2, .int (nI m)), (3, .int s), (4, .int p), (5, .int (nI g)), (6, .int (nI i + 1))]) 2 rfl trivial ?_
      rw [nI_1]
      exact ih (i + 1) (by omega) (by omega)
    refine mm_go (d := d + 1) 2 rfl trivial (mm_one ⟨fun u => absurd u (nI_ge (by omega) (by omega)), fun _ => ?_⟩)
    refine mm_go (d := d + 1) 6 rfl trivial (mm_one ⟨fun u => ?_, fun u => ?_⟩)
    · have u : ¬ s >>> (nI i &&& 31) &&& 1 = 1 := u
      rw [sh_stay (fun e => u ((wb_sbit32 (by omega)).mpr e))] at fin
      exact fin
    · have u : s >>> (nI i &&& 31) &&& 1 = 1 := Classical.not_not.mp u
      refine mm_go (d := d + 1) (w' := (wC b ev un md tp ce pl wa sz fl pr rf ro hr th (wM (nI z) tn ft bn fb us tk ma nt tr mk mf (vp_updL (vp_updL mr z (inh ||| lN (s.toBitVec.toNat % 2 ^ i * 2 ^ g))) (nI z).toNatClampNeg (vp_updL mr z (inh ||| lN (s.toBitVec.toNat % 2 ^ i * 2 ^ g)) (nI z).toNatClampNeg ||| 1 <<< ((nI g + nI i).toInt64 &&& 63))) mp kd wh ca pa he fi mb td nu nx rt r))) 13 rfl ⟨i1, i1, trivial⟩ ?_
      rw [e1, pk_uLs, nI_add, Int64.or_assoc, sh_step (by omega) ((wb_sbit32 (by omega)).mp u)]
      have e2 : vp_updL (vp_updL mr z (inh ||| lN (s.toBitVec.toNat % 2 ^ i * 2 ^ g))) z (inh ||| lN (s.toBitVec.toNat % 2 ^ (i + 1) * 2 ^ g)) = vp_updL mr z (inh ||| lN (s.toBitVec.toNat % 2 ^ (i + 1) * 2 ^ g)) := by
        funext j
        unfold vp_updL
        split <;> rfl
      rw [e2]
      exact fin
theorem m_shape (hz : z ≤ 100) (hfl : ∀ c, c < z → ∃ n, n ≤ 64 ∧ mf c = nI n)
    (k0 : ¬ (o = -1 ∨ hasB z o) ∨ (x < 0 ∨ 16 < x) ∨ (p < 0 ∨ 1000 < p) → K (.inl (some (.int (nI 0)))) (wC b ev un md tp ce pl wa sz fl pr rf ro hr th (wM (nI z) tn ft bn fb us tk ma nt 1 mk mf mr mp kd wh ca pa he fi mb td nu nx rt r)))
    (k1 : (o = -1 ∨ hasB z o) → ¬ (x < 0 ∨ 16 < x) → ¬ (p < 0 ∨ 1000 < p) → ¬ (z < 100 ∧ abvI z mf o + x ≤ 64) → K (.inl (some (.int (nI 0)))) (wC b ev un md tp ce pl wa sz fl pr rf ro hr th (wM (nI z) tn ft bn fb us tk ma nt 2 mk mf mr mp kd wh ca pa he fi mb td nu nx rt r)))
    (k2 : (o = -1 ∨ hasB z o) → ¬ (x < 0 ∨ 16 < x) → ¬ (p < 0 ∨ 1000 < p) → z < 100 → abvI z mf o + x ≤ 64 → K (.inl (some (.int (nI z)))) (wC b ev un md tp ce pl wa sz fl pr rf ro hr th (wM (nI (z + 1)) tn ft bn fb us tk ma nt 0 mk (upd mf z (abvI z mf o + x)) (vp_updL mr z (inhL z mr o ||| (s &&& (1 <<< (x &&& 31) - 1)).toInt64 <<< ((abvI z mf o).toInt64 &&& 63))) (upd mp z p) kd wh ca pa he fi mb td nu nx rt r))) : mm_cal (d + 2) al 62 [.ref 9, .int o, .int x, .int s, .int p] (wC b ev un md tp ce pl wa sz fl pr rf ro hr th (wM (nI z) tn ft bn fb us tk ma nt tr mk mf mr mp kd wh ca pa he fi mb td nu nx rt r)) K := by
  have f36 : (¬ (o = -1 ∨ hasB z o) ∨ (x < 0 ∨ 16 < x) ∨ (p < 0 ∨ 1000 < p)) → mm_wp (d + 2) none al 62 K 0 0 36 [(0, .ref 9), (1, .int o), (2, .int x), (3, .int s), (4, .int p)] [] (wC b ev un md tp ce pl wa sz fl pr rf ro hr th (wM (nI z) tn ft bn fb us tk ma nt tr mk mf mr mp kd wh ca pa he fi mb td nu nx rt r)) := fun g => by
    refine mm_go (d := d + 1) 2 rfl trivial (mm_one (m_fails (d := d) ?_))
    exact mm_one (k0 g)
  refine mm_go (d := d + 1) 2 rfl trivial (mm_one ⟨fun u => f36 (.inl (fun e => ?_)), fun u1 => ?_⟩)
  · have u : o < -1 := u
    rcases e with rfl | e
    · exact absurd u (by decide)
    · exact Int32.lt_irrefl (Int32.lt_of_lt_of_le (Int32.lt_trans u (by decide : (-1 : Int32) < 0)) e.1)
  refine mm_go (d := d + 1) 3 rfl trivial (mm_one ⟨fun u => f36 (.inl (fun e => ?_)), fun u2 => ?_⟩)
  · have u : nI z ≤ o := u
    rcases e with rfl | e
    · exact absurd (Int32.le_trans (nI_pos' (n := z) (by omega)) u) (by decide)
    · exact absurd e.2 (Int32.not_lt.mpr u)
  refine mm_go (d := d + 1) 1 rfl trivial (mm_one ⟨fun u => f36 (.inr (.inl (.inl u))), fun u3 => ?_⟩)
  refine mm_go (d := d + 1) 2 rfl trivial (mm_one ⟨fun u => f36 (.inr (.inl (.inr u))), fun u4 => ?_⟩)
  refine mm_go (d := d + 1) 1 rfl trivial (mm_one ⟨fun u => f36 (.inr (.inr (.inl u))), fun u5 => ?_⟩)
  refine mm_go (d := d + 1) 2 rfl trivial (mm_one ⟨fun u6 => ?_, fun u => f36 (.inr (.inr (.inr (Int32.not_le.mp u))))⟩)
  have u1 : ¬ o < -1 := u1
  have u2 : ¬ nI z ≤ o := u2
  have u3 : ¬ x < 0 := u3
  have u4 : ¬ 16 < x := u4
  have u5 : ¬ p < 0 := u5
  have u6 : p ≤ 1000 := u6
  have c0 : o = -1 ∨ hasB z o := by
    by_cases e : o < 0
    · left
      have h1 : (-1 : Int32) ≤ o := Int32.not_lt.mp u1
      rw [Int32.lt_iff_toInt_lt] at e
      rw [Int32.le_iff_toInt_le] at h1
      apply Int32.toInt_inj.mp
      have a1 : (0 : Int32).toInt = 0 := rfl
      have a2 : (-1 : Int32).toInt = -1 := rfl
      omega
    · exact .inr ⟨Int32.not_lt.mp e, Int32.not_le.mp u2⟩
  have c1 : ¬ (x < 0 ∨ 16 < x) := fun e => e.elim u3 u4
  have c2 : ¬ (p < 0 ∨ 1000 < p) := fun e => e.elim u5 (fun e => absurd u6 (Int32.not_le.mpr e))
  obtain ⟨m, hm, rfl⟩ := nI_of2 (x := x) (M := nI 16) (n := 16) (nI_toInt (by decide)) u3 (Int32.not_lt.mp u4)
  have hab : ∃ g, g ≤ 64 ∧ abvI z mf o = nI g := by
    rcases c0 with rfl | e
    · exact ⟨0, by decide, abvI_n (fun e => absurd e.1 (by decide))⟩
    · obtain ⟨c, hc, rfl⟩ := hasB_in hz e
      obtain ⟨n, hn, e2⟩ := hfl c hc
      exact ⟨n, hn, by rw [abvI_y e, nI_clamp (by omega), e2]⟩
  obtain ⟨g, hg, hab⟩ := hab
  have f56 : mm_wp (d + 2) none al 62 K 0 0 56 [(0, .ref 9), (1, .int o), (2, .int (nI m)), (3, .int s), (4, .int p)] [.int (nI g)] (wC b ev un md tp ce pl wa sz fl pr rf ro hr th (wM (nI z) tn ft bn fb us tk ma nt tr mk mf mr mp kd wh ca pa he fi mb td nu nx rt r)) := by
    have f76 : ¬ (z < 100 ∧ abvI z mf o + nI m ≤ 64) → mm_wp (d + 2) none al 62 K 0 0 76 [(0, .ref 9), (1, .int o), (2, .int (nI m)), (3, .int s), (4, .int p), (5, .int (nI g))] [] (wC b ev un md tp ce pl wa sz fl pr rf ro hr th (wM (nI z) tn ft bn fb us tk ma nt tr mk mf mr mp kd wh ca pa he fi mb td nu nx rt r)) := fun e => by
      refine mm_go (d := d + 1) 2 rfl trivial (mm_one (m_fails (d := d) ?_))
      exact mm_one (k1 c0 c1 c2 e)
    refine mm_go (d := d + 1) 4 rfl trivial (mm_one ⟨fun u => f76 (fun e => ?_), fun u7 => ?_⟩)
    · have := (nI_eq (a := z) (b := 100) (by omega) (by decide)).mp u
      omega
    have h100 : z < 100 := by
      have : ¬ z = 100 := fun e => u7 (by rw [e]; rfl)
      omega
    refine mm_go (d := d + 1) 4 rfl trivial (mm_one ⟨fun u8 => ?_, fun u => f76 (fun e => u (by have e2 := e.2; rw [hab] at e2; exact e2))⟩)
    have u8 : nI g + nI m ≤ 64 := u8
    have k2 := k2 c0 c1 c2 h100 (by rw [hab]; exact u8)
    rw [nI_add] at u8
    have hgm : g + m ≤ 64 := (nI_leI (b := 64) (by omega) (by decide)).mp u8
    have i1 : vp_in (nI z) 100 := vp_in_nI h100 (by decide)
    have e1 : (nI z).toNatClampNeg = z := nI_clamp (by omega)
    have f122 : mm_wp (d + 2) none al 62 K 0 0 122 [(0, .ref 9), (1, .int o), (2, .int (nI m)), (3, .int s), (4, .int p), (5, .int (nI g))] [.long (inhL z mr o), .int (nI z), .ref 11] (wC b ev un md tp ce pl wa sz fl pr rf ro hr th (wM (nI z) tn ft bn fb us tk ma nt 0 mk (upd mf z (nI g + nI m)) mr mp kd wh ca pa he fi mb td nu nx rt r)) := by
      refine mm_go (d := d + 1) (lv' := [(0, .ref 9), (1, .int o), (2, .int (nI m)), (3, .int s), (4, .int p), (5, .int (nI g)), (6, .int (nI 0))]) (w' := (wC b ev un md tp ce pl wa sz fl pr rf ro hr th (wM (nI z) tn ft bn fb us tk ma nt 0 mk (upd mf z (nI g + nI m)) (vp_updL mr (nI z).toNatClampNeg (inhL z mr o)) mp kd wh ca pa he fi mb td nu nx rt r))) 3 rfl ⟨i1, trivial⟩ ?_
      rw [e1]
      have g0 := m_shapeL (d := d) (al := al) (K := K) (inh := inhL z mr o) h100 hm hgm (s := s) (o := o) (p := p) (b := b) (ev := ev) (un := un) (md := md) (tp := tp) (ce := ce) (pl := pl) (wa := wa) (sz := sz) (fl := fl) (pr := pr) (ro := ro) (rf := rf) (hr := hr) (th := th) (tn := tn) (ft := ft) (bn := bn) (fb := fb) (us := us) (tk := tk) (ma := ma) (nt := nt) (tr := 0) (mk := mk) (mf := upd mf z (nI g + nI m)) (mr := mr) (mp := mp) (kd := kd) (wh := wh) (ca := ca) (pa := pa) (he := he) (fi := fi) (mb := mb) (td := td) (nx := nx) (rt := rt) (nu := nu) (r := r) ?_ m 0 rfl (Nat.zero_le _)
      · rw [Nat.pow_zero, Nat.mod_one, Nat.zero_mul, show inhL z mr o ||| lN 0 = inhL z mr o from Int64.or_zero] at g0
        exact g0
      · refine mm_go (d := d + 1) (st' := [.int (nI z + 1 - 1)]) (w' := (wC b ev un md tp ce pl wa sz fl pr rf ro hr th (wM (nI z + 1) tn ft bn fb us tk ma nt 0 mk (upd mf z (nI g + nI m)) (vp_updL mr z (inhL z mr o ||| lN (s.toBitVec.toNat % 2 ^ m * 2 ^ g))) (upd mp (nI z).toNatClampNeg p) kd wh ca pa he fi mb td nu nx rt r))) 16 rfl ⟨i1, trivial⟩ ?_
        rw [e1, nI_1, nI_pred, ← sh_end hm hgm]
        rw [hab] at k2
        exact mm_one k2
    refine mm_go (d := d + 1) (st' := [.int o, .int (nI z), .ref 11]) (w' := (wC b ev un md tp ce pl wa sz fl pr rf ro hr th (wM (nI z) tn ft bn fb us tk ma nt 0 mk (upd mf (nI z).toNatClampNeg (nI g + nI m)) mr mp kd wh ca pa he fi mb td nu nx rt r))) 16 rfl ⟨i1, trivial⟩ ?_
    rw [e1]
    refine mm_one ⟨fun u => ?_, fun u => ?_⟩
    · have e : hasB z o := c0.resolve_left (fun e => absurd (show (0 : Int32) ≤ -1 by rw [← e]; exact u) (by decide))
      obtain ⟨c, hc, rfl⟩ := hasB_in hz e
      have i2 : vp_in (nI c) 100 := vp_in_nI (by omega) (by decide)
      rw [inhL_y e] at f122
      exact mm_go (d := d + 1) 4 rfl ⟨i2, trivial⟩ f122
    · have e : ¬ hasB z o := fun e => u e.1
      rw [inhL_n e] at f122
      exact mm_go (d := d + 1) 2 rfl trivial f122
  refine mm_go (d := d + 1) 1 rfl trivial (mm_one ⟨fun u => ?_, fun u => ?_⟩)
  · have e : hasB z o := c0.resolve_left (fun e => absurd (show (0 : Int32) ≤ -1 by rw [← e]; exact u) (by decide))
    obtain ⟨c, hc, rfl⟩ := hasB_in hz e
    have i2 : vp_in (nI c) 100 := vp_in_nI (by omega) (by decide)
    rw [← hab, abvI_y e] at f56
    rw [abvI_y e] at hab
    refine mm_go (d := d + 1) (st' := [.int (mf (nI c).toNatClampNeg)]) 4 rfl ⟨i2, trivial⟩ ?_
    exact f56
  · have e : ¬ hasB z o := fun e => u e.1
    rw [← hab, abvI_n e] at f56
    exact mm_go (d := d + 1) 2 rfl trivial f56
end
