section
variable {L i k1 k2 z N v : Nat} {xs : Nat → Int32} {b : Bool} {ev un md tp ce pl wa sz : Int32} {fl pr ro : Nat → Int32} {rf hr th : Nat → Int64}
variable {cl tn ft bn fb us tk ma nt tr mk : Int32} {mf mp kd wh ca pa he fi mb td nx rt : Nat → Int32} {mr nu ou : Nat → Int64} {kk bb : Int32} {lb : Int64}
variable {G : Gh} {R : Nat → Nat}
theorem bit_mod {S m j : Nat} (h : j < m) : S / 2 ^ j % 2 = S % 2 ^ m / 2 ^ j % 2 := by
  have h1 := Nat.testBit_mod_two_pow S m j
  rw [show decide (j < m) = true from decide_eq_true h, Bool.true_and, Nat.testBit_eq_decide_div_mod_eq, Nat.testBit_eq_decide_div_mod_eq] at h1
  have a1 := Nat.mod_two_eq_zero_or_one (S / 2 ^ j)
  have a2 := Nat.mod_two_eq_zero_or_one (S % 2 ^ m / 2 ^ j)
  rcases a1 with a1 | a1 <;> rcases a2 with a2 | a2 <;> rw [a1, a2] at h1 ⊢
  · exact absurd h1 (by decide)
  · exact absurd h1 (by decide)
theorem op_clo (hi : i + 5 ≤ L) (hL : L ≤ 2560) (hk1 : k1 + 4 ≤ 601024) (hk2 : k2 + 24 ≤ 7293034) (hN : N + 1 ≤ 512) (hp : Pw z pr) (hf : Fw z fl) (hC : CI z fl pr rf N G R tp ce pl ro hr th) (hM : MI z fl pr rf N G R tn ft bn fb us tk kd wh ca pa he fi nu nx rt) (hnext : ∀ w N', N' ≤ N + 1 → LI N' w → mm_wp 21 (some (L, xs)) true 100 lw_K (k1 + 4) (k2 + 24) 1093 [(0, .ref 99), (1, .ref 0), (2, .ref 9), (3, .ref 24), (4, .int (nI i))] [] w) : mm_wp 21 (some (L, xs)) true 100 lw_K k1 k2 492 [(0, .ref 99), (1, .ref 0), (2, .ref 9), (3, .ref 24), (4, .int (nI i))] [] (wC b ev un md tp ce pl wa (nI z) fl pr rf ro hr th (wM (nI z) tn ft bn fb us tk md ev tr mk fl rf pr kd wh ca pa he fi mb td nu nx rt [(24, .inl (1, 1, .inr (.inl ou)))])) := by
  refine b_clo hi hL hk1 hk2 ?_
  rcases f_rootE (xs (i + 1)) with ⟨v, hv, h1⟩ | h1
  case inr =>
    refine mm_go (d := 19) 7 rfl trivial (mm_one (f_cloR (d := 12) h1 ?_))
    refine mm_go (d := 19) 1 rfl trivial (mm_one ?_)
    refine n_clo hi hL (by omega) (by omega) ?_
    refine m_cloR (d := 18) h1 ?_
    exact lt_clo (by omega) (by omega) (.inl (by decide)) (mm_wide (k1 + 4) (k2 + 24) (by omega) (by omega) (hnext _ (N) (by omega) ⟨_, _, _, _, _, _, _, _, _, _, _, _, _, _, _, _, _, _, _, _, _, _, _, _, _, _, _, _, _, _, _, _, _, _, _, _, _, rfl, hp, hf, hC, hM⟩))
  rw [h1]
  by_cases hx : xs (i + 2) < 0 ∨ 8 < xs (i + 2)
  · refine mm_go (d := 19) 7 rfl trivial (mm_one (f_cloN (d := 12) hv hx ?_))
    refine mm_go (d := 19) 1 rfl trivial (mm_one ?_)
    refine n_clo hi hL (by omega) (by omega) ?_
    rw [h1]
    refine m_cloN (d := 18) hv hx ?_
    exact lt_clo (by omega) (by omega) (.inl (by decide)) (mm_wide (k1 + 4) (k2 + 24) (by omega) (by omega) (hnext _ (N) (by omega) ⟨_, _, _, _, _, _, _, _, _, _, _, _, _, _, _, _, _, _, _, _, _, _, _, _, _, _, _, _, _, _, _, _, _, _, _, _, _, rfl, hp, hf, hC, hM⟩))
  obtain ⟨m, hm, h2⟩ := nI_of2 (x := xs (i + 2)) (M := nI 8) (n := 8) (nI_toInt (by decide)) (fun e => hx (.inl e)) (Int32.not_lt.mp (fun e => hx (.inr e)))
  rw [h2]
  by_cases hF : 0 < m ∧ (xs (i + 4) < 0 ∨ nI (64 - m) < xs (i + 4))
  · refine mm_go (d := 19) 7 rfl trivial (mm_one (f_cloF (d := 12) hv hF.1 hm hF.2 ?_))
    refine mm_go (d := 19) 1 rfl trivial (mm_one ?_)
    refine n_clo hi hL (by omega) (by omega) ?_
    rw [h1, h2]
    refine m_cloF (d := 14) hv hF.1 hm hF.2 ?_
    exact lt_clo (by omega) (by omega) (.inl (by decide)) (mm_wide (k1 + 4) (k2 + 24) (by omega) (by omega) (hnext _ (N) (by omega) ⟨_, _, _, _, _, _, _, _, _, _, _, _, _, _, _, _, _, _, _, _, _, _, _, _, _, _, _, _, _, _, _, _, _, _, _, _, _, rfl, hp, hf, hC, hM⟩))
  have hgg : ∃ g, xs (i + 4) = nI g ∧ (m = 0 ∨ g + m ≤ 64) := by
    by_cases c : m = 0
    · obtain ⟨g, -, e⟩ := wb_of32 (xs (i + 4))
      exact ⟨g, e, .inl c⟩
    · obtain ⟨g, g1, g2⟩ := nI_of2 (x := xs (i + 4)) (M := nI (64 - m)) (n := 64 - m) (nI_toInt (by omega)) (fun e => hF ⟨by omega, .inl e⟩) (Int32.not_lt.mp (fun e => hF ⟨by omega, .inr e⟩))
      exact ⟨g, g2, .inr (by omega)⟩
  obtain ⟨g, h4, hg⟩ := hgg
  rw [h4]
  generalize hs3 : xs (i + 3) = s
  have ht0 : s &&& ((1 : Int32) <<< (nI m &&& 31) - 1) = nI (s.toBitVec.toNat % 2 ^ m) := pk_and s m (sh_mask m (by omega))
  have htb : ∀ j, j < m → s.toBitVec.toNat / 2 ^ j % 2 = s.toBitVec.toNat % 2 ^ m / 2 ^ j % 2 := fun j hj => bit_mod hj
  have htl : s.toBitVec.toNat % 2 ^ m < 256 := by
    have a1 : s.toBitVec.toNat % 2 ^ m < 2 ^ m := Nat.mod_lt _ (Nat.two_pow_pos m)
    have a2 : 2 ^ m ≤ 2 ^ 8 := Nat.pow_le_pow_right (by decide) hm
    omega
  generalize s.toBitVec.toNat % 2 ^ m = t at ht0 htb htl
  have ho : hdOk 5 0 t m := ⟨by decide, by decide, htl, by omega⟩
  have hw : Gw z fl (gAdd G (N + 1) 5 0 t m) (N + 1) := gw_new ho (by decide) (by decide) (fun e => absurd e (by decide)) (fun _ => hm)
  have xn : gn (gAdd G (N + 1) 5 0 t m) (N + 1) = m := gx_n
  have xI : ∀ i, gI rf (gAdd G (N + 1) 5 0 t m) (N + 1) i = isrN rf 5 t i := fun i => by
    unfold gI
    rw [gx_k, gx_t]
  have xH : gH (gAdd G (N + 1) 5 0 t m) (N + 1) = hdN 5 0 t m := by
    unfold gH
    rw [gx_k, gx_f, gx_t, gx_n]
  refine mm_go (d := 19) 7 rfl trivial (mm_one (f_clo (d := 12) hv hm hg ht0 ho (c_make hp hC hw) ?_ ?_))
  · rintro b un md' tp ce pl ro hr th ⟨rfl, hC', hno⟩
    refine mm_go (d := 19) 1 rfl trivial (mm_one ?_)
    refine n_clo hi hL (by omega) (by omega) ?_
    rw [h1, h2, h4, hs3]
    refine m_clo (d := 14) hv hm hg (.inr rfl) (s_make2 hp hM (by omega) hw (fun _ => htb) rfl rfl (congrArg nI (show 1 + m + 1 = 2 + m by omega))) ?_ ?_
    · rintro mb td us tk ft fb mk kd fi nx tn wh ca pa he bn nu ma ⟨rfl, hM', -⟩
      exact lt_clo (by omega) (by omega) (.inl (by decide)) (mm_wide (k1 + 4) (k2 + 24) (by omega) (by omega) (hnext _ (N) (by omega) ⟨_, _, _, _, _, _, _, _, _, _, _, _, _, _, _, _, _, _, _, _, _, _, _, _, _, _, _, _, _, _, _, _, _, _, _, _, _, rfl, hp, hf, hC', hM'⟩))
    · rintro mb td us tk ft fb mk kd fi nx tn wh ca pa he bn nu ma q hYm
      exact (fit_no hYm.2.2 hno).elim
  · rintro b un md' tp ce pl ro hr th a ⟨hmd, ⟨T, ls, ad, rfl, hCr, hth0, hlN, hin, rfl⟩, hfit⟩
    subst hmd
    have L1 := hCr.1.2.2.1
    have t1 := ly_top L1 hin
    have t2 := sW_P (gAdd G (N + 1) 5 0 t m) ls
    have t3 := hCr.1.2.2.2.1
    have xW : gW (gAdd G (N + 1) 5 0 t m) (N + 1) = 1 + m := by
      unfold gW
      rw [gx_k, gx_n]
      rfl
    have hR64 : ∀ i, i < m → g + i < 64 := fun i hi => by
      rcases hg with e | e <;> omega
    have hadR : ∀ r, r < 64 → ad (R r) < 180001 := fun r hr => by
      by_cases c : R r = 0
      · rw [c, L1.1]
        decide
      · have := ly_top L1 ((hCr.2.2.2.2.2.1 r hr).1 c)
        have := gW_1 (gAdd G (N + 1) 5 0 t m) (R r)
        omega
    have hdh : ∀ {i} {hr : Nat → Int64}, Cr z fl pr rf (gCap rf (gAdd G (N + 1) 5 0 t m) (N + 1) g R i) R ls ad T ce pl ro hr → hr (ad (N + 1)) = lN (hdN 5 0 t m) := fun h => by
      have := h.1.2.2.2.2.1 (N + 1) hin
      rw [gc_H, xH] at this
      exact this
    refine ⟨by omega, hdh (i := 0) hCr, fun i hr => Cr z fl pr rf (gCap rf (gAdd G (N + 1) 5 0 t m) (N + 1) g R i) R ls ad T ce pl ro hr, hCr, fun i hr hi h => ?_, fun hr h => ⟨hdh h, ?_⟩⟩
    · obtain ⟨s0, s1⟩ := cr_cap h hin (by rw [xn]; exact hi) (hR64 i hi)
      rw [xI] at s0 s1
      exact ⟨s0, fun e => ⟨ad (R (g + i)), by have := hadR (g + i) (hR64 i hi); omega, hR64 i hi, (h.2.2.2.2.2.1 (g + i) (hR64 i hi)).2, s1 e⟩⟩
    · have hC2 : CI z fl pr rf (N + 1) (gCap rf (gAdd G (N + 1) 5 0 t m) (N + 1) g R m) (ru R v (N + 1)) (nI T) ce pl (upd ro v (nI (ad (N + 1)))) hr th := ⟨T, ls, ad, rfl, cr_root h (fun _ => hin), hth0, hlN⟩
      refine mm_go (d := 19) 4 rfl ⟨(vp_in_nI (n := 0) (by decide) (by decide) : vp_in (nI 0) 1), trivial⟩ (mm_one ?_)
      refine n_clo hi hL (by omega) (by omega) ?_
      rw [h1, h2, h4, hs3]
      refine m_clo (d := 14) hv hm hg (.inr rfl) (s_make2 hp hM (by omega) hw (fun _ => htb) rfl rfl (congrArg nI (show 1 + m + 1 = 2 + m by omega))) ?_ ?_
      · rintro mb td us tk ft fb mk kd fi nx tn wh ca pa he bn nu ma hNm
        exact (fit_no hfit hNm.2.2).elim
      · rintro mb td us tk ft fb mk kd fi nx tn wh ca pa he bn nu ma q ⟨hma, ⟨tN, bN, lm, nm, bl, fq, fbl, hB, hin2, rfl⟩, -⟩
        subst hma
        have hMt := (hB.2.2.2.1.2.2.1 _ hin2).2
        have hMc := mm_mc hB.2.2.2.1 hin2
        rw [gx_k, gx_f, gx_t, gx_n] at hMt
        rw [gx_k, gx_n] at hMc
        refine ⟨0, t, _, hMt, hMc, fun i nu => Mb z fl pr rf (N + 1) (gCap rf (gAdd G (N + 1) 5 0 t m) (N + 1) g R i) R tN bN lm nm bl fq fbl tn ft bn fb us tk kd wh ca pa he fi nu nx rt, hB, fun i nu hi h => ?_, fun nu h => ?_⟩
        · obtain ⟨s0, s1⟩ := mb_cap h hin2 (by rw [xn]; exact hi) (hR64 i hi)
          rw [xI] at s0 s1
          exact ⟨s0, fun e => s1 (by omega)⟩
        · have hM2 := mb_root (v := v) (x := N + 1) h (fun _ => hin2)
          rw [show Mn nm (N + 1) = nI (nm (N + 1)) from if_neg (by omega)] at hM2
          exact lt_clo (by omega) (by omega) (.inr rfl) (mm_wide (k1 + 4) (k2 + 24) (by omega) (by omega) (hnext _ (N + 1) (by omega) ⟨_, _, _, _, _, _, _, _, _, _, _, _, _, _, _, _, _, _, _, _, _, _, _, _, _, _, _, _, _, _, _, _, _, _, _, _, _, rfl, hp, hf, hC2, ⟨tN, bN, lm, nm, bl, fq, fbl, hM2⟩⟩))
end
