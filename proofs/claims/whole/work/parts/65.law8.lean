section
variable {d : Nat} {al : Bool} {K : mm_K} {w r : mm_W} {b : Bool} {ev un md tp ce pl wa sz : Int32} {fl pr ro : Nat → Int32} {rf hr th : Nat → Int64}
variable {cl tn ft bn fb us tk ma nt tr mk : Int32} {kd wh ca pa he fi mb td nx rt : Nat → Int32} {nu : Nat → Int64} {q k f t n i j v u s : Nat} {x y z o : Int32} {l : Int64} {B : Nat → Nat}
/-- a sweep, with the lists hidden -/
theorem mi_sweep {zz N : Nat} {G : Gh} {R : Nat → Nat} (hp : Pw zz pr) (h : MI zz fl pr rf N G R tn ft bn fb us tk kd wh ca pa he fi nu nx rt) (hN : N ≤ 512)
    (hk : ∀ mb td us tk ft fb mk kd fi nx lm, MI zz fl pr rf N G R tn ft bn fb us tk kd wh ca pa he fi nu nx rt → us = nI (sm (gC pr G) lm) → lm.Nodup → (∀ a, a ∈ lm ↔ Rc rf G R a) → K (.inl none) (wC b ev un md tp ce pl wa sz fl pr rf ro hr th (wM cl tn ft bn fb us tk ma nt tr mk fl rf pr kd wh ca pa he fi mb td nu nx rt r))) : mm_cal (d + 4) al 68 [.ref 9] (wC b ev un md tp ce pl wa sz fl pr rf ro hr th (wM cl tn ft bn fb us tk ma nt tr mk fl rf pr kd wh ca pa he fi mb td nu nx rt r)) K := by
  obtain ⟨tN, bN, lm, nm, bl, fq, fbl, rfl, rfl, htN, hM, hCl, hlN, hsC, rfl, rfl, hR⟩ := h
  refine s_sweep hp hM hCl hR (by omega) (fun lm' fq fbl mb td us tk ft fb mk kd fi nx hM' hrc e1 e2 => hk mb td us tk ft fb mk kd fi nx lm' ⟨tN, bN, lm', nm, bl, fq, fbl, rfl, rfl, htN, hM', ?_, ?_, ?_, e1, e2, ?_⟩ e1 hM'.1 hrc)
  · exact fun a ha i hi g1 g2 => (hrc _).mpr (rc_step ((hrc a).mp ha) hi g1 g2)
  · exact fun a ha => hlN a (rc_in (fun r hr => (hR r hr).1) hCl ((hrc a).mp ha))
  · exact Nat.le_trans (sm_sub _ _ _ hM'.1 (fun a ha => rc_in (fun r hr => (hR r hr).1) hCl ((hrc a).mp ha))) hsC
  · exact fun r hr => ⟨fun g => (hrc _).mpr (rc_root hr g), (hR r hr).2⟩
theorem ci_move {zz N : Nat} {G : Gh} {R : Nat → Nat} (hp : Pw zz pr) (h : CI zz fl pr rf N G R tp ce pl ro hr th)
    (hk : ∀ b tp ce pl ro hr th ls, CI zz fl pr rf N G R tp ce pl ro hr th → ce = nI (sm (gC pr G) ls) → ls.Nodup → (∀ a, a ∈ ls ↔ Rc rf G R a) → K (.inl none) (wC b ev un md tp ce pl wa sz fl pr rf ro hr th r)) : mm_cal (d + 5) al 26 [.ref 1] (wC b ev un md tp ce pl wa sz fl pr rf ro hr th r) K := by
  obtain ⟨T, ls, ad, rfl, hC, ht0, hlN⟩ := h
  refine c_move hp hC ht0 (fun nw nad T ce pl ro hr th hC' hrc ht' => hk _ _ _ _ _ _ _ nw ⟨T, nw, nad, rfl, hC', ht', fun a ha => hlN a (rc_in (fun r hr => (hC.2.2.2.2.2.1 r hr).1) hC.1.2.2.2.2.2.2 ((hrc a).mp ha))⟩ hC'.2.2.2.1 hC'.1.1 hrc)
theorem ci_audit {zz N : Nat} {G : Gh} {R : Nat → Nat} (hp : Pw zz pr) (h : CI zz fl pr rf N G R tp ce pl ro hr th)
    (hk : ∀ wa th, CI zz fl pr rf N G R tp ce pl ro hr th → K (.inl (some (.int (nI 0)))) (wC b ev un md tp ce pl wa sz fl pr rf ro hr th r)) : mm_cal (d + 5) al 27 [.ref 1] (wC b ev un md tp ce pl wa sz fl pr rf ro hr th r) K := by
  obtain ⟨T, ls, ad, rfl, hC, ht0, hlN⟩ := h
  exact c_audit hp hC ht0 (fun wa th h0 => hk wa th ⟨T, ls, ad, rfl, hC, h0, hlN⟩)
end
section
variable {L i k1 k2 z N v : Nat} {xs : Nat → Int32} {b : Bool} {ev un md tp ce pl wa sz : Int32} {fl pr ro : Nat → Int32} {rf hr th : Nat → Int64}
variable {cl tn ft bn fb us tk ma nt tr mk : Int32} {mf mp kd wh ca pa he fi mb td nx rt : Nat → Int32} {mr nu ou : Nat → Int64} {kk bb : Int32} {lb : Int64}
variable {G : Gh} {R : Nat → Nat}
theorem y3 {y : Int32} (h0 : ¬ y = 0) (h1 : ¬ y = 1) (h2 : ¬ y = 2) (g1 : ¬ y < 0) : ¬ y < 3 := by
  intro g2
  rw [Int32.lt_iff_toInt_lt] at g1 g2
  have a0 : (0 : Int32).toInt = 0 := rfl
  have a3 : (3 : Int32).toInt = 3 := rfl
  have b0 : ¬ y.toInt = 0 := fun e => h0 (Int32.toInt_inj.mp e)
  have b1 : ¬ y.toInt = 1 := fun e => h1 (Int32.toInt_inj.mp e)
  have b2 : ¬ y.toInt = 2 := fun e => h2 (Int32.toInt_inj.mp e)
  omega
theorem op_told (hi : i + 5 ≤ L) (hL : L ≤ 2560) (hk1 : k1 + 4 ≤ 601024) (hk2 : k2 + 24 ≤ 7293034) (hN : N + 1 ≤ 512) (hp : Pw z pr) (hf : Fw z fl) (hC : CI z fl pr rf N G R tp ce pl ro hr th) (hM : MI z fl pr rf N G R tn ft bn fb us tk kd wh ca pa he fi nu nx rt) (hnext : ∀ w N', N' ≤ N + 1 → LI N' w → mm_wp 21 (some (L, xs)) true 100 lw_K (k1 + 4) (k2 + 24) 1093 [(0, .ref 99), (1, .ref 0), (2, .ref 9), (3, .ref 24), (4, .int (nI i))] [] w) : mm_wp 21 (some (L, xs)) true 100 lw_K k1 k2 930 [(0, .ref 99), (1, .ref 0), (2, .ref 9), (3, .ref 24), (4, .int (nI i))] [] (wC b ev un md tp ce pl wa (nI z) fl pr rf ro hr th (wM (nI z) tn ft bn fb us tk md ev tr mk fl rf pr kd wh ca pa he fi mb td nu nx rt [(24, .inl (1, 1, .inr (.inl ou)))])) := by
  refine b_told hi hL hk1 hk2 ?_
  rcases f_rootE (xs (i + 1)) with ⟨v, hv, h1⟩ | h1
  · rw [h1]
    have key : ∃ a k f t n, ro v = nI a ∧ a < 180001 ∧ hdOk k f t n ∧ (k = 1 → t < 100) ∧ hr a = lN (hdN k f t n) ∧ ((rt v = -1 ∧ k = 0 ∧ n = 0) ∨ ∃ q, q < 180100 ∧ rt v = nI q ∧ kd q = nI k ∧ wh q = nI (if k = 1 then t else n) ∧ ca q = cstI pr k f t n) := by
      rcases c_at hC hv with ⟨r0, ra, hh⟩ | ⟨r0, -, a, ra, ha0, ha, hh, hw, hct⟩
      · have hm := (m_at hM hv).resolve_right (fun e => e.1 r0)
        exact ⟨0, 0, 0, 0, 0, ra, by decide, by unfold hdOk; decide, fun e => absurd e (by decide), hh, .inl ⟨hm.2, rfl, rfl⟩⟩
      · obtain ⟨-, q, B, rq, hMt, -⟩ := (m_at hM hv).resolve_left (fun e => r0 e.1)
        have hW1 : 1 ≤ hdW (gk G (R v)) (gn G (R v)) := gW_1 G (R v)
        exact ⟨a, gk G (R v), gf G (R v), gt G (R v), gn G (R v), ra, by omega, hw.1, fun e => by have := hw.2.2.2.1 e; have := hp.1; omega, hh, .inr ⟨q, hMt.1, rq, hMt.2.2.2.2.2.2.1, hMt.2.2.2.2.2.2.2.1, hMt.2.2.2.2.2.2.2.2.1⟩⟩
    obtain ⟨a, k, f, t, n, ra, ha, ho, ht, hh, hm⟩ := key
    have hrt : rt v = -1 ∨ ∃ q, q < 180100 ∧ rt v = nI q := hm.imp (fun e => e.1) (fun ⟨q, e1, e2, _⟩ => ⟨q, e1, e2⟩)
    have n1 : ∀ q, q < 180100 → ¬ nI q = -1 := fun q hq e => absurd (show nI q < 0 by rw [e]; decide) (nI_pos (by omega))
    have hz0 : rt v = -1 → k = 0 ∧ n = 0 := fun e => by
      rcases hm with g | ⟨q, q1, q2, -⟩
      · exact g.2
      · exact absurd (q2.symm.trans e) (n1 q q1)
    have hq0 : ∀ q, q < 180100 → rt v = nI q → kd q = nI k ∧ wh q = nI (if k = 1 then t else n) ∧ ca q = cstI pr k f t n := fun q hq e => by
      rcases hm with g | ⟨q', q1, q2, q3⟩
      · exact absurd (e.symm.trans g.1) (n1 q hq)
      · have : q = q' := (nI_eq (by omega) (by omega)).mp (e.symm.trans q2)
        subst this
        exact q3
    by_cases y0 : xs (i + 2) = 0
    · rw [y0]
      refine mm_go (d := 19) 5 rfl trivial (mm_one (f_told (d := 16) hv ra ha ho ht hh (fun _ => ?_) (fun e => absurd e (by decide)) (fun e => absurd e (by decide)) (fun e => absurd e (by decide)) (fun e => absurd rfl e)))
      refine mm_go (d := 19) 4 rfl ⟨(vp_in_nI (n := 0) (by decide) (by decide) : vp_in (nI 0) 1), trivial⟩ (mm_one ?_)
      refine n_told hi hL (by omega) (by omega) ?_
      rw [h1, y0]
      refine m_told (d := 18) hv hrt (fun e => absurd e (by decide)) (fun e _ _ => ?_) (fun q hq e _ => ?_) (fun q _ _ e => absurd e (by decide)) (fun q _ _ e => absurd rfl e) (fun e => absurd e (by decide))
      · obtain ⟨rfl, rfl⟩ := hz0 e
        exact lt_told (by omega) (by omega) (.inr rfl) (mm_wide (k1 + 4) (k2 + 24) (by omega) (by omega) (hnext _ (N) (by omega) ⟨_, _, _, _, _, _, _, _, _, _, _, _, _, _, _, _, _, _, _, _, _, _, _, _, _, _, _, _, _, _, _, _, _, _, _, _, _, rfl, hp, hf, hC, hM⟩))
      · rw [(hq0 q hq e).1]
        exact lt_told (by omega) (by omega) (.inr rfl) (mm_wide (k1 + 4) (k2 + 24) (by omega) (by omega) (hnext _ (N) (by omega) ⟨_, _, _, _, _, _, _, _, _, _, _, _, _, _, _, _, _, _, _, _, _, _, _, _, _, _, _, _, _, _, _, _, _, _, _, _, _, rfl, hp, hf, hC, hM⟩))
    by_cases y1 : xs (i + 2) = 1
    · rw [y1]
      refine mm_go (d := 19) 5 rfl trivial (mm_one (f_told (d := 16) hv ra ha ho ht hh (fun e => absurd e (by decide)) (fun _ => ?_) (fun e => absurd e (by decide)) (fun e => absurd e (by decide)) (fun _ e => absurd rfl e)))
      refine mm_go (d := 19) 4 rfl ⟨(vp_in_nI (n := 0) (by decide) (by decide) : vp_in (nI 0) 1), trivial⟩ (mm_one ?_)
      refine n_told hi hL (by omega) (by omega) ?_
      rw [h1, y1]
      refine m_told (d := 18) hv hrt (fun e => absurd e (by decide)) (fun e _ _ => ?_) (fun q _ _ e => absurd e (by decide)) (fun q hq e _ => ?_) (fun q _ _ _ e => absurd rfl e) (fun e => absurd e (by decide))
      · obtain ⟨rfl, rfl⟩ := hz0 e
        exact lt_told (by omega) (by omega) (.inr rfl) (mm_wide (k1 + 4) (k2 + 24) (by omega) (by omega) (hnext _ (N) (by omega) ⟨_, _, _, _, _, _, _, _, _, _, _, _, _, _, _, _, _, _, _, _, _, _, _, _, _, _, _, _, _, _, _, _, _, _, _, _, _, rfl, hp, hf, hC, hM⟩))
      · rw [(hq0 q hq e).2.1]
        exact lt_told (by omega) (by omega) (.inr rfl) (mm_wide (k1 + 4) (k2 + 24) (by omega) (by omega) (hnext _ (N) (by omega) ⟨_, _, _, _, _, _, _, _, _, _, _, _, _, _, _, _, _, _, _, _, _, _, _, _, _, _, _, _, _, _, _, _, _, _, _, _, _, rfl, hp, hf, hC, hM⟩))
    by_cases y2 : xs (i + 2) = 2
    · rw [y2]
      refine mm_go (d := 19) 5 rfl trivial (mm_one (f_told (d := 16) hv ra ha ho ht hh (fun e => absurd e (by decide)) (fun e => absurd e (by decide)) (fun _ => ?_) (fun e => absurd e (by decide)) (fun _ _ e => absurd rfl e)))
      refine mm_go (d := 19) 4 rfl ⟨(vp_in_nI (n := 0) (by decide) (by decide) : vp_in (nI 0) 1), trivial⟩ (mm_one ?_)
      refine n_told hi hL (by omega) (by omega) ?_
      rw [h1, y2]
      refine m_told (d := 18) hv hrt (fun e => absurd e (by decide)) (fun e _ _ => ?_) (fun q _ _ e => absurd e (by decide)) (fun q _ _ e => absurd e (by decide)) (fun q hq e _ _ _ _ => ?_) (fun e => absurd e (by decide))
      · have e0 : cstI pr k f t n = 0 := by
          obtain ⟨rfl, rfl⟩ := hz0 e
          unfold cstI
          split <;> rfl
        rw [e0]
        exact lt_told (by omega) (by omega) (.inr rfl) (mm_wide (k1 + 4) (k2 + 24) (by omega) (by omega) (hnext _ (N) (by omega) ⟨_, _, _, _, _, _, _, _, _, _, _, _, _, _, _, _, _, _, _, _, _, _, _, _, _, _, _, _, _, _, _, _, _, _, _, _, _, rfl, hp, hf, hC, hM⟩))
      · rw [(hq0 q hq e).2.2]
        exact lt_told (by omega) (by omega) (.inr rfl) (mm_wide (k1 + 4) (k2 + 24) (by omega) (by omega) (hnext _ (N) (by omega) ⟨_, _, _, _, _, _, _, _, _, _, _, _, _, _, _, _, _, _, _, _, _, _, _, _, _, _, _, _, _, _, _, _, _, _, _, _, _, rfl, hp, hf, hC, hM⟩))
    by_cases y3' : xs (i + 2) = 3
    · rw [y3']
      refine mm_go (d := 19) 5 rfl trivial (mm_one (f_told (d := 16) hv ra ha ho ht hh (fun e => absurd e (by decide)) (fun e => absurd e (by decide)) (fun e => absurd e (by decide)) (fun _ s hs1 hs2 hs3 => ?_) (fun _ _ _ e => absurd rfl e)))
      refine mm_go (d := 19) 4 rfl ⟨(vp_in_nI (n := 0) (by decide) (by decide) : vp_in (nI 0) 1), trivial⟩ (mm_one ?_)
      refine n_told hi hL (by omega) (by omega) ?_
      rw [h1, y3']
      refine m_told (d := 18) hv hrt (fun e => absurd e (by decide)) (fun _ _ e => absurd e (by decide)) (fun q _ _ e => absurd e (by decide)) (fun q _ _ e => absurd e (by decide)) (fun q _ _ _ _ _ e => absurd e (by decide)) (fun _ s' hs1' hs2' hs3' => ?_)
      have e : s = s' := by
        rcases Nat.lt_trichotomy s s' with g | g | g
        · exact absurd ((mi_same hM hv (by omega)).mpr ((ci_same hC hv (by omega)).mp hs2)) (hs3' s g)
        · exact g
        · exact absurd ((ci_same hC hv (by omega)).mpr ((mi_same hM hv (by omega)).mp hs2')) (hs3 s' g)
      subst e
      exact lt_told (by omega) (by omega) (.inr rfl) (mm_wide (k1 + 4) (k2 + 24) (by omega) (by omega) (hnext _ (N) (by omega) ⟨_, _, _, _, _, _, _, _, _, _, _, _, _, _, _, _, _, _, _, _, _, _, _, _, _, _, _, _, _, _, _, _, _, _, _, _, _, rfl, hp, hf, hC, hM⟩))
    · refine mm_go (d := 19) 5 rfl trivial (mm_one (f_told (d := 16) hv ra ha ho ht hh (fun e => absurd e y0) (fun e => absurd e y1) (fun e => absurd e y2) (fun e => absurd e y3') (fun _ _ _ _ => ?_)))
      refine mm_go (d := 19) 1 rfl trivial (mm_one ?_)
      refine n_told hi hL (by omega) (by omega) ?_
      rw [h1]
      refine m_told (d := 18) hv hrt (fun _ => ?_) (fun _ g1 g2 => absurd g2 (y3 y0 y1 y2 g1)) (fun q _ _ e => absurd e y0) (fun q _ _ e => absurd e y1) (fun q _ _ _ _ g1 g2 => absurd g2 (y3 y0 y1 y2 g1)) (fun e => absurd e y3')
      exact lt_told (by omega) (by omega) (.inl (by decide)) (mm_wide (k1 + 4) (k2 + 24) (by omega) (by omega) (hnext _ (N) (by omega) ⟨_, _, _, _, _, _, _, _, _, _, _, _, _, _, _, _, _, _, _, _, _, _, _, _, _, _, _, _, _, _, _, _, _, _, _, _, _, rfl, hp, hf, hC, hM⟩))
  · refine mm_go (d := 19) 5 rfl trivial (mm_one (f_toldR (d := 16) h1 ?_))
    refine mm_go (d := 19) 1 rfl trivial (mm_one ?_)
    refine n_told hi hL (by omega) (by omega) ?_
    refine m_toldR (d := 18) h1 ?_
    exact lt_told (by omega) (by omega) (.inl (by decide)) (mm_wide (k1 + 4) (k2 + 24) (by omega) (by omega) (hnext _ (N) (by omega) ⟨_, _, _, _, _, _, _, _, _, _, _, _, _, _, _, _, _, _, _, _, _, _, _, _, _, _, _, _, _, _, _, _, _, _, _, _, _, rfl, hp, hf, hC, hM⟩))
theorem op_shape (hi : i + 5 ≤ L) (hL : L ≤ 2560) (hk1 : k1 + 4 ≤ 601024) (hk2 : k2 + 24 ≤ 7293034) (hN : N + 1 ≤ 512) (hp : Pw z pr) (hf : Fw z fl) (hC : CI z fl pr rf N G R tp ce pl ro hr th) (hM : MI z fl pr rf N G R tn ft bn fb us tk kd wh ca pa he fi nu nx rt) (hnext : ∀ w N', N' ≤ N + 1 → LI N' w → mm_wp 21 (some (L, xs)) true 100 lw_K (k1 + 4) (k2 + 24) 1093 [(0, .ref 99), (1, .ref 0), (2, .ref 9), (3, .ref 24), (4, .int (nI i))] [] w) : mm_wp 21 (some (L, xs)) true 100 lw_K k1 k2 112 [(0, .ref 99), (1, .ref 0), (2, .ref 9), (3, .ref 24), (4, .int (nI i))] [] (wC b ev un md tp ce pl wa (nI z) fl pr rf ro hr th (wM (nI z) tn ft bn fb us tk md ev tr mk fl rf pr kd wh ca pa he fi mb td nu nx rt [(24, .inl (1, 1, .inr (.inl ou)))])) := by
  refine b_shape hi hL hk1 hk2 ?_
  have hz := hp.1
  refine mm_go (d := 19) 7 rfl trivial (mm_one (f_shape (d := 15) hz (fun hc => ?_) (fun hc hx => ?_) (fun hc hx hq => ?_) (fun hc hx hq hno => ?_) (fun hc hx hq hz' hab => ?_)))
  · refine mm_go (d := 19) 1 rfl trivial (mm_one ?_)
    refine n_shape hi hL (by omega) (by omega) ?_
    refine m_shape (d := 18) hz hf (fun _ => ?_) (fun g => absurd g hc) (fun g => absurd g hc)
    exact lt_shape (by omega) (by omega) (.inl (by decide)) (mm_wide (k1 + 4) (k2 + 24) (by omega) (by omega) (hnext _ (N) (by omega) ⟨_, _, _, _, _, _, _, _, _, _, _, _, _, _, _, _, _, _, _, _, _, _, _, _, _, _, _, _, _, _, _, _, _, _, _, _, _, rfl, hp, hf, hC, hM⟩))
  · refine mm_go (d := 19) 1 rfl trivial (mm_one ?_)
    refine n_shape hi hL (by omega) (by omega) ?_
    refine m_shape (d := 18) hz hf (fun _ => ?_) (fun _ g => absurd hx g) (fun _ g => absurd hx g)
    exact lt_shape (by omega) (by omega) (.inl (by decide)) (mm_wide (k1 + 4) (k2 + 24) (by omega) (by omega) (hnext _ (N) (by omega) ⟨_, _, _, _, _, _, _, _, _, _, _, _, _, _, _, _, _, _, _, _, _, _, _, _, _, _, _, _, _, _, _, _, _, _, _, _, _, rfl, hp, hf, hC, hM⟩))
  · refine mm_go (d := 19) 1 rfl trivial (mm_one ?_)
    refine n_shape hi hL (by omega) (by omega) ?_
    refine m_shape (d := 18) hz hf (fun _ => ?_) (fun _ _ g => absurd hq g) (fun _ _ g => absurd hq g)
    exact lt_shape (by omega) (by omega) (.inl (by decide)) (mm_wide (k1 + 4) (k2 + 24) (by omega) (by omega) (hnext _ (N) (by omega) ⟨_, _, _, _, _, _, _, _, _, _, _, _, _, _, _, _, _, _, _, _, _, _, _, _, _, _, _, _, _, _, _, _, _, _, _, _, _, rfl, hp, hf, hC, hM⟩))
  · refine mm_go (d := 19) 1 rfl trivial (mm_one ?_)
    refine n_shape hi hL (by omega) (by omega) ?_
    refine m_shape (d := 18) hz hf (fun g => ?_) (fun _ _ _ _ => ?_) (fun _ _ _ g1 g2 => absurd ⟨g1, g2⟩ hno)
    · exact (g.elim (fun e => e hc) (fun e => e.elim hx hq)).elim
    · exact lt_shape (by omega) (by omega) (.inl (by decide)) (mm_wide (k1 + 4) (k2 + 24) (by omega) (by omega) (hnext _ (N) (by omega) ⟨_, _, _, _, _, _, _, _, _, _, _, _, _, _, _, _, _, _, _, _, _, _, _, _, _, _, _, _, _, _, _, _, _, _, _, _, _, rfl, hp, hf, hC, hM⟩))
  · refine mm_go (d := 19) 4 rfl ⟨(vp_in_nI (n := 0) (by decide) (by decide) : vp_in (nI 0) 1), trivial⟩ (mm_one ?_)
    refine n_shape hi hL (by omega) (by omega) ?_
    refine m_shape (d := 18) hz hf (fun g => ?_) (fun _ _ _ g => absurd ⟨hz', hab⟩ g) (fun _ _ _ _ _ => ?_)
    · exact (g.elim (fun e => e hc) (fun e => e.elim hx hq)).elim
    · have hp' : Pw (z + 1) (upd pr z (xs (i + 4))) := by
        refine ⟨by omega, fun c hc => ?_⟩
        by_cases e : c = z
        · subst e
          rw [pk_us]
          obtain ⟨p, g1, g2⟩ := nI_of2 (x := xs (i + 4)) (M := nI 1000) (n := 1000) (nI_toInt (by decide)) (fun e => hq (.inl e)) (Int32.not_lt.mp (fun e => hq (.inr e)))
          exact ⟨p, g1, g2⟩
        · rw [pk_un e]
          exact hp.2 c (by omega)
      have hf' : Fw (z + 1) (upd fl z (abvI z fl (xs (i + 1)) + xs (i + 2))) := by
        intro c hc2
        by_cases e : c = z
        · subst e
          rw [pk_us]
          obtain ⟨m, hm, e2⟩ := nI_of2 (x := xs (i + 2)) (M := nI 16) (n := 16) (nI_toInt (by decide)) (fun e => hx (.inl e)) (Int32.not_lt.mp (fun e => hx (.inr e)))
          have hg : ∃ g, g ≤ 64 ∧ abvI c fl (xs (i + 1)) = nI g := by
            by_cases eB : hasB c (xs (i + 1))
            · obtain ⟨c', hc', e3⟩ := hasB_in hz eB
              obtain ⟨n, hn, e4⟩ := hf c' hc'
              exact ⟨n, hn, by rw [abvI_y eB, e3, nI_clamp (by omega), e4]⟩
            · exact ⟨0, by decide, abvI_n eB⟩
          obtain ⟨g, hg, e3⟩ := hg
          rw [e2, e3, nI_add] at hab ⊢
          exact ⟨g + m, (nI_leI (b := 64) (by omega) (by decide)).mp hab, rfl⟩
        · rw [pk_un e]
          exact hf c (by omega)
      exact lt_shape (by omega) (by omega) (.inr rfl) (mm_wide (k1 + 4) (k2 + 24) (by omega) (by omega) (hnext _ (N) (by omega) ⟨_, _, _, _, _, _, _, _, _, _, _, _, _, _, _, _, _, _, _, _, _, _, _, _, _, _, _, _, _, _, _, _, _, _, _, _, _, rfl, hp', hf', ci_shape hC, mi_shape hM⟩))
theorem op_collect (hi : i + 5 ≤ L) (hL : L ≤ 2560) (hk1 : k1 + 4 ≤ 601024) (hk2 : k2 + 24 ≤ 7293034) (hN : N + 1 ≤ 512) (hp : Pw z pr) (hf : Fw z fl) (hC : CI z fl pr rf N G R tp ce pl ro hr th) (hM : MI z fl pr rf N G R tn ft bn fb us tk kd wh ca pa he fi nu nx rt) (hnext : ∀ w N', N' ≤ N + 1 → LI N' w → mm_wp 21 (some (L, xs)) true 100 lw_K (k1 + 4) (k2 + 24) 1093 [(0, .ref 99), (1, .ref 0), (2, .ref 9), (3, .ref 24), (4, .int (nI i))] [] w) : mm_wp 21 (some (L, xs)) true 100 lw_K k1 k2 998 [(0, .ref 99), (1, .ref 0), (2, .ref 9), (3, .ref 24), (4, .int (nI i))] [] (wC b ev un md tp ce pl wa (nI z) fl pr rf ro hr th (wM (nI z) tn ft bn fb us tk md ev tr mk fl rf pr kd wh ca pa he fi mb td nu nx rt [(24, .inl (1, 1, .inr (.inl ou)))])) := by
  have z1 : (pg_c 48).1 = 0 := rfl
  have z2 : (pg_c 48).2 = 0 := rfl
  have z3 : (pg_c 84).1 = 0 := rfl
  have z4 : (pg_c 84).2 = 0 := rfl
  refine mm_go (d := 20) 1 rfl trivial (mm_cvt rfl rfl rfl rfl (by rw [z1]; omega) (by rw [z2]; omega) ?_)
  rw [z1, z2]
  refine f_collect (d := 14) (P := fun _ tp ce pl ro hr th => ∃ ls, CI z fl pr rf N G R tp ce pl ro hr th ∧ ce = nI (sm (gC pr G) ls) ∧ ls.Nodup ∧ ∀ a, a ∈ ls ↔ Rc rf G R a) (fun K' hK' => ci_move hp hC (fun b tp ce pl ro hr th ls c1 c2 c3 c4 => hK' _ _ _ _ _ _ _ ⟨ls, c1, c2, c3, c4⟩)) ?_
  rintro b tp ce pl ro hr th ⟨ls, hC', hce, hnd, hrc⟩
  refine mm_go (d := 20) 1 rfl trivial (mm_cvt rfl rfl rfl rfl (by rw [z3]; omega) (by rw [z4]; omega) ?_)
  rw [z3, z4]
  refine m_collect (d := 15) (P := fun mb td us tk ft fb mk kd fi nx => ∃ lm, MI z fl pr rf N G R tn ft bn fb us tk kd wh ca pa he fi nu nx rt ∧ us = nI (sm (gC pr G) lm) ∧ lm.Nodup ∧ ∀ a, a ∈ lm ↔ Rc rf G R a) (fun K' hK' => mi_sweep hp hM (by omega) (fun mb td us tk ft fb mk kd fi nx lm c1 c2 c3 c4 => hK' _ _ _ _ _ _ _ _ _ _ ⟨lm, c1, c2, c3, c4⟩)) ?_
  rintro mb td us tk ft fb mk kd fi nx ⟨lm, hM', hus, hnd2, hrc2⟩
  refine mm_one ⟨fun _ => ?_, fun c => absurd ?_ c⟩
  · exact (mm_wide (k1 + 4) (k2 + 24) (by omega) (by omega) (hnext _ (N) (by omega) ⟨_, _, _, _, _, _, _, _, _, _, _, _, _, _, _, _, _, _, _, _, _, _, _, _, _, _, _, _, _, _, _, _, _, _, _, _, _, rfl, hp, hf, hC', hM'⟩))
  · show ce = us
    rw [hce, hus, sm_same (gC pr G) hnd hnd2 (fun a => (hrc a).trans (hrc2 a).symm)]
theorem op_made (hi : i + 5 ≤ L) (hL : L ≤ 2560) (hk1 : k1 + 4 ≤ 601024) (hk2 : k2 + 24 ≤ 7293034) (hN : N + 1 ≤ 512) (hp : Pw z pr) (hf : Fw z fl) (hC : CI z fl pr rf N G R tp ce pl ro hr th) (hM : MI z fl pr rf N G R tn ft bn fb us tk kd wh ca pa he fi nu nx rt) (hnext : ∀ w N', N' ≤ N + 1 → LI N' w → mm_wp 21 (some (L, xs)) true 100 lw_K (k1 + 4) (k2 + 24) 1093 [(0, .ref 99), (1, .ref 0), (2, .ref 9), (3, .ref 24), (4, .int (nI i))] [] w) : mm_wp 21 (some (L, xs)) true 100 lw_K k1 k2 1067 [(0, .ref 99), (1, .ref 0), (2, .ref 9), (3, .ref 24), (4, .int (nI i))] [] (wC b ev un md tp ce pl wa (nI z) fl pr rf ro hr th (wM (nI z) tn ft bn fb us tk md ev tr mk fl rf pr kd wh ca pa he fi mb td nu nx rt [(24, .inl (1, 1, .inr (.inl ou)))])) := by
  have z1 : (pg_c 50).1 = 0 := rfl
  have z2 : (pg_c 50).2 = 0 := rfl
  have z3 : (pg_c 86).1 = 0 := rfl
  have z4 : (pg_c 86).2 = 0 := rfl
  refine mm_go (d := 20) 1 rfl trivial (mm_cvt rfl rfl rfl rfl (by rw [z1]; omega) (by rw [z2]; omega) ?_)
  rw [z1, z2]
  refine f_made (d := 19) ?_
  refine mm_go (d := 20) 1 rfl trivial (mm_cvt rfl rfl rfl rfl (by rw [z3]; omega) (by rw [z4]; omega) ?_)
  rw [z3, z4]
  refine m_made (d := 19) ?_
  exact mm_one ⟨fun _ => (mm_wide (k1 + 4) (k2 + 24) (by omega) (by omega) (hnext _ (N) (by omega) ⟨_, _, _, _, _, _, _, _, _, _, _, _, _, _, _, _, _, _, _, _, _, _, _, _, _, _, _, _, _, _, _, _, _, _, _, _, _, rfl, hp, hf, hC, hM⟩)), fun c => absurd rfl c⟩
theorem op_audit (hi : i + 5 ≤ L) (hL : L ≤ 2560) (hk1 : k1 + 4 ≤ 601024) (hk2 : k2 + 24 ≤ 7293034) (hN : N + 1 ≤ 512) (hp : Pw z pr) (hf : Fw z fl) (hC : CI z fl pr rf N G R tp ce pl ro hr th) (hM : MI z fl pr rf N G R tn ft bn fb us tk kd wh ca pa he fi nu nx rt) (hnext : ∀ w N', N' ≤ N + 1 → LI N' w → mm_wp 21 (some (L, xs)) true 100 lw_K (k1 + 4) (k2 + 24) 1093 [(0, .ref 99), (1, .ref 0), (2, .ref 9), (3, .ref 24), (4, .int (nI i))] [] w) : mm_wp 21 (some (L, xs)) true 100 lw_K k1 k2 1080 [(0, .ref 99), (1, .ref 0), (2, .ref 9), (3, .ref 24), (4, .int (nI i))] [] (wC b ev un md tp ce pl wa (nI z) fl pr rf ro hr th (wM (nI z) tn ft bn fb us tk md ev tr mk fl rf pr kd wh ca pa he fi mb td nu nx rt [(24, .inl (1, 1, .inr (.inl ou)))])) := by
  have z1 : (pg_c 51).1 = 0 := rfl
  have z2 : (pg_c 51).2 = 0 := rfl
  have z3 : (pg_c 87).1 = 0 := rfl
  have z4 : (pg_c 87).2 = 0 := rfl
  refine mm_go (d := 20) 1 rfl trivial (mm_cvt rfl rfl rfl rfl (by rw [z1]; omega) (by rw [z2]; omega) ?_)
  rw [z1, z2]
  refine f_audit (d := 14) (fun K' hK' => ci_audit hp hC (fun wa th hC' => hK' wa th ?_))
  refine mm_go (d := 20) 1 rfl trivial (mm_cvt rfl rfl rfl rfl (by rw [z3]; omega) (by rw [z4]; omega) ?_)
  rw [z3, z4]
  refine m_audit (d := 19) ?_
  exact mm_one ⟨fun _ => (mm_wide (k1 + 4) (k2 + 24) (by omega) (by omega) (hnext _ (N) (by omega) ⟨_, _, _, _, _, _, _, _, _, _, _, _, _, _, _, _, _, _, _, _, _, _, _, _, _, _, _, _, _, _, _, _, _, _, _, _, _, rfl, hp, hf, hC', hM⟩)), fun c => absurd rfl c⟩
end
