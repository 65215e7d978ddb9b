section
variable {L i k1 k2 z N v : Nat} {xs : Nat → Int32} {b : Bool} {ev un md tp ce pl wa sz : Int32} {fl pr ro : Nat → Int32} {rf hr th : Nat → Int64}
variable {cl tn ft bn fb us tk ma nt tr mk : Int32} {mf mp kd wh ca pa he fi mb td nx rt : Nat → Int32} {mr nu ou : Nat → Int64} {kk bb : Int32} {lb : Int64}
variable {G : Gh} {R : Nat → Nat}
theorem op_get (hi : i + 5 ≤ L) (hL : L ≤ 2560) (hk1 : k1 + 4 ≤ 601024) (hk2 : k2 + 24 ≤ 7293034) (hN : N + 1 ≤ 512) (hp : Pw z pr) (hf : Fw z fl) (hC : CI z fl pr rf N G R tp ce pl ro hr th) (hM : MI z fl pr rf N G R tn ft bn fb us tk kd wh ca pa he fi nu nx rt) (hnext : ∀ w N', N' ≤ N + 1 → LI N' w → mm_wp 21 (some (L, xs)) true 100 lw_K (k1 + 4) (k2 + 24) 1093 [(0, .ref 99), (1, .ref 0), (2, .ref 9), (3, .ref 24), (4, .int (nI i))] [] w) : mm_wp 21 (some (L, xs)) true 100 lw_K k1 k2 695 [(0, .ref 99), (1, .ref 0), (2, .ref 9), (3, .ref 24), (4, .int (nI i))] [] (wC b ev un md tp ce pl wa (nI z) fl pr rf ro hr th (wM (nI z) tn ft bn fb us tk md ev tr mk fl rf pr kd wh ca pa he fi mb td nu nx rt [(24, .inl (1, 1, .inr (.inl ou)))])) := by
  refine b_get hi hL hk1 hk2 ?_
  rcases f_rootE (xs (i + 1)) with ⟨v, hv, h1⟩ | h1
  · rw [h1]
    rcases c_at hC hv with ⟨r0, ra, hh⟩ | ⟨r0, -, a, ra, ha0, ha, hh, hw, hct⟩
    · refine mm_go (d := 19) 5 rfl trivial (mm_one (f_getX (d := 15) (fun K' hK => f_numN hv ra (by decide) (by unfold hdOk; decide) hh (Int32.lt_or_le _ _) hK) ?_))
      refine mm_go (d := 19) 1 rfl trivial (mm_one ?_)
      refine n_get hi hL (by omega) (by omega) ?_
      rw [h1]
      have hm := (m_at hM hv).resolve_right (fun e => e.1 r0)
      refine m_getX (d := 17) (fun K' hK => m_thing0 hv hm.2 hK) ?_
      exact lt_get (by omega) (by omega) (.inl (by decide)) (mm_wide (k1 + 4) (k2 + 24) (by omega) (by omega) (hnext _ (N) (by omega) ⟨_, _, _, _, _, _, _, _, _, _, _, _, _, _, _, _, _, _, _, _, _, _, _, _, _, _, _, _, _, _, _, _, _, _, _, _, _, rfl, hp, hf, hC, hM⟩))
    · obtain ⟨-, q, B, rq, hMt, hMc, hmc, hmp, -, -⟩ := (m_at hM hv).resolve_left (fun e => r0 e.1)
      have hn : gn G (R v) ≤ 100000 := hw.1.2.2.2
      have hd := hw.1
      have hW1 : 1 ≤ hdW (gk G (R v)) (gn G (R v)) := gW_1 G (R v)
      have hk1' : gk G (R v) = 1 → gt G (R v) < 100 ∧ gn G (R v) ≤ 64 := fun e => by have := hw.2.2.2.1 e; have := hp.1; omega
      have hk5' : gk G (R v) = 5 → gn G (R v) ≤ 32 := fun e => by have := hw.2.2.2.2 e; omega
      rcases pk_ix (xs (i + 2)) (n := gn G (R v)) (by omega) with hy | hy | ⟨j, hj, h2⟩
      · refine mm_go (d := 19) 5 rfl trivial (mm_one (f_getX (d := 15) (fun K' hK => f_numN hv ra (by omega) hd hh (.inl hy) hK) ?_))
        refine mm_go (d := 19) 1 rfl trivial (mm_one ?_)
        refine n_get hi hL (by omega) (by omega) ?_
        rw [h1]
        refine m_getX (d := 17) (fun K' hK => m_thingN hv rq hMt (.inl hy) hK) ?_
        exact lt_get (by omega) (by omega) (.inl (by decide)) (mm_wide (k1 + 4) (k2 + 24) (by omega) (by omega) (hnext _ (N) (by omega) ⟨_, _, _, _, _, _, _, _, _, _, _, _, _, _, _, _, _, _, _, _, _, _, _, _, _, _, _, _, _, _, _, _, _, _, _, _, _, rfl, hp, hf, hC, hM⟩))
      · refine mm_go (d := 19) 5 rfl trivial (mm_one (f_getX (d := 15) (fun K' hK => f_numN hv ra (by omega) hd hh (.inr hy) hK) ?_))
        refine mm_go (d := 19) 1 rfl trivial (mm_one ?_)
        refine n_get hi hL (by omega) (by omega) ?_
        rw [h1]
        refine m_getX (d := 17) (fun K' hK => m_thingN hv rq hMt (.inr hy) hK) ?_
        exact lt_get (by omega) (by omega) (.inl (by decide)) (mm_wide (k1 + 4) (k2 + 24) (by omega) (by omega) (hnext _ (N) (by omega) ⟨_, _, _, _, _, _, _, _, _, _, _, _, _, _, _, _, _, _, _, _, _, _, _, _, _, _, _, _, _, _, _, _, _, _, _, _, _, rfl, hp, hf, hC, hM⟩))
      · rw [h2]
        by_cases hg : isrN rf (gk G (R v)) (gt G (R v)) j = 0
        · have hwd : wdN (gk G (R v)) j < gV G (R v) := wd_cw hj
          have hgw : gI rf G (R v) (wdN (gk G (R v)) j) = 0 := is_wd hg
          refine mm_go (d := 19) 5 rfl trivial (mm_one (f_get (d := 15) hv ra (by omega) hd hk1' hk5' hh hj ha hg ?_))
          rw [num_rd, hct _ hwd hgw]
          refine mm_go (d := 19) (w' := (wC b ev un md tp ce pl wa (nI z) fl pr rf ro hr th (wM (nI z) tn ft bn fb us tk md ev tr mk fl rf pr kd wh ca pa he fi mb td nu nx rt [(24, .inl (1, 1, .inr (.inl (vp_updL ou (0 : Int32).toNatClampNeg (rdL (gk G (R v)) j (gw G (R v) (wdN (gk G (R v)) j)))))))]))) 3 rfl ⟨(vp_in_nI (n := 0) (by decide) (by decide) : vp_in (nI 0) 1), trivial⟩ (mm_one ?_)
          refine n_get hi hL (by omega) (by omega) ?_
          rw [h1, h2]
          refine m_get (d := 17) hv rq hMt hMc hj hg ?_
          rw [hmc _ hwd hgw]
          exact lt_get (by omega) (by omega) (.inr rfl) (mm_wide (k1 + 4) (k2 + 24) (by omega) (by omega) (hnext _ (N) (by omega) ⟨_, _, _, _, _, _, _, _, _, _, _, _, _, _, _, _, _, _, _, _, _, _, _, _, _, _, _, _, _, _, _, _, _, _, _, _, _, rfl, hp, hf, hC, hM⟩))
        · refine mm_go (d := 19) 5 rfl trivial (mm_one (f_getX (d := 15) (fun K' hK => f_num hv ra (by omega) hd hk1' hk5' hh hj (fun _ => hK) (fun e => absurd e hg)) ?_))
          refine mm_go (d := 19) 1 rfl trivial (mm_one ?_)
          refine n_get hi hL (by omega) (by omega) ?_
          rw [h1, h2]
          refine m_getX (d := 17) (fun K' hK => m_thing (u := 0) hv rq hMt hj (by decide) (fun _ => hK) (fun e => absurd e hg)) ?_
          exact lt_get (by omega) (by omega) (.inl (by decide)) (mm_wide (k1 + 4) (k2 + 24) (by omega) (by omega) (hnext _ (N) (by omega) ⟨_, _, _, _, _, _, _, _, _, _, _, _, _, _, _, _, _, _, _, _, _, _, _, _, _, _, _, _, _, _, _, _, _, _, _, _, _, rfl, hp, hf, hC, hM⟩))
  · refine mm_go (d := 19) 5 rfl trivial (mm_one (f_getX (d := 15) (fun K' hK => f_numR h1 hK) ?_))
    refine mm_go (d := 19) 1 rfl trivial (mm_one ?_)
    refine n_get hi hL (by omega) (by omega) ?_
    refine m_getX (d := 17) (fun K' hK => m_thingR h1 hK) ?_
    exact lt_get (by omega) (by omega) (.inl (by decide)) (mm_wide (k1 + 4) (k2 + 24) (by omega) (by omega) (hnext _ (N) (by omega) ⟨_, _, _, _, _, _, _, _, _, _, _, _, _, _, _, _, _, _, _, _, _, _, _, _, _, _, _, _, _, _, _, _, _, _, _, _, _, rfl, hp, hf, hC, hM⟩))
theorem op_link (hi : i + 5 ≤ L) (hL : L ≤ 2560) (hk1 : k1 + 4 ≤ 601024) (hk2 : k2 + 24 ≤ 7293034) (hN : N + 1 ≤ 512) (hp : Pw z pr) (hf : Fw z fl) (hC : CI z fl pr rf N G R tp ce pl ro hr th) (hM : MI z fl pr rf N G R tn ft bn fb us tk kd wh ca pa he fi nu nx rt) (hnext : ∀ w N', N' ≤ N + 1 → LI N' w → mm_wp 21 (some (L, xs)) true 100 lw_K (k1 + 4) (k2 + 24) 1093 [(0, .ref 99), (1, .ref 0), (2, .ref 9), (3, .ref 24), (4, .int (nI i))] [] w) : mm_wp 21 (some (L, xs)) true 100 lw_K k1 k2 762 [(0, .ref 99), (1, .ref 0), (2, .ref 9), (3, .ref 24), (4, .int (nI i))] [] (wC b ev un md tp ce pl wa (nI z) fl pr rf ro hr th (wM (nI z) tn ft bn fb us tk md ev tr mk fl rf pr kd wh ca pa he fi mb td nu nx rt [(24, .inl (1, 1, .inr (.inl ou)))])) := by
  refine b_link hi hL hk1 hk2 ?_
  rcases f_rootE (xs (i + 1)) with ⟨v, hv, h1⟩ | h1
  · rw [h1]
    rcases c_at hC hv with ⟨r0, ra, hh⟩ | ⟨r0, -, a, ra, ha0, ha, hh, hw, hct⟩
    · refine mm_go (d := 19) 4 rfl trivial (mm_one (f_linkX (d := 15) (fun K' hK => f_refN hv ra (by decide) (by unfold hdOk; decide) hh (Int32.lt_or_le _ _) hK) ?_))
      refine mm_go (d := 19) 1 rfl trivial (mm_one ?_)
      refine n_link hi hL (by omega) (by omega) ?_
      have hm := (m_at hM hv).resolve_right (fun e => e.1 r0)
      rw [h1]
      rcases f_rootE (xs (i + 3)) with ⟨s, hs, h3⟩ | h3
      · rw [h3]
        refine m_linkX (d := 17) hs (fun K' hK => m_thing0 hv hm.2 hK) ?_
        exact lt_link (by omega) (by omega) (mm_wide (k1 + 4) (k2 + 24) (by omega) (by omega) (hnext _ (N) (by omega) ⟨_, _, _, _, _, _, _, _, _, _, _, _, _, _, _, _, _, _, _, _, _, _, _, _, _, _, _, _, _, _, _, _, _, _, _, _, _, rfl, hp, hf, hC, hM⟩))
      · refine m_linkS (d := 17) h3 ?_
        exact lt_link (by omega) (by omega) (mm_wide (k1 + 4) (k2 + 24) (by omega) (by omega) (hnext _ (N) (by omega) ⟨_, _, _, _, _, _, _, _, _, _, _, _, _, _, _, _, _, _, _, _, _, _, _, _, _, _, _, _, _, _, _, _, _, _, _, _, _, rfl, hp, hf, hC, hM⟩))
    · obtain ⟨-, q, B, rq, hMt, hMc, hmc, -, hml, hmf⟩ := (m_at hM hv).resolve_left (fun e => r0 e.1)
      have hn : gn G (R v) ≤ 100000 := hw.1.2.2.2
      have hd := hw.1
      have hW1 : 1 ≤ hdW (gk G (R v)) (gn G (R v)) := gW_1 G (R v)
      have hk1' : gk G (R v) = 1 → gt G (R v) < 100 ∧ gn G (R v) ≤ 64 := fun e => by have := hw.2.2.2.1 e; have := hp.1; omega
      have hk5' : gk G (R v) = 5 → gn G (R v) ≤ 32 := fun e => by have := hw.2.2.2.2 e; omega
      rcases pk_ix (xs (i + 2)) (n := gn G (R v)) (by omega) with hy | hy | ⟨j, hj, h2⟩
      · refine mm_go (d := 19) 4 rfl trivial (mm_one (f_linkX (d := 15) (fun K' hK => f_refN hv ra (by omega) hd hh (.inl hy) hK) ?_))
        refine mm_go (d := 19) 1 rfl trivial (mm_one ?_)
        refine n_link hi hL (by omega) (by omega) ?_
        rw [h1]
        rcases f_rootE (xs (i + 3)) with ⟨s, hs, h3⟩ | h3
        · rw [h3]
          refine m_linkX (d := 17) hs (fun K' hK => m_thingN hv rq hMt (.inl hy) hK) ?_
          exact lt_link (by omega) (by omega) (mm_wide (k1 + 4) (k2 + 24) (by omega) (by omega) (hnext _ (N) (by omega) ⟨_, _, _, _, _, _, _, _, _, _, _, _, _, _, _, _, _, _, _, _, _, _, _, _, _, _, _, _, _, _, _, _, _, _, _, _, _, rfl, hp, hf, hC, hM⟩))
        · refine m_linkS (d := 17) h3 ?_
          exact lt_link (by omega) (by omega) (mm_wide (k1 + 4) (k2 + 24) (by omega) (by omega) (hnext _ (N) (by omega) ⟨_, _, _, _, _, _, _, _, _, _, _, _, _, _, _, _, _, _, _, _, _, _, _, _, _, _, _, _, _, _, _, _, _, _, _, _, _, rfl, hp, hf, hC, hM⟩))
      · refine mm_go (d := 19) 4 rfl trivial (mm_one (f_linkX (d := 15) (fun K' hK => f_refN hv ra (by omega) hd hh (.inr hy) hK) ?_))
        refine mm_go (d := 19) 1 rfl trivial (mm_one ?_)
        refine n_link hi hL (by omega) (by omega) ?_
        rw [h1]
        rcases f_rootE (xs (i + 3)) with ⟨s, hs, h3⟩ | h3
        · rw [h3]
          refine m_linkX (d := 17) hs (fun K' hK => m_thingN hv rq hMt (.inr hy) hK) ?_
          exact lt_link (by omega) (by omega) (mm_wide (k1 + 4) (k2 + 24) (by omega) (by omega) (hnext _ (N) (by omega) ⟨_, _, _, _, _, _, _, _, _, _, _, _, _, _, _, _, _, _, _, _, _, _, _, _, _, _, _, _, _, _, _, _, _, _, _, _, _, rfl, hp, hf, hC, hM⟩))
        · refine m_linkS (d := 17) h3 ?_
          exact lt_link (by omega) (by omega) (mm_wide (k1 + 4) (k2 + 24) (by omega) (by omega) (hnext _ (N) (by omega) ⟨_, _, _, _, _, _, _, _, _, _, _, _, _, _, _, _, _, _, _, _, _, _, _, _, _, _, _, _, _, _, _, _, _, _, _, _, _, rfl, hp, hf, hC, hM⟩))
      · rw [h2]
        rcases f_rootE (xs (i + 3)) with ⟨s, hs, h3⟩ | h3
        · rw [h3]
          by_cases hg0 : isrN rf (gk G (R v)) (gt G (R v)) j = 0
          · refine mm_go (d := 19) 4 rfl trivial (mm_one (f_linkX (d := 15) (fun K' hK => f_ref hv ra (by omega) hd hk1' hk5' hh hj hs (fun _ => hK) (fun e => absurd hg0 e)) ?_))
            refine mm_go (d := 19) 1 rfl trivial (mm_one ?_)
            refine n_link hi hL (by omega) (by omega) ?_
            rw [h1, h2, h3]
            refine m_linkX (d := 17) hs (fun K' hK => m_thing (u := 1) hv rq hMt hj (by decide) (fun _ => hK) (fun e => absurd (hg0.symm.trans e) (by decide))) ?_
            exact lt_link (by omega) (by omega) (mm_wide (k1 + 4) (k2 + 24) (by omega) (by omega) (hnext _ (N) (by omega) ⟨_, _, _, _, _, _, _, _, _, _, _, _, _, _, _, _, _, _, _, _, _, _, _, _, _, _, _, _, _, _, _, _, _, _, _, _, _, rfl, hp, hf, hC, hM⟩))
          have hg : gI rf G (R v) j ≠ 0 := hg0
          have hg1 : isrN rf (gk G (R v)) (gt G (R v)) j = 1 := by have := isrN_2 rf (gk G (R v)) (gt G (R v)) j; omega
          have hk4 : ¬ gk G (R v) = 4 := fun e => by have := isr_t hg; omega
          have ewd : wdN (gk G (R v)) j = j := if_neg hk4
          have hwn : hdW (gk G (R v)) (gn G (R v)) = 1 + gn G (R v) := by
            unfold hdW
            rw [if_neg hk4]
          obtain ⟨us', hu2, hu⟩ := ci_ro hC hs
          refine mm_go (d := 19) 4 rfl trivial (mm_one (f_link (d := 15) hv ra (by omega) hd hk1' hk5' hh hj hs hu (by omega) (by omega) hg ?_))
          refine mm_go (d := 19) 2 rfl trivial (mm_one ?_)
          refine n_link hi hL (by omega) (by omega) ?_
          rw [h1, h2, h3]
          refine m_link (d := 17) hs hv rq hMt hMc hj hg1 ?_
          rw [ewd]
          exact lt_link (by omega) (by omega) (mm_wide (k1 + 4) (k2 + 24) (by omega) (by omega) (hnext _ (N) (by omega) ⟨_, _, _, _, _, _, _, _, _, _, _, _, _, _, _, _, _, _, _, _, _, _, _, _, _, _, _, _, _, _, _, _, _, _, _, _, _, rfl, hp, hf, ci_lnk hC hv r0 ra (by omega) hj hg hs hu hu2, hml _ _ hj hg hs⟩))
        · refine mm_go (d := 19) 4 rfl trivial (mm_one (f_linkX (d := 15) (fun K' hK => f_refS hv ra (by omega) hd hh hj h3 hK) ?_))
          refine mm_go (d := 19) 1 rfl trivial (mm_one ?_)
          refine n_link hi hL (by omega) (by omega) ?_
          refine m_linkS (d := 17) h3 ?_
          exact lt_link (by omega) (by omega) (mm_wide (k1 + 4) (k2 + 24) (by omega) (by omega) (hnext _ (N) (by omega) ⟨_, _, _, _, _, _, _, _, _, _, _, _, _, _, _, _, _, _, _, _, _, _, _, _, _, _, _, _, _, _, _, _, _, _, _, _, _, rfl, hp, hf, hC, hM⟩))
  · refine mm_go (d := 19) 4 rfl trivial (mm_one (f_linkX (d := 15) (fun K' hK => f_refR h1 hK) ?_))
    refine mm_go (d := 19) 1 rfl trivial (mm_one ?_)
    refine n_link hi hL (by omega) (by omega) ?_
    rcases f_rootE (xs (i + 3)) with ⟨s, hs, h3⟩ | h3
    · rw [h3]
      refine m_linkX (d := 17) hs (fun K' hK => m_thingR h1 hK) ?_
      exact lt_link (by omega) (by omega) (mm_wide (k1 + 4) (k2 + 24) (by omega) (by omega) (hnext _ (N) (by omega) ⟨_, _, _, _, _, _, _, _, _, _, _, _, _, _, _, _, _, _, _, _, _, _, _, _, _, _, _, _, _, _, _, _, _, _, _, _, _, rfl, hp, hf, hC, hM⟩))
    · refine m_linkS (d := 17) h3 ?_
      exact lt_link (by omega) (by omega) (mm_wide (k1 + 4) (k2 + 24) (by omega) (by omega) (hnext _ (N) (by omega) ⟨_, _, _, _, _, _, _, _, _, _, _, _, _, _, _, _, _, _, _, _, _, _, _, _, _, _, _, _, _, _, _, _, _, _, _, _, _, rfl, hp, hf, hC, hM⟩))
theorem op_follow (hi : i + 5 ≤ L) (hL : L ≤ 2560) (hk1 : k1 + 4 ≤ 601024) (hk2 : k2 + 24 ≤ 7293034) (hN : N + 1 ≤ 512) (hp : Pw z pr) (hf : Fw z fl) (hC : CI z fl pr rf N G R tp ce pl ro hr th) (hM : MI z fl pr rf N G R tn ft bn fb us tk kd wh ca pa he fi nu nx rt) (hnext : ∀ w N', N' ≤ N + 1 → LI N' w → mm_wp 21 (some (L, xs)) true 100 lw_K (k1 + 4) (k2 + 24) 1093 [(0, .ref 99), (1, .ref 0), (2, .ref 9), (3, .ref 24), (4, .int (nI i))] [] w) : mm_wp 21 (some (L, xs)) true 100 lw_K k1 k2 822 [(0, .ref 99), (1, .ref 0), (2, .ref 9), (3, .ref 24), (4, .int (nI i))] [] (wC b ev un md tp ce pl wa (nI z) fl pr rf ro hr th (wM (nI z) tn ft bn fb us tk md ev tr mk fl rf pr kd wh ca pa he fi mb td nu nx rt [(24, .inl (1, 1, .inr (.inl ou)))])) := by
  refine b_follow hi hL hk1 hk2 ?_
  rcases f_rootE (xs (i + 1)) with ⟨v, hv, h1⟩ | h1
  · rw [h1]
    rcases c_at hC hv with ⟨r0, ra, hh⟩ | ⟨r0, -, a, ra, ha0, ha, hh, hw, hct⟩
    · refine mm_go (d := 19) 4 rfl trivial (mm_one (f_followX (d := 15) (fun K' hK => f_refN hv ra (by decide) (by unfold hdOk; decide) hh (Int32.lt_or_le _ _) hK) ?_))
      refine mm_go (d := 19) 1 rfl trivial (mm_one ?_)
      refine n_follow hi hL (by omega) (by omega) ?_
      have hm := (m_at hM hv).resolve_right (fun e => e.1 r0)
      rw [h1]
      rcases f_rootE (xs (i + 3)) with ⟨s, hs, h3⟩ | h3
      · rw [h3]
        refine m_followX (d := 17) hs (fun K' hK => m_thing0 hv hm.2 hK) ?_
        exact lt_follow (by omega) (by omega) (mm_wide (k1 + 4) (k2 + 24) (by omega) (by omega) (hnext _ (N) (by omega) ⟨_, _, _, _, _, _, _, _, _, _, _, _, _, _, _, _, _, _, _, _, _, _, _, _, _, _, _, _, _, _, _, _, _, _, _, _, _, rfl, hp, hf, hC, hM⟩))
      · refine m_followS (d := 17) h3 ?_
        exact lt_follow (by omega) (by omega) (mm_wide (k1 + 4) (k2 + 24) (by omega) (by omega) (hnext _ (N) (by omega) ⟨_, _, _, _, _, _, _, _, _, _, _, _, _, _, _, _, _, _, _, _, _, _, _, _, _, _, _, _, _, _, _, _, _, _, _, _, _, rfl, hp, hf, hC, hM⟩))
    · obtain ⟨-, q, B, rq, hMt, hMc, hmc, -, hml, hmf⟩ := (m_at hM hv).resolve_left (fun e => r0 e.1)
      have hn : gn G (R v) ≤ 100000 := hw.1.2.2.2
      have hd := hw.1
      have hW1 : 1 ≤ hdW (gk G (R v)) (gn G (R v)) := gW_1 G (R v)
      have hk1' : gk G (R v) = 1 → gt G (R v) < 100 ∧ gn G (R v) ≤ 64 := fun e => by have := hw.2.2.2.1 e; have := hp.1; omega
      have hk5' : gk G (R v) = 5 → gn G (R v) ≤ 32 := fun e => by have := hw.2.2.2.2 e; omega
      rcases pk_ix (xs (i + 2)) (n := gn G (R v)) (by omega) with hy | hy | ⟨j, hj, h2⟩
      · refine mm_go (d := 19) 4 rfl trivial (mm_one (f_followX (d := 15) (fun K' hK => f_refN hv ra (by omega) hd hh (.inl hy) hK) ?_))
        refine mm_go (d := 19) 1 rfl trivial (mm_one ?_)
        refine n_follow hi hL (by omega) (by omega) ?_
        rw [h1]
        rcases f_rootE (xs (i + 3)) with ⟨s, hs, h3⟩ | h3
        · rw [h3]
          refine m_followX (d := 17) hs (fun K' hK => m_thingN hv rq hMt (.inl hy) hK) ?_
          exact lt_follow (by omega) (by omega) (mm_wide (k1 + 4) (k2 + 24) (by omega) (by omega) (hnext _ (N) (by omega) ⟨_, _, _, _, _, _, _, _, _, _, _, _, _, _, _, _, _, _, _, _, _, _, _, _, _, _, _, _, _, _, _, _, _, _, _, _, _, rfl, hp, hf, hC, hM⟩))
        · refine m_followS (d := 17) h3 ?_
          exact lt_follow (by omega) (by omega) (mm_wide (k1 + 4) (k2 + 24) (by omega) (by omega) (hnext _ (N) (by omega) ⟨_, _, _, _, _, _, _, _, _, _, _, _, _, _, _, _, _, _, _, _, _, _, _, _, _, _, _, _, _, _, _, _, _, _, _, _, _, rfl, hp, hf, hC, hM⟩))
      · refine mm_go (d := 19) 4 rfl trivial (mm_one (f_followX (d := 15) (fun K' hK => f_refN hv ra (by omega) hd hh (.inr hy) hK) ?_))
        refine mm_go (d := 19) 1 rfl trivial (mm_one ?_)
        refine n_follow hi hL (by omega) (by omega) ?_
        rw [h1]
        rcases f_rootE (xs (i + 3)) with ⟨s, hs, h3⟩ | h3
        · rw [h3]
          refine m_followX (d := 17) hs (fun K' hK => m_thingN hv rq hMt (.inr hy) hK) ?_
          exact lt_follow (by omega) (by omega) (mm_wide (k1 + 4) (k2 + 24) (by omega) (by omega) (hnext _ (N) (by omega) ⟨_, _, _, _, _, _, _, _, _, _, _, _, _, _, _, _, _, _, _, _, _, _, _, _, _, _, _, _, _, _, _, _, _, _, _, _, _, rfl, hp, hf, hC, hM⟩))
        · refine m_followS (d := 17) h3 ?_
          exact lt_follow (by omega) (by omega) (mm_wide (k1 + 4) (k2 + 24) (by omega) (by omega) (hnext _ (N) (by omega) ⟨_, _, _, _, _, _, _, _, _, _, _, _, _, _, _, _, _, _, _, _, _, _, _, _, _, _, _, _, _, _, _, _, _, _, _, _, _, rfl, hp, hf, hC, hM⟩))
      · rw [h2]
        rcases f_rootE (xs (i + 3)) with ⟨s, hs, h3⟩ | h3
        · rw [h3]
          by_cases hg0 : isrN rf (gk G (R v)) (gt G (R v)) j = 0
          · refine mm_go (d := 19) 4 rfl trivial (mm_one (f_followX (d := 15) (fun K' hK => f_ref hv ra (by omega) hd hk1' hk5' hh hj hs (fun _ => hK) (fun e => absurd hg0 e)) ?_))
            refine mm_go (d := 19) 1 rfl trivial (mm_one ?_)
            refine n_follow hi hL (by omega) (by omega) ?_
            rw [h1, h2, h3]
            refine m_followX (d := 17) hs (fun K' hK => m_thing (u := 1) hv rq hMt hj (by decide) (fun _ => hK) (fun e => absurd (hg0.symm.trans e) (by decide))) ?_
            exact lt_follow (by omega) (by omega) (mm_wide (k1 + 4) (k2 + 24) (by omega) (by omega) (hnext _ (N) (by omega) ⟨_, _, _, _, _, _, _, _, _, _, _, _, _, _, _, _, _, _, _, _, _, _, _, _, _, _, _, _, _, _, _, _, _, _, _, _, _, rfl, hp, hf, hC, hM⟩))
          have hg : gI rf G (R v) j ≠ 0 := hg0
          have hg1 : isrN rf (gk G (R v)) (gt G (R v)) j = 1 := by have := isrN_2 rf (gk G (R v)) (gt G (R v)) j; omega
          have hk4 : ¬ gk G (R v) = 4 := fun e => by have := isr_t hg; omega
          have ewd : wdN (gk G (R v)) j = j := if_neg hk4
          have hwn : hdW (gk G (R v)) (gn G (R v)) = 1 + gn G (R v) := by
            unfold hdW
            rw [if_neg hk4]
          obtain ⟨u, hu2, hu, hC'⟩ := ci_ref hC hv r0 ra (by omega) hj hg hs
          refine mm_go (d := 19) 4 rfl trivial (mm_one (f_follow (d := 15) hv ra (by omega) hd hk1' hk5' hh hj hs hu (by omega) hg ?_))
          refine mm_go (d := 19) 2 rfl trivial (mm_one ?_)
          refine n_follow hi hL (by omega) (by omega) ?_
          rw [h1, h2, h3]
          refine m_follow (d := 17) hs hv rq hMt hMc hj hg1 ?_
          rw [ewd]
          exact lt_follow (by omega) (by omega) (mm_wide (k1 + 4) (k2 + 24) (by omega) (by omega) (hnext _ (N) (by omega) ⟨_, _, _, _, _, _, _, _, _, _, _, _, _, _, _, _, _, _, _, _, _, _, _, _, _, _, _, _, _, _, _, _, _, _, _, _, _, rfl, hp, hf, hC', hmf _ _ hj hg⟩))
        · refine mm_go (d := 19) 4 rfl trivial (mm_one (f_followX (d := 15) (fun K' hK => f_refS hv ra (by omega) hd hh hj h3 hK) ?_))
          refine mm_go (d := 19) 1 rfl trivial (mm_one ?_)
          refine n_follow hi hL (by omega) (by omega) ?_
          refine m_followS (d := 17) h3 ?_
          exact lt_follow (by omega) (by omega) (mm_wide (k1 + 4) (k2 + 24) (by omega) (by omega) (hnext _ (N) (by omega) ⟨_, _, _, _, _, _, _, _, _, _, _, _, _, _, _, _, _, _, _, _, _, _, _, _, _, _, _, _, _, _, _, _, _, _, _, _, _, rfl, hp, hf, hC, hM⟩))
  · refine mm_go (d := 19) 4 rfl trivial (mm_one (f_followX (d := 15) (fun K' hK => f_refR h1 hK) ?_))
    refine mm_go (d := 19) 1 rfl trivial (mm_one ?_)
    refine n_follow hi hL (by omega) (by omega) ?_
    rcases f_rootE (xs (i + 3)) with ⟨s, hs, h3⟩ | h3
    · rw [h3]
      refine m_followX (d := 17) hs (fun K' hK => m_thingR h1 hK) ?_
      exact lt_follow (by omega) (by omega) (mm_wide (k1 + 4) (k2 + 24) (by omega) (by omega) (hnext _ (N) (by omega) ⟨_, _, _, _, _, _, _, _, _, _, _, _, _, _, _, _, _, _, _, _, _, _, _, _, _, _, _, _, _, _, _, _, _, _, _, _, _, rfl, hp, hf, hC, hM⟩))
    · refine m_followS (d := 17) h3 ?_
      exact lt_follow (by omega) (by omega) (mm_wide (k1 + 4) (k2 + 24) (by omega) (by omega) (hnext _ (N) (by omega) ⟨_, _, _, _, _, _, _, _, _, _, _, _, _, _, _, _, _, _, _, _, _, _, _, _, _, _, _, _, _, _, _, _, _, _, _, _, _, rfl, hp, hf, hC, hM⟩))
theorem op_hold (hi : i + 5 ≤ L) (hL : L ≤ 2560) (hk1 : k1 + 4 ≤ 601024) (hk2 : k2 + 24 ≤ 7293034) (hN : N + 1 ≤ 512) (hp : Pw z pr) (hf : Fw z fl) (hC : CI z fl pr rf N G R tp ce pl ro hr th) (hM : MI z fl pr rf N G R tn ft bn fb us tk kd wh ca pa he fi nu nx rt) (hnext : ∀ w N', N' ≤ N + 1 → LI N' w → mm_wp 21 (some (L, xs)) true 100 lw_K (k1 + 4) (k2 + 24) 1093 [(0, .ref 99), (1, .ref 0), (2, .ref 9), (3, .ref 24), (4, .int (nI i))] [] w) : mm_wp 21 (some (L, xs)) true 100 lw_K k1 k2 882 [(0, .ref 99), (1, .ref 0), (2, .ref 9), (3, .ref 24), (4, .int (nI i))] [] (wC b ev un md tp ce pl wa (nI z) fl pr rf ro hr th (wM (nI z) tn ft bn fb us tk md ev tr mk fl rf pr kd wh ca pa he fi mb td nu nx rt [(24, .inl (1, 1, .inr (.inl ou)))])) := by
  refine b_hold hi hL hk1 hk2 ?_
  rcases f_rootE (xs (i + 1)) with ⟨v, hv, h1⟩ | h1
  · rw [h1]
    by_cases hm1 : xs (i + 2) = -1
    · rw [hm1]
      refine mm_go (d := 19) 3 rfl trivial (mm_one (f_hold0 (d := 17) hv ?_))
      refine mm_go (d := 19) 2 rfl trivial (mm_one ?_)
      refine n_hold hi hL (by omega) (by omega) ?_
      rw [h1, hm1]
      refine m_hold0 (d := 18) hv ?_
      exact lt_hold (by omega) (by omega) (mm_wide (k1 + 4) (k2 + 24) (by omega) (by omega) (hnext _ (N) (by omega) ⟨_, _, _, _, _, _, _, _, _, _, _, _, _, _, _, _, _, _, _, _, _, _, _, _, _, _, _, _, _, _, _, _, _, _, _, _, _, rfl, hp, hf, ci_hold0 hC, mi_hold0 hM⟩))
    · rcases f_rootE (xs (i + 2)) with ⟨s, hs, h2⟩ | h2
      · rw [h2]
        refine mm_go (d := 19) 3 rfl trivial (mm_one (f_hold (d := 17) hv hs ?_))
        refine mm_go (d := 19) 2 rfl trivial (mm_one ?_)
        refine n_hold hi hL (by omega) (by omega) ?_
        rw [h1, h2]
        refine m_hold (d := 18) hv hs ?_
        exact lt_hold (by omega) (by omega) (mm_wide (k1 + 4) (k2 + 24) (by omega) (by omega) (hnext _ (N) (by omega) ⟨_, _, _, _, _, _, _, _, _, _, _, _, _, _, _, _, _, _, _, _, _, _, _, _, _, _, _, _, _, _, _, _, _, _, _, _, _, rfl, hp, hf, ci_hold hC hs, mi_hold hM hs⟩))
      · refine mm_go (d := 19) 3 rfl trivial (mm_one (f_holdS (d := 17) hv hm1 h2 ?_))
        refine mm_go (d := 19) 1 rfl trivial (mm_one ?_)
        refine n_hold hi hL (by omega) (by omega) ?_
        rw [h1]
        refine m_holdS (d := 18) hv hm1 h2 ?_
        exact lt_hold (by omega) (by omega) (mm_wide (k1 + 4) (k2 + 24) (by omega) (by omega) (hnext _ (N) (by omega) ⟨_, _, _, _, _, _, _, _, _, _, _, _, _, _, _, _, _, _, _, _, _, _, _, _, _, _, _, _, _, _, _, _, _, _, _, _, _, rfl, hp, hf, hC, hM⟩))
  · refine mm_go (d := 19) 3 rfl trivial (mm_one (f_holdR (d := 17) h1 ?_))
    refine mm_go (d := 19) 1 rfl trivial (mm_one ?_)
    refine n_hold hi hL (by omega) (by omega) ?_
    refine m_holdR (d := 18) h1 ?_
    exact lt_hold (by omega) (by omega) (mm_wide (k1 + 4) (k2 + 24) (by omega) (by omega) (hnext _ (N) (by omega) ⟨_, _, _, _, _, _, _, _, _, _, _, _, _, _, _, _, _, _, _, _, _, _, _, _, _, _, _, _, _, _, _, _, _, _, _, _, _, rfl, hp, hf, hC, hM⟩))
theorem op_every (hi : i + 5 ≤ L) (hL : L ≤ 2560) (hk1 : k1 + 4 ≤ 601024) (hk2 : k2 + 24 ≤ 7293034) (hN : N + 1 ≤ 512) (hp : Pw z pr) (hf : Fw z fl) (hC : CI z fl pr rf N G R tp ce pl ro hr th) (hM : MI z fl pr rf N G R tn ft bn fb us tk kd wh ca pa he fi nu nx rt) (hnext : ∀ w N', N' ≤ N + 1 → LI N' w → mm_wp 21 (some (L, xs)) true 100 lw_K (k1 + 4) (k2 + 24) 1093 [(0, .ref 99), (1, .ref 0), (2, .ref 9), (3, .ref 24), (4, .int (nI i))] [] w) : mm_wp 21 (some (L, xs)) true 100 lw_K k1 k2 1011 [(0, .ref 99), (1, .ref 0), (2, .ref 9), (3, .ref 24), (4, .int (nI i))] [] (wC b ev un md tp ce pl wa (nI z) fl pr rf ro hr th (wM (nI z) tn ft bn fb us tk md ev tr mk fl rf pr kd wh ca pa he fi mb td nu nx rt [(24, .inl (1, 1, .inr (.inl ou)))])) := by
  refine b_every hi hL hk1 hk2 ?_
  by_cases h1 : xs (i + 1) < 0
  · refine mm_go (d := 19) 4 rfl trivial (mm_one (f_everyN (d := 18) h1 ?_))
    refine mm_go (d := 19) 1 rfl trivial (mm_one ?_)
    refine n_every hi hL (by omega) (by omega) ?_
    refine m_everyN (d := 18) h1 ?_
    exact lt_every (by omega) (by omega) (.inl (by decide)) (mm_wide (k1 + 4) (k2 + 24) (by omega) (by omega) (hnext _ (N) (by omega) ⟨_, _, _, _, _, _, _, _, _, _, _, _, _, _, _, _, _, _, _, _, _, _, _, _, _, _, _, _, _, _, _, _, _, _, _, _, _, rfl, hp, hf, hC, hM⟩))
  · refine mm_go (d := 19) 4 rfl trivial (mm_one (f_everyY (d := 18) h1 ?_))
    refine mm_go (d := 19) (w' := (wC b (xs (i + 1)) (xs (i + 1)) md tp ce pl wa (nI z) fl pr rf ro hr th (wM (nI z) tn ft bn fb us tk md ev tr mk fl rf pr kd wh ca pa he fi mb td nu nx rt [(24, .inl (1, 1, .inr (.inl (vp_updL ou (0 : Int32).toNatClampNeg ev.toInt64))))]))) 4 rfl ⟨(vp_in_nI (n := 0) (by decide) (by decide) : vp_in (nI 0) 1), trivial⟩ (mm_one ?_)
    refine n_every hi hL (by omega) (by omega) ?_
    refine m_everyY (d := 18) h1 ?_
    exact lt_every (by omega) (by omega) (.inr rfl) (mm_wide (k1 + 4) (k2 + 24) (by omega) (by omega) (hnext _ (N) (by omega) ⟨_, _, _, _, _, _, _, _, _, _, _, _, _, _, _, _, _, _, _, _, _, _, _, _, _, _, _, _, _, _, _, _, _, _, _, _, _, rfl, hp, hf, hC, hM⟩))
end
