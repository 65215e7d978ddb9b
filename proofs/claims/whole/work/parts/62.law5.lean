section
variable {L i k1 k2 z N v : Nat} {xs : Nat → Int32} {b : Bool} {ev un md tp ce pl wa sz : Int32} {fl pr ro : Nat → Int32} {rf hr th : Nat → Int64}
variable {cl tn ft bn fb us tk ma nt tr mk : Int32} {mf mp kd wh ca pa he fi mb td nx rt : Nat → Int32} {mr nu ou : Nat → Int64} {kk bb : Int32} {lb : Int64}
variable {G : Gh} {R : Nat → Nat}
theorem is_wd {rf : Nat → Int64} {k t j : Nat} (h : isrN rf k t j = 0) : isrN rf k t (wdN k j) = 0 := by
  unfold wdN
  split
  · rename_i c
    subst c
    rfl
  · exact h
theorem op_put (hi : i + 5 ≤ L) (hL : L ≤ 2560) (hk1 : k1 + 4 ≤ 601024) (hk2 : k2 + 24 ≤ 7293034) (hN : N + 1 ≤ 512) (hp : Pw z pr) (hf : Fw z fl) (hC : CI z fl pr rf N G R tp ce pl ro hr th) (hM : MI z fl pr rf N G R tn ft bn fb us tk kd wh ca pa he fi nu nx rt) (hnext : ∀ w N', N' ≤ N + 1 → LI N' w → mm_wp 21 (some (L, xs)) true 100 lw_K (k1 + 4) (k2 + 24) 1093 [(0, .ref 99), (1, .ref 0), (2, .ref 9), (3, .ref 24), (4, .int (nI i))] [] w) : mm_wp 21 (some (L, xs)) true 100 lw_K k1 k2 584 [(0, .ref 99), (1, .ref 0), (2, .ref 9), (3, .ref 24), (4, .int (nI i))] [] (wC b ev un md tp ce pl wa (nI z) fl pr rf ro hr th (wM (nI z) tn ft bn fb us tk md ev tr mk fl rf pr kd wh ca pa he fi mb td nu nx rt [(24, .inl (1, 1, .inr (.inl ou)))])) := by
  refine b_put hi hL hk1 hk2 ?_
  rcases f_rootE (xs (i + 1)) with ⟨v, hv, h1⟩ | h1
  · rw [h1]
    rcases c_at hC hv with ⟨r0, ra, hh⟩ | ⟨r0, -, a, ra, ha0, ha, hh, hw, hct⟩
    · refine mm_go (d := 19) 6 rfl trivial (mm_one (f_putX (d := 15) (fun K' hK => f_numN hv ra (by decide) (by unfold hdOk; decide) hh (Int32.lt_or_le _ _) hK) ?_))
      refine mm_go (d := 19) 1 rfl trivial (mm_one ?_)
      refine n_put hi hL (by omega) (by omega) ?_
      rw [h1]
      have hm := (m_at hM hv).resolve_right (fun e => e.1 r0)
      refine m_putX (d := 17) (fun K' hK => m_thing0 hv hm.2 hK) ?_
      exact lt_put (by omega) (by omega) (.inl (by decide)) (mm_wide (k1 + 4) (k2 + 24) (by omega) (by omega) (hnext _ (N) (by omega) ⟨_, _, _, _, _, _, _, _, _, _, _, _, _, _, _, _, _, _, _, _, _, _, _, _, _, _, _, _, _, _, _, _, _, _, _, _, _, rfl, hp, hf, hC, hM⟩))
    · obtain ⟨-, q, B, rq, hMt, hMc, hmc, hmp, -, -⟩ := (m_at hM hv).resolve_left (fun e => r0 e.1)
      have hn : gn G (R v) ≤ 100000 := hw.1.2.2.2
      have hd := hw.1
      have hW1 : 1 ≤ hdW (gk G (R v)) (gn G (R v)) := gW_1 G (R v)
      have hk1' : gk G (R v) = 1 → gt G (R v) < 100 ∧ gn G (R v) ≤ 64 := fun e => by have := hw.2.2.2.1 e; have := hp.1; omega
      have hk5' : gk G (R v) = 5 → gn G (R v) ≤ 32 := fun e => by have := hw.2.2.2.2 e; omega
      rcases pk_ix (xs (i + 2)) (n := gn G (R v)) (by omega) with hy | hy | ⟨j, hj, h2⟩
      · refine mm_go (d := 19) 6 rfl trivial (mm_one (f_putX (d := 15) (fun K' hK => f_numN hv ra (by omega) hd hh (.inl hy) hK) ?_))
        refine mm_go (d := 19) 1 rfl trivial (mm_one ?_)
        refine n_put hi hL (by omega) (by omega) ?_
        rw [h1]
        refine m_putX (d := 17) (fun K' hK => m_thingN hv rq hMt (.inl hy) hK) ?_
        exact lt_put (by omega) (by omega) (.inl (by decide)) (mm_wide (k1 + 4) (k2 + 24) (by omega) (by omega) (hnext _ (N) (by omega) ⟨_, _, _, _, _, _, _, _, _, _, _, _, _, _, _, _, _, _, _, _, _, _, _, _, _, _, _, _, _, _, _, _, _, _, _, _, _, rfl, hp, hf, hC, hM⟩))
      · refine mm_go (d := 19) 6 rfl trivial (mm_one (f_putX (d := 15) (fun K' hK => f_numN hv ra (by omega) hd hh (.inr hy) hK) ?_))
        refine mm_go (d := 19) 1 rfl trivial (mm_one ?_)
        refine n_put hi hL (by omega) (by omega) ?_
        rw [h1]
        refine m_putX (d := 17) (fun K' hK => m_thingN hv rq hMt (.inr hy) hK) ?_
        exact lt_put (by omega) (by omega) (.inl (by decide)) (mm_wide (k1 + 4) (k2 + 24) (by omega) (by omega) (hnext _ (N) (by omega) ⟨_, _, _, _, _, _, _, _, _, _, _, _, _, _, _, _, _, _, _, _, _, _, _, _, _, _, _, _, _, _, _, _, _, _, _, _, _, rfl, hp, hf, hC, hM⟩))
      · rw [h2]
        by_cases hg : isrN rf (gk G (R v)) (gt G (R v)) j = 0
        · have hwd : wdN (gk G (R v)) j < gV G (R v) := wd_cw hj
          have hgw : gI rf G (R v) (wdN (gk G (R v)) j) = 0 := is_wd hg
          refine mm_go (d := 19) 6 rfl trivial (mm_one (f_put (d := 15) hv ra (by omega) hd hk1' hk5' hh hj ha hg ?_))
          rw [num_rd, set_st, hct _ hwd hgw]
          refine mm_go (d := 19) (w' := (wC b ev un md tp ce pl wa (nI z) fl pr rf ro (vp_updL hr (a + 1 + wdN (gk G (R v)) j) (stL (gk G (R v)) j (gw G (R v) (wdN (gk G (R v)) j)) ((xs (i + 3)).toInt64 <<< ((32 : Int32).toInt64 &&& 63) ||| (xs (i + 4)).toInt64 &&& 4294967295))) th (wM (nI z) tn ft bn fb us tk md ev tr mk fl rf pr kd wh ca pa he fi mb td nu nx rt [(24, .inl (1, 1, .inr (.inl (vp_updL ou (0 : Int32).toNatClampNeg (rdL (gk G (R v)) j (gw G (R v) (wdN (gk G (R v)) j)))))))]))) 3 rfl ⟨(vp_in_nI (n := 0) (by decide) (by decide) : vp_in (nI 0) 1), trivial⟩ (mm_one ?_)
          refine n_put hi hL (by omega) (by omega) ?_
          rw [h1, h2]
          refine m_put (d := 17) hv rq hMt hMc hj hg ?_
          rw [hmc _ hwd hgw]
          exact lt_put (by omega) (by omega) (.inr rfl) (mm_wide (k1 + 4) (k2 + 24) (by omega) (by omega) (hnext _ (N) (by omega) ⟨_, _, _, _, _, _, _, _, _, _, _, _, _, _, _, _, _, _, _, _, _, _, _, _, _, _, _, _, _, _, _, _, _, _, _, _, _, rfl, hp, hf, ci_put hC hv r0 ra (by omega) hwd hgw, hmp _ _ hwd hgw⟩))
        · refine mm_go (d := 19) 6 rfl trivial (mm_one (f_putX (d := 15) (fun K' hK => f_num hv ra (by omega) hd hk1' hk5' hh hj (fun _ => hK) (fun e => absurd e hg)) ?_))
          refine mm_go (d := 19) 1 rfl trivial (mm_one ?_)
          refine n_put hi hL (by omega) (by omega) ?_
          rw [h1, h2]
          refine m_putX (d := 17) (fun K' hK => m_thing (u := 0) hv rq hMt hj (by decide) (fun _ => hK) (fun e => absurd e hg)) ?_
          exact lt_put (by omega) (by omega) (.inl (by decide)) (mm_wide (k1 + 4) (k2 + 24) (by omega) (by omega) (hnext _ (N) (by omega) ⟨_, _, _, _, _, _, _, _, _, _, _, _, _, _, _, _, _, _, _, _, _, _, _, _, _, _, _, _, _, _, _, _, _, _, _, _, _, rfl, hp, hf, hC, hM⟩))
  · refine mm_go (d := 19) 6 rfl trivial (mm_one (f_putX (d := 15) (fun K' hK => f_numR h1 hK) ?_))
    refine mm_go (d := 19) 1 rfl trivial (mm_one ?_)
    refine n_put hi hL (by omega) (by omega) ?_
    refine m_putX (d := 17) (fun K' hK => m_thingR h1 hK) ?_
    exact lt_put (by omega) (by omega) (.inl (by decide)) (mm_wide (k1 + 4) (k2 + 24) (by omega) (by omega) (hnext _ (N) (by omega) ⟨_, _, _, _, _, _, _, _, _, _, _, _, _, _, _, _, _, _, _, _, _, _, _, _, _, _, _, _, _, _, _, _, _, _, _, _, _, rfl, hp, hf, hC, hM⟩))
end
