section
variable {L i k1 k2 z N v : Nat} {xs : Nat → Int32} {b : Bool} {ev un md tp ce pl wa sz : Int32} {fl pr ro : Nat → Int32} {rf hr th : Nat → Int64}
variable {cl tn ft bn fb us tk ma nt tr mk : Int32} {mf mp kd wh ca pa he fi mb td nx rt : Nat → Int32} {mr nu ou : Nat → Int64} {kk bb : Int32} {lb : Int64}
variable {G : Gh} {R : Nat → Nat}
theorem law_gt {L i : Nat} (hL : L ≤ 2560) (hi : i ≤ 2565) : Int32.ofNat L - 5 < nI i ↔ L < i + 5 := by
  have h := pk_sub_toInt (a := L) (b := 5) (by omega) (by omega)
  rw [show Int32.ofNat L - 5 = nI L - nI 5 from rfl, Int32.lt_iff_toInt_lt, h, nI_toInt (by omega)]
  omega
theorem law_loop (hL : L ≤ 2560) : ∀ (m j N k1 k2 : Nat) (w : mm_W), j + m = 513 → N ≤ j → k1 ≤ 1000 + 4 * j → k2 ≤ 2800000 + 24 * j → LI N w → mm_wp 21 (some (L, xs)) true 100 lw_K k1 k2 23 [(0, .ref 99), (1, .ref 0), (2, .ref 9), (3, .ref 24), (4, .int (nI (5 * j)))] [] w := by
  intro m
  induction m with
  | zero =>
    intro j N k1 k2 w hj hN h1 h2 hI
    obtain ⟨b, ev, un, md, tp, ce, pl, wa, z, fl, pr, rf, ro, hr, th, tn, ft, bn, fb, us, tk, tr, mk, kd, wh, ca, pa, he, fi, mb, td, nu, nx, rt, ou, G, R, rfl, -⟩ := hI
    refine mm_go (d := 20) 5 rfl trivial (mm_one ⟨fun _ => ?_, fun c => absurd ((law_gt hL (by omega)).mpr (by omega)) c⟩)
    exact mm_go (d := 20) 1 rfl trivial (mm_crt rfl (by omega) (by omega) ⟨rfl, rfl⟩)
  | succ m ih =>
    intro j N k1 k2 w hj hN h1 h2 hI
    obtain ⟨b, ev, un, md, tp, ce, pl, wa, z, fl, pr, rf, ro, hr, th, tn, ft, bn, fb, us, tk, tr, mk, kd, wh, ca, pa, he, fi, mb, td, nu, nx, rt, ou, G, R, rfl, hp, hf, hC, hM⟩ := hI
    refine mm_go (d := 20) 5 rfl trivial (mm_one ⟨fun _ => ?_, fun c => ?_⟩)
    · exact mm_go (d := 20) 1 rfl trivial (mm_crt rfl (by omega) (by omega) ⟨rfl, rfl⟩)
    have hi : 5 * j + 5 ≤ L := by
      have : ¬ L < 5 * j + 5 := fun e => c ((law_gt hL (by omega)).mpr e)
      omega
    have b0 : vp_in (nI (5 * j)) L := vp_in_nI (by omega) (by omega)
    have hnext : ∀ w N', N' ≤ N + 1 → LI N' w → mm_wp 21 (some (L, xs)) true 100 lw_K (k1 + 4) (k2 + 24) 1093 [(0, .ref 99), (1, .ref 0), (2, .ref 9), (3, .ref 24), (4, .int (nI (5 * j)))] [] w := by
      intro w N' hN' hI'
      refine mm_go (d := 20) (lv' := [(0, .ref 99), (1, .ref 0), (2, .ref 9), (3, .ref 24), (4, .int (nI (5 * j) + 5))]) 2 rfl trivial ?_
      rw [show (5 : Int32) = nI 5 from rfl, nI_add, show 5 * j + 5 = 5 * (j + 1) by omega]
      exact ih (j + 1) N' (k1 + 4) (k2 + 24) w (by omega) (by omega) (by omega) (by omega) hI'
    refine mm_go (d := 20) 5 rfl ⟨b0, trivial⟩ (mm_one ?_)
    refine ⟨fun _ => op_shape (by omega) hL (by omega) (by omega) (by omega) hp hf hC hM hnext, fun _ => ?_⟩
    refine ⟨fun _ => op_obj (by omega) hL (by omega) (by omega) (by omega) hp hf hC hM hnext, fun _ => ?_⟩
    refine ⟨fun _ => op_arr (by omega) hL (by omega) (by omega) (by omega) hp hf hC hM hnext, fun _ => ?_⟩
    refine ⟨fun _ => op_txt (by omega) hL (by omega) (by omega) (by omega) hp hf hC hM hnext, fun _ => ?_⟩
    refine ⟨fun _ => op_clo (by omega) hL (by omega) (by omega) (by omega) hp hf hC hM hnext, fun _ => ?_⟩
    refine ⟨fun _ => op_put (by omega) hL (by omega) (by omega) (by omega) hp hf hC hM hnext, fun _ => ?_⟩
    refine ⟨fun _ => op_get (by omega) hL (by omega) (by omega) (by omega) hp hf hC hM hnext, fun _ => ?_⟩
    refine ⟨fun _ => op_link (by omega) hL (by omega) (by omega) (by omega) hp hf hC hM hnext, fun _ => ?_⟩
    refine ⟨fun _ => op_follow (by omega) hL (by omega) (by omega) (by omega) hp hf hC hM hnext, fun _ => ?_⟩
    refine ⟨fun _ => op_hold (by omega) hL (by omega) (by omega) (by omega) hp hf hC hM hnext, fun _ => ?_⟩
    refine ⟨fun _ => op_told (by omega) hL (by omega) (by omega) (by omega) hp hf hC hM hnext, fun _ => ?_⟩
    refine ⟨fun _ => op_collect (by omega) hL (by omega) (by omega) (by omega) hp hf hC hM hnext, fun _ => ?_⟩
    refine ⟨fun _ => op_every (by omega) hL (by omega) (by omega) (by omega) hp hf hC hM hnext, fun _ => ?_⟩
    refine ⟨fun _ => op_made (by omega) hL (by omega) (by omega) (by omega) hp hf hC hM hnext, fun _ => ?_⟩
    refine ⟨fun _ => op_audit (by omega) hL (by omega) (by omega) (by omega) hp hf hC hM hnext, fun _ => ?_⟩
    exact mm_wide (k1 + 4) (k2 + 24) (by omega) (by omega) (hnext _ N (by omega) ⟨_, _, _, _, _, _, _, _, _, _, _, _, _, _, _, _, _, _, _, _, _, _, _, _, _, _, _, _, _, _, _, _, _, _, _, _, _, rfl, hp, hf, hC, hM⟩)
theorem lw_pure_ok : ∀ (L : Nat) (xs : Nat → Int32), L ≤ 2560 → mm_wp 21 (some (L, xs)) true 100 lw_K 0 0 0 [(0, .ref 99)] [] [] := by
  intro L xs hL
  refine mm_one ?_
  refine mm_go (d := 20) 1 rfl trivial (mm_one (h9_new ?_))
  refine mm_go (d := 20) 1 rfl trivial (mm_one ?_)
  refine mm_go (d := 20) 1 rfl trivial (mm_one (m_new (d := 19) ?_))
  refine mm_go (d := 20) 2 rfl trivial (mm_one ⟨rfl, ?_⟩)
  refine mm_go (d := 20) (lv' := [(0, .ref 99), (1, .ref 0), (2, .ref 9), (3, .ref 24), (4, .int (nI 0))]) (w' := (wC false 0 0 0 1 0 0 0 0 zI zI zL zI zL zL (wM 0 0 (-1) 0 (-1) 0 0 0 0 0 0 zI zL zI zI zI zI zI zI zI zI zI zL zI (zR 64) [(24, .inl (1, 1, .inr (.inl zL)))]))) 3 rfl trivial ?_
  refine mm_wide 1000 2800000 (by decide) (by decide) ?_
  exact law_loop (L := L) (xs := xs) hL 513 0 0 1000 2800000 _ rfl (Nat.le_refl 0) (Nat.le_refl _) (Nat.le_refl _) ⟨false, 0, 0, 0, 1, 0, 0, 0, 0, zI, zI, zL, zI, zL, zL, 0, -1, 0, -1, 0, 0, 0, 0, zI, zI, zI, zI, zI, zI, zI, zI, zL, zI, zR 64, zL, _, _, rfl, ⟨by decide, fun c hc => absurd hc (Nat.not_lt_zero _)⟩, fun c hc => absurd hc (Nat.not_lt_zero _), ci_0, mi_0⟩
end
