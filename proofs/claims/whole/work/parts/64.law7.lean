section
variable {d : Nat} {al : Bool} {K : mm_K} {w r : mm_W} {b : Bool} {ev un md tp ce pl wa sz : Int32} {fl pr ro : Nat → Int32} {rf hr th : Nat → Int64}
variable {cl tn ft bn fb us tk ma nt tr mk : Int32} {kd wh ca pa he fi mb td nx rt : Nat → Int32} {nu : Nat → Int64} {q k f t n i j v u s : Nat} {x y z o : Int32} {l : Int64} {B : Nat → Nat}
theorem s_make2 {zz N : Nat} {G : Gh} {R : Nat → Nat} {bits o x y : Int32} (hp : Pw zz pr) (h : MI zz fl pr rf N G R tn ft bn fb us tk kd wh ca pa he fi nu nx rt) (hN : N ≤ 512) (hw : Gw zz fl (gAdd G (N + 1) k f t n) (N + 1)) (hb : k = 5 → ∀ j, j < n → bits.toBitVec.toNat / 2 ^ j % 2 = t / 2 ^ j % 2)
    (eo : nI (if k = 1 then t else n) = o) (ex : cstI pr k f t n = x) (ey : nI (hdP k n) = y) :
    ∀ K' : mm_K, (∀ mb td us tk ft fb mk kd fi nx tn wh ca pa he bn nu ma', MN zz fl pr rf N G R rt ma k f t n mb td us tk ft fb mk kd fi nx tn wh ca pa he bn nu ma' → K' (.inl (some (.int (-1)))) (wC b ev un md tp ce pl wa sz fl pr rf ro hr th (wM cl tn ft bn fb us tk ma' nt tr mk fl rf pr kd wh ca pa he fi mb td nu nx rt r))) → (∀ mb td us tk ft fb mk kd fi nx tn wh ca pa he bn nu ma' q, MY zz fl pr rf N G R rt ma k f t n mb td us tk ft fb mk kd fi nx tn wh ca pa he bn nu ma' q → K' (.inl (some (.int (nI q)))) (wC b ev un md tp ce pl wa sz fl pr rf ro hr th (wM cl tn ft bn fb us tk ma' nt tr mk fl rf pr kd wh ca pa he fi mb td nu nx rt r))) →
      mm_cal (d + 5) al 70 [.ref 9, .int (nI k), .int o, .int x, .int y, .int bits] (wC b ev un md tp ce pl wa sz fl pr rf ro hr th (wM cl tn ft bn fb us tk ma nt tr mk fl rf pr kd wh ca pa he fi mb td nu nx rt r)) K' := by
  subst eo
  subst ex
  subst ey
  exact s_make hp h hN hw hb
end
section
variable {L i k1 k2 z N v : Nat} {xs : Nat → Int32} {b : Bool} {ev un md tp ce pl wa sz : Int32} {fl pr ro : Nat → Int32} {rf hr th : Nat → Int64}
variable {cl tn ft bn fb us tk ma nt tr mk : Int32} {mf mp kd wh ca pa he fi mb td nx rt : Nat → Int32} {mr nu ou : Nat → Int64} {kk bb : Int32} {lb : Int64}
variable {G : Gh} {R : Nat → Nat}
theorem gw_new {k f t n x : Nat} (h1 : hdOk k f t n) (h2 : 0 < k) (h3 : k < 6) (h4 : k = 1 → t < z ∧ n ≤ 64 ∧ fl t = nI n) (h5 : k = 5 → n ≤ 8) : Gw z fl (gAdd G x k f t n) x := by
  unfold Gw
  rw [gx_k, gx_f, gx_t, gx_n]
  exact ⟨h1, h2, h3, h4, h5⟩
theorem nhas {o : Int32} (hz : z ≤ 100) (h : ¬ hasB z o) : o < 0 ∨ nI z ≤ o := by
  by_cases c : o < 0
  · exact .inl c
  · exact .inr (Int32.not_lt.mp (fun e => h ⟨Int32.not_lt.mp c, e⟩))
theorem op_obj (hi : i + 5 ≤ L) (hL : L ≤ 2560) (hk1 : k1 + 4 ≤ 601024) (hk2 : k2 + 24 ≤ 7293034) (hN : N + 1 ≤ 512) (hp : Pw z pr) (hf : Fw z fl) (hC : CI z fl pr rf N G R tp ce pl ro hr th) (hM : MI z fl pr rf N G R tn ft bn fb us tk kd wh ca pa he fi nu nx rt) (hnext : ∀ w N', N' ≤ N + 1 → LI N' w → mm_wp 21 (some (L, xs)) true 100 lw_K (k1 + 4) (k2 + 24) 1093 [(0, .ref 99), (1, .ref 0), (2, .ref 9), (3, .ref 24), (4, .int (nI i))] [] w) : mm_wp 21 (some (L, xs)) true 100 lw_K k1 k2 204 [(0, .ref 99), (1, .ref 0), (2, .ref 9), (3, .ref 24), (4, .int (nI i))] [] (wC b ev un md tp ce pl wa (nI z) fl pr rf ro hr th (wM (nI z) tn ft bn fb us tk md ev tr mk fl rf pr kd wh ca pa he fi mb td nu nx rt [(24, .inl (1, 1, .inr (.inl ou)))])) := by
  refine b_obj hi hL hk1 hk2 (fun f hf2 hb => ?_)
  have hz := hp.1
  rcases f_rootE (xs (i + 1)) with ⟨v, hv, h1⟩ | h1
  · rw [h1]
    by_cases hB : hasB z (xs (i + 2))
    · obtain ⟨c, hc, h2⟩ := hasB_in hz hB
      obtain ⟨n, hn64, hn⟩ := hf c hc
      have ho : hdOk 1 f c n := ⟨by decide, hf2, by omega, by omega⟩
      have hw : Gw z fl (gAdd G (N + 1) 1 f c n) (N + 1) := gw_new ho (by decide) (by decide) (fun _ => ⟨hc, hn64, hn⟩) (fun e => absurd e (by decide))
      rw [h2]
      refine mm_go (d := 19) 6 rfl trivial (mm_one (f_obj (d := 12) hv hz hc hn ho (c_make hp hC hw) ?_ ?_))
      · rintro b un md' tp ce pl ro hr th ⟨rfl, hC', hno⟩
        refine mm_go (d := 19) 1 rfl trivial (mm_one ?_)
        refine n_obj hi hL (by omega) (by omega) hf2 hb ?_
        rw [h1, h2]
        refine m_obj (d := 14) hv hz hc hn hf2 (s_make hp hM (by omega) hw (fun e => absurd e (by decide))) ?_ ?_
        · rintro mb td us tk ft fb mk kd fi nx tn wh ca pa he bn nu ma ⟨rfl, hM', -⟩
          exact lt_obj (by omega) (by omega) (.inl (by decide)) (mm_wide (k1 + 4) (k2 + 24) (by omega) (by omega) (hnext _ (N) (by omega) ⟨_, _, _, _, _, _, _, _, _, _, _, _, _, _, _, _, _, _, _, _, _, _, _, _, _, _, _, _, _, _, _, _, _, _, _, _, _, rfl, hp, hf, hC', hM'⟩))
        · rintro mb td us tk ft fb mk kd fi nx tn wh ca pa he bn nu ma q hYm
          exact (fit_no hYm.2.2 hno).elim
      · rintro b un md' tp ce pl ro hr th a hYc
        obtain ⟨q1, q2, q3⟩ := cy_root (v := v) hYc
        have hmd := hYc.1
        have hfit := hYc.2.2
        subst hmd
        refine ⟨q1, q2, ?_⟩
        refine mm_go (d := 19) 4 rfl ⟨(vp_in_nI (n := 0) (by decide) (by decide) : vp_in (nI 0) 1), trivial⟩ (mm_one ?_)
        refine n_obj hi hL (by omega) (by omega) hf2 hb ?_
        rw [h1, h2]
        refine m_obj (d := 14) hv hz hc hn hf2 (s_make hp hM (by omega) hw (fun e => absurd e (by decide))) ?_ ?_
        · rintro mb td us tk ft fb mk kd fi nx tn wh ca pa he bn nu ma hNm
          exact (fit_no hfit hNm.2.2).elim
        · rintro mb td us tk ft fb mk kd fi nx tn wh ca pa he bn nu ma q hYm
          obtain ⟨m1, m2⟩ := my_root (v := v) hYm
          have hma := hYm.1
          subst hma
          exact ⟨m1, lt_obj (by omega) (by omega) (.inr rfl) (mm_wide (k1 + 4) (k2 + 24) (by omega) (by omega) (hnext _ (N + 1) (by omega) ⟨_, _, _, _, _, _, _, _, _, _, _, _, _, _, _, _, _, _, _, _, _, _, _, _, _, _, _, _, _, _, _, _, _, _, _, _, _, rfl, hp, hf, q3, m2⟩))⟩
    · refine mm_go (d := 19) 6 rfl trivial (mm_one (f_objC (d := 12) hv hB ?_))
      refine mm_go (d := 19) 1 rfl trivial (mm_one ?_)
      refine n_obj hi hL (by omega) (by omega) hf2 hb ?_
      rw [h1]
      refine m_objN (d := 18) hv (nhas hz hB) ?_
      exact lt_obj (by omega) (by omega) (.inl (by decide)) (mm_wide (k1 + 4) (k2 + 24) (by omega) (by omega) (hnext _ (N) (by omega) ⟨_, _, _, _, _, _, _, _, _, _, _, _, _, _, _, _, _, _, _, _, _, _, _, _, _, _, _, _, _, _, _, _, _, _, _, _, _, rfl, hp, hf, hC, hM⟩))
  · refine mm_go (d := 19) 6 rfl trivial (mm_one (f_objR (d := 12) h1 ?_))
    refine mm_go (d := 19) 1 rfl trivial (mm_one ?_)
    refine n_obj hi hL (by omega) (by omega) hf2 hb ?_
    refine m_objR (d := 18) h1 ?_
    exact lt_obj (by omega) (by omega) (.inl (by decide)) (mm_wide (k1 + 4) (k2 + 24) (by omega) (by omega) (hnext _ (N) (by omega) ⟨_, _, _, _, _, _, _, _, _, _, _, _, _, _, _, _, _, _, _, _, _, _, _, _, _, _, _, _, _, _, _, _, _, _, _, _, _, rfl, hp, hf, hC, hM⟩))
theorem op_txt (hi : i + 5 ≤ L) (hL : L ≤ 2560) (hk1 : k1 + 4 ≤ 601024) (hk2 : k2 + 24 ≤ 7293034) (hN : N + 1 ≤ 512) (hp : Pw z pr) (hf : Fw z fl) (hC : CI z fl pr rf N G R tp ce pl ro hr th) (hM : MI z fl pr rf N G R tn ft bn fb us tk kd wh ca pa he fi nu nx rt) (hnext : ∀ w N', N' ≤ N + 1 → LI N' w → mm_wp 21 (some (L, xs)) true 100 lw_K (k1 + 4) (k2 + 24) 1093 [(0, .ref 99), (1, .ref 0), (2, .ref 9), (3, .ref 24), (4, .int (nI i))] [] w) : mm_wp 21 (some (L, xs)) true 100 lw_K k1 k2 396 [(0, .ref 99), (1, .ref 0), (2, .ref 9), (3, .ref 24), (4, .int (nI i))] [] (wC b ev un md tp ce pl wa (nI z) fl pr rf ro hr th (wM (nI z) tn ft bn fb us tk md ev tr mk fl rf pr kd wh ca pa he fi mb td nu nx rt [(24, .inl (1, 1, .inr (.inl ou)))])) := by
  refine b_txt hi hL hk1 hk2 (fun f hf2 hb => ?_)
  rcases f_rootE (xs (i + 1)) with ⟨v, hv, h1⟩ | h1
  · rw [h1]
    rcases f_lenE (xs (i + 2)) with ⟨n, hn, h2⟩ | h2
    · have ho : hdOk 4 f 0 n := ⟨by decide, hf2, by decide, hn⟩
      have hw : Gw z fl (gAdd G (N + 1) 4 f 0 n) (N + 1) := gw_new ho (by decide) (by decide) (fun e => absurd e (by decide)) (fun e => absurd e (by decide))
      rw [h2]
      refine mm_go (d := 19) 6 rfl trivial (mm_one (f_txt (d := 12) hv ho (c_make hp hC hw) ?_ ?_))
      · rintro b un md' tp ce pl ro hr th ⟨rfl, hC', hno⟩
        refine mm_go (d := 19) 1 rfl trivial (mm_one ?_)
        refine n_txt hi hL (by omega) (by omega) hf2 hb ?_
        rw [h1, h2]
        refine m_txt (d := 14) hv hn hf2 (s_make hp hM (by omega) hw (fun e => absurd e (by decide))) ?_ ?_
        · rintro mb td us tk ft fb mk kd fi nx tn wh ca pa he bn nu ma ⟨rfl, hM', -⟩
          exact lt_txt (by omega) (by omega) (.inl (by decide)) (mm_wide (k1 + 4) (k2 + 24) (by omega) (by omega) (hnext _ (N) (by omega) ⟨_, _, _, _, _, _, _, _, _, _, _, _, _, _, _, _, _, _, _, _, _, _, _, _, _, _, _, _, _, _, _, _, _, _, _, _, _, rfl, hp, hf, hC', hM'⟩))
        · rintro mb td us tk ft fb mk kd fi nx tn wh ca pa he bn nu ma q hYm
          exact (fit_no hYm.2.2 hno).elim
      · rintro b un md' tp ce pl ro hr th a hYc
        obtain ⟨q1, q2, q3⟩ := cy_root (v := v) hYc
        have hmd := hYc.1
        have hfit := hYc.2.2
        subst hmd
        refine ⟨q1, q2, ?_⟩
        refine mm_go (d := 19) 4 rfl ⟨(vp_in_nI (n := 0) (by decide) (by decide) : vp_in (nI 0) 1), trivial⟩ (mm_one ?_)
        refine n_txt hi hL (by omega) (by omega) hf2 hb ?_
        rw [h1, h2]
        refine m_txt (d := 14) hv hn hf2 (s_make hp hM (by omega) hw (fun e => absurd e (by decide))) ?_ ?_
        · rintro mb td us tk ft fb mk kd fi nx tn wh ca pa he bn nu ma hNm
          exact (fit_no hfit hNm.2.2).elim
        · rintro mb td us tk ft fb mk kd fi nx tn wh ca pa he bn nu ma q hYm
          obtain ⟨m1, m2⟩ := my_root (v := v) hYm
          have hma := hYm.1
          subst hma
          exact ⟨m1, lt_txt (by omega) (by omega) (.inr rfl) (mm_wide (k1 + 4) (k2 + 24) (by omega) (by omega) (hnext _ (N + 1) (by omega) ⟨_, _, _, _, _, _, _, _, _, _, _, _, _, _, _, _, _, _, _, _, _, _, _, _, _, _, _, _, _, _, _, _, _, _, _, _, _, rfl, hp, hf, q3, m2⟩))⟩
    · refine mm_go (d := 19) 6 rfl trivial (mm_one (f_txtN (d := 12) hv h2 ?_))
      refine mm_go (d := 19) 1 rfl trivial (mm_one ?_)
      refine n_txt hi hL (by omega) (by omega) hf2 hb ?_
      rw [h1]
      refine m_txtN (d := 18) hv h2 ?_
      exact lt_txt (by omega) (by omega) (.inl (by decide)) (mm_wide (k1 + 4) (k2 + 24) (by omega) (by omega) (hnext _ (N) (by omega) ⟨_, _, _, _, _, _, _, _, _, _, _, _, _, _, _, _, _, _, _, _, _, _, _, _, _, _, _, _, _, _, _, _, _, _, _, _, _, rfl, hp, hf, hC, hM⟩))
  · refine mm_go (d := 19) 6 rfl trivial (mm_one (f_txtR (d := 12) h1 ?_))
    refine mm_go (d := 19) 1 rfl trivial (mm_one ?_)
    refine n_txt hi hL (by omega) (by omega) hf2 hb ?_
    refine m_txtR (d := 18) h1 ?_
    exact lt_txt (by omega) (by omega) (.inl (by decide)) (mm_wide (k1 + 4) (k2 + 24) (by omega) (by omega) (hnext _ (N) (by omega) ⟨_, _, _, _, _, _, _, _, _, _, _, _, _, _, _, _, _, _, _, _, _, _, _, _, _, _, _, _, _, _, _, _, _, _, _, _, _, rfl, hp, hf, hC, hM⟩))
theorem op_arr (hi : i + 5 ≤ L) (hL : L ≤ 2560) (hk1 : k1 + 4 ≤ 601024) (hk2 : k2 + 24 ≤ 7293034) (hN : N + 1 ≤ 512) (hp : Pw z pr) (hf : Fw z fl) (hC : CI z fl pr rf N G R tp ce pl ro hr th) (hM : MI z fl pr rf N G R tn ft bn fb us tk kd wh ca pa he fi nu nx rt) (hnext : ∀ w N', N' ≤ N + 1 → LI N' w → mm_wp 21 (some (L, xs)) true 100 lw_K (k1 + 4) (k2 + 24) 1093 [(0, .ref 99), (1, .ref 0), (2, .ref 9), (3, .ref 24), (4, .int (nI i))] [] w) : mm_wp 21 (some (L, xs)) true 100 lw_K k1 k2 300 [(0, .ref 99), (1, .ref 0), (2, .ref 9), (3, .ref 24), (4, .int (nI i))] [] (wC b ev un md tp ce pl wa (nI z) fl pr rf ro hr th (wM (nI z) tn ft bn fb us tk md ev tr mk fl rf pr kd wh ca pa he fi mb td nu nx rt [(24, .inl (1, 1, .inr (.inl ou)))])) := by
  refine b_arr hi hL hk1 hk2 (fun f hf2 hb => ?_)
  rcases f_rootE (xs (i + 1)) with ⟨v, hv, h1⟩ | h1
  · rw [h1]
    rcases f_lenE (xs (i + 2)) with ⟨n, hn, h2⟩ | h2
    · rw [h2]
      rcases (by omega : f = 0 ∨ f = 1) with rfl | rfl
      · have ho : hdOk 2 0 0 n := ⟨by decide, by decide, by decide, hn⟩
        have hw : Gw z fl (gAdd G (N + 1) 2 0 0 n) (N + 1) := gw_new ho (by decide) (by decide) (fun e => absurd e (by decide)) (fun e => absurd e (by decide))
        refine mm_go (d := 19) 6 rfl trivial (mm_one (f_arr0 (d := 12) hv ho (c_make hp hC hw) ?_ ?_))
        · rintro b un md' tp ce pl ro hr th ⟨rfl, hC', hno⟩
          refine mm_go (d := 19) 1 rfl trivial (mm_one ?_)
          refine n_arr hi hL (by omega) (by omega) hf2 hb ?_
          rw [h1, h2]
          refine m_arr0 (d := 14) hv hn (s_make2 hp hM (by omega) hw (fun e => absurd e (by decide)) rfl rfl (congrArg nI (show 1 + n + 1 = 2 + n by omega))) ?_ ?_
          · rintro mb td us tk ft fb mk kd fi nx tn wh ca pa he bn nu ma ⟨rfl, hM', -⟩
            exact lt_arr (by omega) (by omega) (.inl (by decide)) (mm_wide (k1 + 4) (k2 + 24) (by omega) (by omega) (hnext _ (N) (by omega) ⟨_, _, _, _, _, _, _, _, _, _, _, _, _, _, _, _, _, _, _, _, _, _, _, _, _, _, _, _, _, _, _, _, _, _, _, _, _, rfl, hp, hf, hC', hM'⟩))
          · rintro mb td us tk ft fb mk kd fi nx tn wh ca pa he bn nu ma q hYm
            exact (fit_no hYm.2.2 hno).elim
        · rintro b un md' tp ce pl ro hr th a hYc
          obtain ⟨q1, q2, q3⟩ := cy_root (v := v) hYc
          have hmd := hYc.1
          have hfit := hYc.2.2
          subst hmd
          refine ⟨q1, q2, ?_⟩
          refine mm_go (d := 19) 4 rfl ⟨(vp_in_nI (n := 0) (by decide) (by decide) : vp_in (nI 0) 1), trivial⟩ (mm_one ?_)
          refine n_arr hi hL (by omega) (by omega) hf2 hb ?_
          rw [h1, h2]
          refine m_arr0 (d := 14) hv hn (s_make2 hp hM (by omega) hw (fun e => absurd e (by decide)) rfl rfl (congrArg nI (show 1 + n + 1 = 2 + n by omega))) ?_ ?_
          · rintro mb td us tk ft fb mk kd fi nx tn wh ca pa he bn nu ma hNm
            exact (fit_no hfit hNm.2.2).elim
          · rintro mb td us tk ft fb mk kd fi nx tn wh ca pa he bn nu ma q hYm
            obtain ⟨m1, m2⟩ := my_root (v := v) hYm
            have hma := hYm.1
            subst hma
            exact ⟨m1, lt_arr (by omega) (by omega) (.inr rfl) (mm_wide (k1 + 4) (k2 + 24) (by omega) (by omega) (hnext _ (N + 1) (by omega) ⟨_, _, _, _, _, _, _, _, _, _, _, _, _, _, _, _, _, _, _, _, _, _, _, _, _, _, _, _, _, _, _, _, _, _, _, _, _, rfl, hp, hf, q3, m2⟩))⟩

      · have ho : hdOk 3 0 0 n := ⟨by decide, by decide, by decide, hn⟩
        have hw : Gw z fl (gAdd G (N + 1) 3 0 0 n) (N + 1) := gw_new ho (by decide) (by decide) (fun e => absurd e (by decide)) (fun e => absurd e (by decide))
        refine mm_go (d := 19) 6 rfl trivial (mm_one (f_arr1 (d := 12) hv ho (c_make hp hC hw) ?_ ?_))
        · rintro b un md' tp ce pl ro hr th ⟨rfl, hC', hno⟩
          refine mm_go (d := 19) 1 rfl trivial (mm_one ?_)
          refine n_arr hi hL (by omega) (by omega) hf2 hb ?_
          rw [h1, h2]
          refine m_arr1 (d := 14) hv hn (s_make2 hp hM (by omega) hw (fun e => absurd e (by decide)) rfl rfl (congrArg nI (show 1 + n + 1 = 2 + n by omega))) ?_ ?_
          · rintro mb td us tk ft fb mk kd fi nx tn wh ca pa he bn nu ma ⟨rfl, hM', -⟩
            exact lt_arr (by omega) (by omega) (.inl (by decide)) (mm_wide (k1 + 4) (k2 + 24) (by omega) (by omega) (hnext _ (N) (by omega) ⟨_, _, _, _, _, _, _, _, _, _, _, _, _, _, _, _, _, _, _, _, _, _, _, _, _, _, _, _, _, _, _, _, _, _, _, _, _, rfl, hp, hf, hC', hM'⟩))
          · rintro mb td us tk ft fb mk kd fi nx tn wh ca pa he bn nu ma q hYm
            exact (fit_no hYm.2.2 hno).elim
        · rintro b un md' tp ce pl ro hr th a hYc
          obtain ⟨q1, q2, q3⟩ := cy_root (v := v) hYc
          have hmd := hYc.1
          have hfit := hYc.2.2
          subst hmd
          refine ⟨q1, q2, ?_⟩
          refine mm_go (d := 19) 4 rfl ⟨(vp_in_nI (n := 0) (by decide) (by decide) : vp_in (nI 0) 1), trivial⟩ (mm_one ?_)
          refine n_arr hi hL (by omega) (by omega) hf2 hb ?_
          rw [h1, h2]
          refine m_arr1 (d := 14) hv hn (s_make2 hp hM (by omega) hw (fun e => absurd e (by decide)) rfl rfl (congrArg nI (show 1 + n + 1 = 2 + n by omega))) ?_ ?_
          · rintro mb td us tk ft fb mk kd fi nx tn wh ca pa he bn nu ma hNm
            exact (fit_no hfit hNm.2.2).elim
          · rintro mb td us tk ft fb mk kd fi nx tn wh ca pa he bn nu ma q hYm
            obtain ⟨m1, m2⟩ := my_root (v := v) hYm
            have hma := hYm.1
            subst hma
            exact ⟨m1, lt_arr (by omega) (by omega) (.inr rfl) (mm_wide (k1 + 4) (k2 + 24) (by omega) (by omega) (hnext _ (N + 1) (by omega) ⟨_, _, _, _, _, _, _, _, _, _, _, _, _, _, _, _, _, _, _, _, _, _, _, _, _, _, _, _, _, _, _, _, _, _, _, _, _, rfl, hp, hf, q3, m2⟩))⟩

    · refine mm_go (d := 19) 6 rfl trivial (mm_one (f_arrN (d := 12) hv h2 ?_))
      refine mm_go (d := 19) 1 rfl trivial (mm_one ?_)
      refine n_arr hi hL (by omega) (by omega) hf2 hb ?_
      rw [h1]
      refine m_arrN (d := 18) hv h2 ?_
      exact lt_arr (by omega) (by omega) (.inl (by decide)) (mm_wide (k1 + 4) (k2 + 24) (by omega) (by omega) (hnext _ (N) (by omega) ⟨_, _, _, _, _, _, _, _, _, _, _, _, _, _, _, _, _, _, _, _, _, _, _, _, _, _, _, _, _, _, _, _, _, _, _, _, _, rfl, hp, hf, hC, hM⟩))
  · refine mm_go (d := 19) 6 rfl trivial (mm_one (f_arrR (d := 12) h1 ?_))
    refine mm_go (d := 19) 1 rfl trivial (mm_one ?_)
    refine n_arr hi hL (by omega) (by omega) hf2 hb ?_
    refine m_arrR (d := 18) h1 ?_
    exact lt_arr (by omega) (by omega) (.inl (by decide)) (mm_wide (k1 + 4) (k2 + 24) (by omega) (by omega) (hnext _ (N) (by omega) ⟨_, _, _, _, _, _, _, _, _, _, _, _, _, _, _, _, _, _, _, _, _, _, _, _, _, _, _, _, _, _, _, _, _, _, _, _, _, rfl, hp, hf, hC, hM⟩))
end
