/-- the model's state -/
def Mb (z : Nat) (fl pr : Nat → Int32) (rf : Nat → Int64) (N : Nat) (G : Gh) (R : Nat → Nat) (tN bN : Nat) (lm : List Nat) (nm : Nat → Nat) (bl : Nat → List Nat) (fq fbl : List Nat) (tn ft bn fb us tk : Int32) (kd wh ca pa he fi : Nat → Int32) (nu : Nat → Int64) (nx rt : Nat → Int32) : Prop :=
  tn = nI tN ∧ bn = nI bN ∧ tN ≤ N ∧ Mm z fl pr rf G lm nm bl tN bN fq fbl ft fb kd wh ca pa he fi nu nx ∧ Cl rf G lm ∧ (∀ a, a ∈ lm → a ≤ N) ∧ sm (gC pr G) lm ≤ 100000 ∧ us = nI (sm (gC pr G) lm) ∧ tk = nI (sm (gP G) lm) ∧ ∀ r, r < 64 → (R r ≠ 0 → R r ∈ lm) ∧ rt r = Mn nm (R r)
def MI (z : Nat) (fl pr : Nat → Int32) (rf : Nat → Int64) (N : Nat) (G : Gh) (R : Nat → Nat) (tn ft bn fb us tk : Int32) (kd wh ca pa he fi : Nat → Int32) (nu : Nat → Int64) (nx rt : Nat → Int32) : Prop :=
  ∃ tN bN lm nm bl fq fbl, Mb z fl pr rf N G R tN bN lm nm bl fq fbl tn ft bn fb us tk kd wh ca pa he fi nu nx rt
section
variable {z : Nat} {fl pr : Nat → Int32} {rf : Nat → Int64} {G : Gh} {R : Nat → Nat} {lm : List Nat} {nm : Nat → Nat} {bl : Nat → List Nat} {tN bN : Nat} {fq fbl : List Nat} {ft fb : Int32} {kd wh ca pa he fi nx : Nat → Int32} {nu : Nat → Int64} {a b s q k f t n N x : Nat} {bits : Int32}
theorem mt_new (hw : Gw z fl (gAdd G x k f t n) x) (hz : z ≤ 100) (hb : k = 5 → ∀ j, j < n → bits.toBitVec.toNat / 2 ^ j % 2 = t / 2 ^ j % 2) (hq : q < 180100) :
    Mt fl pr rf (upd kd q (nI k)) (upd wh q (nI (if k = 1 then t else n))) (upd ca q (cstI pr k f t n)) (upd pa q (nI (hdP k n))) (upd he q bits) q k f t n := by
  unfold Gw at hw
  rw [gx_k, gx_f, gx_t, gx_n] at hw
  obtain ⟨h1, h2, h3, h4, h5⟩ := hw
  refine ⟨hq, h1, h2, h3, fun e => ?_, fun e => ⟨h5 e, fun j hj => ?_⟩, pk_us, pk_us, pk_us, pk_us⟩
  · obtain ⟨g1, g2, g3⟩ := h4 e
    exact ⟨by omega, g2, g3⟩
  · rw [pk_us]
    exact hb e j hj
theorem mt_old {q' : Nat} {v1 v2 v3 v4 v5 : Int32} (h : Mt fl pr rf kd wh ca pa he q' k f t n) (e : q' ≠ q) : Mt fl pr rf (upd kd q v1) (upd wh q v2) (upd ca q v3) (upd pa q v4) (upd he q v5) q' k f t n := by
  obtain ⟨h1, h2, h3, h4, h5, h6, h7, h8, h9, h10⟩ := h
  refine ⟨h1, h2, h3, h4, h5, fun g => ?_, by rw [pk_un e]; exact h7, by rw [pk_un e]; exact h8, by rw [pk_un e]; exact h9, by rw [pk_un e]; exact h10⟩
  rw [pk_un e]
  exact h6 g
/-- blocks are taken for a new thing -/
def Bt (bl : Nat → List Nat) (lm : List Nat) (g : Nat) (nx0 : Nat → Int32) (nu0 : Nat → Int64) (m : Nat) (e bn fb : Int32) (nx : Nat → Int32) (nu : Nat → Int64) : Prop :=
  ∃ bN fbl cb, bn = nI bN ∧ Chn nx e cb ∧ cb.length + m = g ∧ Chn nx fb fbl ∧ (fbl ++ (cb ++ fm bl lm)).Nodup ∧ (∀ p, p ∈ fbl ++ (cb ++ fm bl lm) → p < bN) ∧ (fbl ++ (cb ++ fm bl lm)).length = bN ∧ bN ≤ 180000 ∧
    (∀ p, p ∈ fm bl lm → nx p = nx0 p) ∧ (∀ p, p ∈ fm bl lm → ∀ j, j < 4 → nu (4 * p + j) = nu0 (4 * p + j)) ∧ ∀ p, p ∈ cb → ∀ j, j < 4 → nu (4 * p + j) = 0
theorem zer_o {g : Nat → Int64} {p p' j : Nat} (h : p' ≠ p) (hj : j < 4) : zer g (4 * p) (4 * p + 4) (4 * p' + j) = g (4 * p' + j) := by
  unfold zer
  rw [if_neg (by omega)]
theorem bt_step {g m : Nat} {nx0 nx : Nat → Int32} {nu0 nu : Nat → Int64} {e bn fb : Int32} (hg : g + (fm bl lm).length ≤ 180000) (h : Bt bl lm g nx0 nu0 (m + 1) e bn fb nx nu) :
    ∃ p fb' bn', Bk fb bn nx p fb' bn' ∧ Bt bl lm g nx0 nu0 m (nI p) bn' fb' (upd nx p e) (zer nu (4 * p) (4 * p + 4)) := by
  obtain ⟨bN, fbl, cb, rfl, h2, h3, h4, h5, h6, h7, h8, h9, h10, h11⟩ := h
  have common : ∀ p, p ∉ cb → p ∉ fm bl lm → Chn (upd nx p e) (nI p) (p :: cb) ∧ (∀ p', p' ∈ fm bl lm → upd nx p e p' = nx0 p') ∧ (∀ p', p' ∈ fm bl lm → ∀ j, j < 4 → zer nu (4 * p) (4 * p + 4) (4 * p' + j) = nu0 (4 * p' + j)) ∧ ∀ p', p' ∈ p :: cb → ∀ j, j < 4 → zer nu (4 * p) (4 * p + 4) (4 * p' + j) = 0 := fun p n1 n2 => by
    refine ⟨⟨rfl, ?_⟩, fun p' hp => ?_, fun p' hp j hj => ?_, fun p' hp j hj => ?_⟩
    · rw [pk_us]
      exact chn_ext h2 (fun p' hp => pk_un (fun e => n1 (e ▸ hp)))
    · rw [pk_un (fun e : p' = p => n2 (by rw [← e]; exact hp))]
      exact h9 p' hp
    · rw [zer_o (fun e : p' = p => n2 (by rw [← e]; exact hp)) hj]
      exact h10 p' hp j hj
    · by_cases c : p' = p
      · subst c
        unfold zer
        rw [if_pos (by omega)]
      · rw [zer_o c hj]
        exact h11 p' ((List.mem_cons.mp hp).resolve_left c) j hj
  cases fbl with
  | nil =>
    have h4 : fb = -1 := h4
    have h5 : (cb ++ fm bl lm).Nodup := h5
    have h6 : ∀ p, p ∈ cb ++ fm bl lm → p < bN := h6
    have h7 : (cb ++ fm bl lm).length = bN := h7
    rw [List.length_append] at h7
    have n0 : bN ∉ cb ++ fm bl lm := fun g => absurd (h6 _ g) (Nat.lt_irrefl _)
    obtain ⟨c1, c2, c3, c4⟩ := common bN (fun g => n0 (List.mem_append.mpr (.inl g))) (fun g => n0 (List.mem_append.mpr (.inr g)))
    refine ⟨bN, -1, nI (bN + 1), ⟨by omega, .inl ⟨h4, rfl, rfl, rfl⟩⟩, bN + 1, [], bN :: cb, rfl, c1, by simp; omega, rfl, List.nodup_cons.mpr ⟨n0, h5⟩, fun p hp => ?_, by simp; omega, by omega, c2, c3, c4⟩
    rcases List.mem_cons.mp hp with g | g
    · omega
    · have := h6 p g
      omega
  | cons p fbl =>
    have nd := List.nodup_cons.mp (show (p :: (fbl ++ (cb ++ fm bl lm))).Nodup from h5)
    obtain ⟨c1, c2, c3, c4⟩ := common p (fun g => nd.1 (by simp [g])) (fun g => nd.1 (by simp [g]))
    have hp := h6 p (by simp)
    have pm : (fbl ++ (p :: cb ++ fm bl lm)).Perm (p :: fbl ++ (cb ++ fm bl lm)) := List.perm_middle
    refine ⟨p, nx p, nI bN, ⟨by omega, .inr ⟨h4.1, rfl, rfl⟩⟩, bN, fbl, p :: cb, rfl, c1, by simp; omega, ?_, pm.nodup_iff.mpr h5, fun p' hp' => h6 p' (pm.mem_iff.mp hp'), pm.length_eq.trans h7, h8, c2, c3, c4⟩
    exact chn_ext h4.2 (fun p' hp' => pk_un (fun e : p' = p => nd.1 (by rw [← e]; simp [hp'])))
/-- with the new thing x at number q -/
theorem mm_add {ft' : Int32} {tN' bN' : Nat} {fq' fbl' cb : List Nat} {fb' e : Int32} {nx' : Nat → Int32} {nu' : Nat → Int64} (h : Mm z fl pr rf G lm nm bl tN bN fq fbl ft fb kd wh ca pa he fi nu nx) (hCl : Cl rf G lm) (hx : x ∉ lm) (hx0 : x ≠ 0) (hw : Gw z fl (gAdd G x k f t n) x)
    (hMt : Mt fl pr rf (upd kd q (nI k)) (upd wh q (nI (if k = 1 then t else n))) (upd ca q (cstI pr k f t n)) (upd pa q (nI (hdP k n))) (upd he q bits) q k f t n)
    (hq : (fq = [] ∧ q = tN ∧ tN' = tN + 1 ∧ ft' = -1 ∧ fq' = []) ∨ (fq = q :: fq' ∧ tN' = tN ∧ ft' = fi q))
    (hcb : cb.length = bkN k n) (hc1 : Chn nx' e cb) (hc2 : Chn nx' fb' fbl') (hn1 : (fbl' ++ (cb ++ fm bl lm)).Nodup) (hn2 : ∀ p, p ∈ fbl' ++ (cb ++ fm bl lm) → p < bN') (hn3 : (fbl' ++ (cb ++ fm bl lm)).length = bN') (hn4 : bN' ≤ 180000)
    (hf1 : ∀ p, p ∈ fm bl lm → nx' p = nx p) (hf2 : ∀ p, p ∈ fm bl lm → ∀ j, j < 4 → nu' (4 * p + j) = nu (4 * p + j)) (hf3 : ∀ p, p ∈ cb → ∀ j, j < 4 → nu' (4 * p + j) = 0) (hs : sm (gP G) lm + hdP k n ≤ 180000) :
    Mm z fl pr rf (gAdd G x k f t n) (lm ++ [x]) (fun y => if y = x then q else nm y) (fun y => if y = x then cb else bl y) tN' bN' fq' fbl' ft' fb' (upd kd q (nI k)) (upd wh q (nI (if k = 1 then t else n))) (upd ca q (cstI pr k f t n)) (upd pa q (nI (hdP k n))) (upd he q bits) (upd fi q e) nu' nx' := by
  have hnk := fun a (ha : a ∈ lm) => mm_nk h ha
  obtain ⟨m1, m2, m3, m4, m5, m6, m7, ⟨o1, o2, o3⟩, -, m10, -⟩ := h
  have ne : ∀ a, a ∈ lm → a ≠ x := fun a ha e => hx (e ▸ ha)
  have nq : ∀ a, a ∈ lm → nm a ≠ q := fun a ha e => by
    rcases hq with ⟨-, rfl, -⟩ | ⟨rfl, -, -⟩
    · have := (m3 a ha).1
      omega
    · exact hnk a ha (by rw [e]; exact (o2 q (by simp)).2)
  have tle : tN ≤ tN' := by
    rcases hq with ⟨-, -, e, -⟩ | ⟨-, e, -⟩ <;> omega
  have qlt : q < tN' := by
    rcases hq with ⟨-, rfl, e, -⟩ | ⟨rfl, rfl, -⟩
    · omega
    · exact (o2 q (by simp)).1
  have fmx : fm (fun y => if y = x then cb else bl y) (lm ++ [x]) = fm bl lm ++ cb := by
    rw [fm_app, fm_congr (bl := bl) (fun a ha => if_neg (ne a ha))]
    show fm bl lm ++ ((if x = x then cb else bl x) ++ []) = _
    rw [if_pos rfl, List.append_nil]
  have pm : (fbl' ++ (fm bl lm ++ cb)).Perm (fbl' ++ (cb ++ fm bl lm)) := List.perm_append_comm.append_left fbl'
  refine ⟨nd_one m1 hx, fun a ha => ?_, fun a ha => ?_, fun a ha b hb e => ?_, fun q2 hq2 g => ?_, fun a ha => ?_, fun a ha u hu => ?_, ⟨?_, fun q2 hq2 => ?_, ?_⟩, ?_, ?_, hn4⟩
  · rcases List.mem_append.mp ha with g | g
    · exact ⟨(m2 a g).1, ga_Gw (ne a g) (m2 a g).2⟩
    · rw [List.mem_singleton.mp g]
      exact ⟨hx0, hw⟩
  · show (if a = x then q else nm a) < tN' ∧ Mt _ _ _ _ _ _ _ _ (if a = x then q else nm a) _ _ _ _
    rcases List.mem_append.mp ha with g | g
    · rw [if_neg (ne a g), ga_k (ne a g), ga_f (ne a g), ga_t (ne a g), ga_n (ne a g)]
      obtain ⟨g1, g2⟩ := m3 a g
      exact ⟨by omega, mt_old g2 (nq a g)⟩
    · rw [List.mem_singleton.mp g, if_pos rfl, gx_k, gx_f, gx_t, gx_n]
      exact ⟨qlt, hMt⟩
  · have e : (if a = x then q else nm a) = (if b = x then q else nm b) := e
    by_cases ca : a = x
    · by_cases cb : b = x
      · rw [ca, cb]
      · rw [if_pos ca, if_neg cb] at e
        exact absurd e.symm (nq b ((List.mem_append.mp hb).resolve_right (fun g => cb (List.mem_singleton.mp g))))
    · have al := (List.mem_append.mp ha).resolve_right (fun g => ca (List.mem_singleton.mp g))
      by_cases cb : b = x
      · rw [if_neg ca, if_pos cb] at e
        exact absurd e (nq a al)
      · rw [if_neg ca, if_neg cb] at e
        exact m4 a al b ((List.mem_append.mp hb).resolve_right (fun g => cb (List.mem_singleton.mp g))) e
  · by_cases c : q2 = q
    · exact ⟨x, by simp, by show (if x = x then q else nm x) = q2; rw [if_pos rfl, c]⟩
    · rw [pk_un c] at g
      obtain ⟨a, ha, e⟩ := m5 q2 (by rcases hq with ⟨-, e1, e2, -⟩ | ⟨-, e2, -⟩ <;> omega) g
      exact ⟨a, List.mem_append.mpr (.inl ha), by show (if a = x then q else nm a) = q2; rw [if_neg (ne a ha), e]⟩
  · show (if a = x then cb else bl a).length = _ ∧ Chn nx' (upd fi q e (if a = x then q else nm a)) (if a = x then cb else bl a)
    rcases List.mem_append.mp ha with g | g
    · rw [if_neg (ne a g), if_neg (ne a g), pk_un (nq a g)]
      obtain ⟨g1, g2⟩ := m6 a g
      refine ⟨?_, chn_ext g2 (fun p hp => hf1 p (fm_mem g hp))⟩
      rw [g1]
      unfold gB
      rw [ga_k (ne a g), ga_n (ne a g)]
    · rw [List.mem_singleton.mp g, if_pos rfl, if_pos rfl, pk_us]
      refine ⟨?_, hc1⟩
      rw [hcb]
      unfold gB
      rw [gx_k, gx_n]
  · show nu' (4 * (if a = x then cb else bl a).getD (u / 4) 0 + u % 4) = vm rf (gAdd G x k f t n) (fun y => if y = x then q else nm y) a u
    rcases List.mem_append.mp ha with g | g
    · rw [if_neg (ne a g)]
      rw [ga_V (ne a g)] at hu
      have l1 := (m6 a g).1
      have hub := gB_V hu
      rw [hf2 _ (fm_mem g (getD_mem (by omega))) _ (by omega), m7 a g u hu]
      unfold vm
      rw [ga_I (ne a g), ga_w (ne a g), ga_r (ne a g)]
      split
      · rfl
      · rename_i c
        unfold mr1
        by_cases c0 : gr G a u = 0
        · rw [if_pos c0, if_pos c0]
        · rw [if_neg c0, if_neg c0]
          show lN (nm (gr G a u) + 1) = lN ((if gr G a u = x then q else nm (gr G a u)) + 1)
          rw [if_neg (ne _ (hCl a g u (by rw [gI_V c] at hu; exact hu) c c0))]
    · rw [List.mem_singleton.mp g]
      rw [List.mem_singleton.mp g] at hu
      rw [if_pos rfl]
      have hu2 : u < cwN k n := by
        unfold gV at hu
        rw [gx_k, gx_n] at hu
        exact hu
      have hb2 : u / 4 < cb.length := by
        rw [hcb, bk_cw]
        omega
      rw [hf3 _ (getD_mem hb2) _ (by omega)]
      unfold vm
      rw [gx_w, gx_r]
      split <;> rfl
  · rcases hq with ⟨-, -, -, -, rfl⟩ | ⟨rfl, -, -⟩
    · exact List.nodup_nil
    · exact (List.nodup_cons.mp o1).2
  · rcases hq with ⟨-, -, -, -, rfl⟩ | ⟨rfl, rfl, -⟩
    · exact absurd hq2 List.not_mem_nil
    · rw [pk_un (fun e : q2 = q => (List.nodup_cons.mp o1).1 (by rw [← e]; exact hq2))]
      exact o2 q2 (List.mem_cons_of_mem _ hq2)
  · rcases hq with ⟨-, -, -, rfl, rfl⟩ | ⟨rfl, -, rfl⟩
    · rfl
    · exact chn_ext o3.2 (fun p hp => pk_un (fun e : p = q => (List.nodup_cons.mp o1).1 (by rw [← e]; exact hp)))
  · rw [fmx]
    exact ⟨pm.nodup_iff.mpr hn1, fun p hp => hn2 p (pm.mem_iff.mp hp), pm.length_eq.trans hn3, hc2⟩
  · rw [sm_one, sm_congr (g := gP G) (fun a ha => ga_P (ne a ha))]
    have : gP (gAdd G x k f t n) x = hdP k n := by unfold gP; rw [gx_k, gx_n]
    omega
end
/-- make of the model: refused, or made as number q -/
def MN (z : Nat) (fl pr : Nat → Int32) (rf : Nat → Int64) (N : Nat) (G : Gh) (R : Nat → Nat) (rt : Nat → Int32) (ma0 : Int32) (k f t n : Nat) (mb td : Nat → Int32) (us tk ft fb mk : Int32) (kd fi nx : Nat → Int32) (tn : Int32) (wh ca pa he : Nat → Int32) (bn : Int32) (nu : Nat → Int64) (ma : Int32) : Prop :=
  ma = ma0 ∧ MI z fl pr rf N G R tn ft bn fb us tk kd wh ca pa he fi nu nx rt ∧ NoFit rf pr G R (gC pr (gAdd G (N + 1) k f t n) (N + 1)) (hdP k n)
def MY (z : Nat) (fl pr : Nat → Int32) (rf : Nat → Int64) (N : Nat) (G : Gh) (R : Nat → Nat) (rt : Nat → Int32) (ma0 : Int32) (k f t n : Nat) (mb td : Nat → Int32) (us tk ft fb mk : Int32) (kd fi nx : Nat → Int32) (tn : Int32) (wh ca pa he : Nat → Int32) (bn : Int32) (nu : Nat → Int64) (ma : Int32) (q : Nat) : Prop :=
  ma = ma0 + cstI pr k f t n ∧ (∃ tN bN lm nm bl fq fbl, Mb z fl pr rf (N + 1) (gAdd G (N + 1) k f t n) R tN bN lm nm bl fq fbl tn ft bn fb us tk kd wh ca pa he fi nu nx rt ∧ N + 1 ∈ lm ∧ nm (N + 1) = q) ∧ Fit rf pr G R (gC pr (gAdd G (N + 1) k f t n) (N + 1)) (hdP k n)
section
variable {d : Nat} {al : Bool} {K : mm_K} {w r : mm_W} {b : Bool} {ev un md tp ce pl wa sz : Int32} {fl pr ro : Nat → Int32} {rf hr th : Nat → Int64}
variable {cl tn ft bn fb us tk ma nt tr mk : Int32} {kd wh ca pa he fi mb td nx rt : Nat → Int32} {nu : Nat → Int64} {q k f t n i j v u s : Nat} {x y z o : Int32} {l : Int64} {B : Nat → Nat}
theorem s_make {zz N : Nat} {G : Gh} {R : Nat → Nat} {bits : Int32} (hp : Pw zz pr) (h : MI zz fl pr rf N G R tn ft bn fb us tk kd wh ca pa he fi nu nx rt) (hN : N ≤ 512) (hw : Gw zz fl (gAdd G (N + 1) k f t n) (N + 1)) (hb : k = 5 → ∀ j, j < n → bits.toBitVec.toNat / 2 ^ j % 2 = t / 2 ^ j % 2) :
    ∀ K' : mm_K, (∀ mb td us tk ft fb mk kd fi nx tn wh ca pa he bn nu ma', MN zz fl pr rf N G R rt ma k f t n mb td us tk ft fb mk kd fi nx tn wh ca pa he bn nu ma' → K' (.inl (some (.int (-1)))) (wC b ev un md tp ce pl wa sz fl pr rf ro hr th (wM cl tn ft bn fb us tk ma' nt tr mk fl rf pr kd wh ca pa he fi mb td nu nx rt r))) → (∀ mb td us tk ft fb mk kd fi nx tn wh ca pa he bn nu ma' q, MY zz fl pr rf N G R rt ma k f t n mb td us tk ft fb mk kd fi nx tn wh ca pa he bn nu ma' q → K' (.inl (some (.int (nI q)))) (wC b ev un md tp ce pl wa sz fl pr rf ro hr th (wM cl tn ft bn fb us tk ma' nt tr mk fl rf pr kd wh ca pa he fi mb td nu nx rt r))) →
      mm_cal (d + 5) al 70 [.ref 9, .int (nI k), .int (nI (if k = 1 then t else n)), .int (cstI pr k f t n), .int (nI (hdP k n)), .int bits] (wC b ev un md tp ce pl wa sz fl pr rf ro hr th (wM cl tn ft bn fb us tk ma nt tr mk fl rf pr kd wh ca pa he fi mb td nu nx rt r)) K' := by
  intro K' kN kY
  obtain ⟨tN, bN, lm, nm, bl, fq, fbl, rfl, rfl, htN, hM, hCl, hlN, hsC, rfl, rfl, hR⟩ := h
  have hw2 := hw
  have hcI := gC_I hp hw
  unfold Gw at hw2
  rw [gx_k, gx_f, gx_t, gx_n] at hw2 hcI
  obtain ⟨ho, -, hk6, h1, -⟩ := hw2
  generalize hcg : gC pr (gAdd G (N + 1) k f t n) (N + 1) = c at hcI
  have hP2 : hdP k n ≤ 100002 := by
    have := ho.2.2.2
    unfold hdP hdW
    split <;> split <;> omega
  have hBP : bkN k n ≤ hdP k n := by
    unfold bkN hdP hdW
    split <;> split <;> (try split) <;> omega
  have key : ∀ {l : List Nat}, sm (gC pr G) l ≤ 100000 → sm (gP G) l ≤ 180000 → (nI (sm (gC pr G) l) + cstI pr k f t n ≤ 100000 ∧ nI (sm (gP G) l) + nI (hdP k n) ≤ 180000 ↔ sm (gC pr G) l + c ≤ 100000 ∧ sm (gP G) l + hdP k n ≤ 180000) := fun g1 g2 => by
    rw [hcI.1, nI_add, nI_add]
    rw [show (100000 : Int32) = nI 100000 from rfl, show (180000 : Int32) = nI 180000 from rfl, nI_leI (by omega) (by decide), nI_leI (by omega) (by decide)]
  refine m_make (P := fun mb td us tk ft fb mk kd fi nx => ∃ lm fq fbl, Mm zz fl pr rf G lm nm bl tN bN fq fbl ft fb kd wh ca pa he fi nu nx ∧ Cl rf G lm ∧ (∀ a, a ∈ lm → a ≤ N) ∧ sm (gC pr G) lm ≤ 100000 ∧ us = nI (sm (gC pr G) lm) ∧ tk = nI (sm (gP G) lm) ∧ (∀ r, r < 64 → (R r ≠ 0 → R r ∈ lm) ∧ rt r = Mn nm (R r)) ∧ ((us + cstI pr k f t n ≤ 100000 ∧ tk + nI (hdP k n) ≤ 180000) ∨ ∀ a, a ∈ lm → Rc rf G R a)) hk6 ?_ ?_ ?_ ?_
  · intro _ K2 hK2
    refine s_sweep hp hM hCl hR (by omega) (fun lm' fq fbl mb td us tk ft fb mk kd fi nx hM' hrc e1 e2 => hK2 mb td us tk ft fb mk kd fi nx ⟨lm', fq, fbl, hM', ?_, ?_, ?_, e1, e2, ?_, .inr (fun a ha => (hrc a).mp ha)⟩)
    · exact fun a ha i hi g1 g2 => (hrc _).mpr (rc_step ((hrc a).mp ha) hi g1 g2)
    · exact fun a ha => hlN a (rc_in (fun r hr => (hR r hr).1) hCl ((hrc a).mp ha))
    · exact Nat.le_trans (sm_sub _ _ _ hM'.1 (fun a ha => rc_in (fun r hr => (hR r hr).1) hCl ((hrc a).mp ha))) hsC
    · exact fun r hr => ⟨fun g => (hrc _).mpr (rc_root hr g), (hR r hr).2⟩
  · intro g1 g2
    exact ⟨lm, fq, fbl, hM, hCl, hlN, hsC, rfl, rfl, hR, .inl ⟨g1, g2⟩⟩
  · rintro mb td us tk ft fb mk kd fi nx ⟨lm, fq, fbl, hM, hCl, hlN, hsC, rfl, rfl, hR, hor⟩ hno
    have hsP := hM.2.2.2.2.2.2.2.2.2.1
    refine kN mb td _ _ ft fb mk kd fi nx _ wh ca pa he _ nu ma ⟨rfl, ⟨tN, bN, lm, nm, bl, fq, fbl, rfl, rfl, htN, hM, hCl, hlN, hsC, rfl, rfl, hR⟩, lm, hM.1, hor.resolve_left hno, fun e => hno ((key hsC hsP).mpr ?_)⟩
    rw [hcg] at e
    exact e
  · rintro mb td us tk ft fb mk kd fi nx ⟨lm, fq, fbl, hM, hCl, hlN, hsC, rfl, rfl, hR, hor⟩ g1 g2
    have hsP := hM.2.2.2.2.2.2.2.2.2.1
    obtain ⟨s1, s2⟩ := (key hsC hsP).mp ⟨g1, g2⟩
    have hx : N + 1 ∉ lm := fun e => by have := hlN _ e; omega
    have ne : ∀ a, a ∈ lm → a ≠ N + 1 := fun a ha e => hx (e ▸ ha)
    obtain ⟨o1, o2, o3⟩ := hM.2.2.2.2.2.2.2.1
    obtain ⟨n1, n2, n3, n4⟩ := hM.2.2.2.2.2.2.2.2.1
    have hbN := hM.2.2.2.2.2.2.2.2.2.2
    have hfm : (fm bl lm).length = sm (gB G) lm := fm_len (fun a ha => (hM.2.2.2.2.2.1 a ha).1)
    have hBs : sm (gB G) lm ≤ sm (gP G) lm := sm_le (fun a _ => gB_P G a)
    have htk : ∃ q ft' tN' fq', q < 180100 ∧ tN' ≤ N + 1 ∧ Tk ft (nI tN) fi q ft' (nI tN') ∧ ((fq = [] ∧ q = tN ∧ tN' = tN + 1 ∧ ft' = -1 ∧ fq' = []) ∨ (fq = q :: fq' ∧ tN' = tN ∧ ft' = fi q)) := by
      cases fq with
      | nil => exact ⟨tN, -1, tN + 1, [], by omega, by omega, ⟨by omega, .inl ⟨o3, rfl, rfl, rfl⟩⟩, .inl ⟨rfl, rfl, rfl, rfl, rfl⟩⟩
      | cons q fq =>
        have := (o2 q (by simp)).1
        exact ⟨q, fi q, tN, fq, by omega, by omega, ⟨by omega, .inr ⟨o3.1, rfl, rfl⟩⟩, .inr ⟨rfl, rfl, rfl⟩⟩
    obtain ⟨q, ft', tN', fq', hq, htN', hTk, hqq⟩ := htk
    have hMt := mt_new (G := G) (x := N + 1) (pr := pr) (rf := rf) (kd := kd) (wh := wh) (ca := ca) (pa := pa) (he := he) hw hp.1 hb hq
    refine ⟨q, ft', nI tN', f, t, n, hTk, hMt, Bt bl lm (bkN k n) nx nu, ⟨bN, fbl, [], rfl, rfl, by simp, n4, n1, n2, n3, hbN, fun _ _ => rfl, fun _ _ _ _ => rfl, fun p hp => absurd hp List.not_mem_nil⟩, fun m e bn fb nx' nu' hB => bt_step (by omega) hB, ?_⟩
    rintro e bn fb' nx' nu' ⟨bN', fbl', cb, rfl, c2, c3, c4, c5, c6, c7, c8, c9, c10, c11⟩
    have hM' := mm_add hM hCl hx (by omega) hw hMt hqq (by simpa using c3) c2 c4 c5 c6 c7 c8 c9 c10 c11 s2
    have sC : sm (gC pr (gAdd G (N + 1) k f t n)) lm = sm (gC pr G) lm := sm_congr (fun a ha => ga_C (ne a ha))
    have sP : sm (gP (gAdd G (N + 1) k f t n)) lm = sm (gP G) lm := sm_congr (fun a ha => ga_P (ne a ha))
    have xP : gP (gAdd G (N + 1) k f t n) (N + 1) = hdP k n := by unfold gP; rw [gx_k, gx_n]
    refine kY mb td _ _ ft' fb' mk _ _ nx' _ _ _ _ _ _ nu' _ q ⟨rfl, ⟨tN', bN', lm ++ [N + 1], _, _, fq', fbl', ⟨rfl, rfl, htN', hM', fun a ha i hi e1 e2 => ?_, fun a ha => ?_, by rw [sm_one, sC, hcg]; exact s1, by rw [sm_one, sC, hcg, hcI.1, nI_add], by rw [sm_one, sP, xP, nI_add], fun r hr => ?_⟩, by simp, if_pos rfl⟩, lm, hM.1, fun a ha => rc_in (fun r hr => (hR r hr).1) hCl ha, by rw [hcg]; exact s1, s2⟩
    · rcases List.mem_append.mp ha with g | g
      · rw [ga_n (ne a g)] at hi
        rw [ga_I (ne a g)] at e1
        rw [ga_r (ne a g)] at e2 ⊢
        exact List.mem_append.mpr (.inl (hCl a g i hi e1 e2))
      · rw [List.mem_singleton.mp g, gx_r] at e2
        exact absurd rfl e2
    · rcases List.mem_append.mp ha with g | g
      · exact Nat.le_succ_of_le (hlN a g)
      · rw [List.mem_singleton.mp g]
        exact Nat.le_refl _
    · obtain ⟨r1, r2⟩ := hR r hr
      refine ⟨fun g => List.mem_append.mpr (.inl (r1 g)), ?_⟩
      rw [r2]
      unfold Mn
      by_cases e0 : R r = 0
      · rw [if_pos e0, if_pos e0]
      · rw [if_neg e0, if_neg e0]
        show nI (nm (R r)) = nI (if R r = N + 1 then q else nm (R r))
        rw [if_neg (ne _ (r1 e0))]
end
