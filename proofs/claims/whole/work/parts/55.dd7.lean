/-! the model's memory -/
/-- a chain of numbers from x on -/
def Chn (nx : Nat → Int32) : Int32 → List Nat → Prop
  | x, [] => x = -1
  | x, q :: l => x = nI q ∧ Chn nx (nx q) l
theorem chn_ext {nx nx' : Nat → Int32} {l : List Nat} {x : Int32} (h : Chn nx x l) (he : ∀ p, p ∈ l → nx' p = nx p) : Chn nx' x l := by
  induction l generalizing x with
  | nil => exact h
  | cons q l ih =>
    refine ⟨h.1, ?_⟩
    rw [he q (List.mem_cons_self ..)]
    exact ih h.2 (fun p hp => he p (List.mem_cons_of_mem _ hp))
theorem chn_get {nx : Nat → Int32} {l : List Nat} {x : Int32} (h : Chn nx x l) : (0 < l.length → x = nI (l.getD 0 0)) ∧ ∀ s, s + 1 < l.length → nx (l.getD s 0) = nI (l.getD (s + 1) 0) := by
  induction l generalizing x with
  | nil => exact ⟨fun g => absurd g (Nat.lt_irrefl _), fun s g => absurd g (by simp)⟩
  | cons q l ih =>
    obtain ⟨h1, h2⟩ := ih h.2
    refine ⟨fun _ => h.1, fun s hs => ?_⟩
    cases s with
    | zero => exact h1 (by simp at hs; omega)
    | succ s => exact h2 s (by simp at hs; omega)
theorem getD_mem {l : List Nat} {s : Nat} (h : s < l.length) : l.getD s 0 ∈ l := by
  induction l generalizing s with
  | nil => exact absurd h (Nat.not_lt_zero _)
  | cons q l ih =>
    cases s with
    | zero => exact List.mem_cons_self ..
    | succ s => exact List.mem_cons_of_mem _ (ih (by simp at h; omega))
theorem getD_inj {l : List Nat} (hn : l.Nodup) {s t : Nat} (hs : s < l.length) (ht : t < l.length) (e : l.getD s 0 = l.getD t 0) : s = t := by
  induction l generalizing s t with
  | nil => exact absurd hs (Nat.not_lt_zero _)
  | cons q l ih =>
    have h2 := List.nodup_cons.mp hn
    cases s with
    | zero =>
      cases t with
      | zero => rfl
      | succ t =>
        have e : q = l.getD t 0 := e
        exact absurd (e ▸ getD_mem (by simp at ht; omega)) h2.1
    | succ s =>
      cases t with
      | zero =>
        have e : l.getD s 0 = q := e
        exact absurd (e ▸ getD_mem (by simp at hs; omega)) h2.1
      | succ t => rw [ih h2.2 (by simp at hs; omega) (by simp at ht; omega) e]
/-- all blocks of the things of a list -/
def fm (bl : Nat → List Nat) : List Nat → List Nat
  | [] => []
  | a :: l => bl a ++ fm bl l
theorem fm_app (bl : Nat → List Nat) (l m : List Nat) : fm bl (l ++ m) = fm bl l ++ fm bl m := by
  induction l with
  | nil => rfl
  | cons a l ih =>
    show bl a ++ fm bl (l ++ m) = bl a ++ fm bl l ++ fm bl m
    rw [ih, List.append_assoc]
theorem fm_mem {bl : Nat → List Nat} {l : List Nat} {a p : Nat} (ha : a ∈ l) (hp : p ∈ bl a) : p ∈ fm bl l := by
  obtain ⟨l1, l2, rfl⟩ := List.append_of_mem ha
  rw [fm_app]
  exact List.mem_append.mpr (.inr (List.mem_append.mpr (.inl hp)))
theorem fm_inv {bl : Nat → List Nat} {l : List Nat} {p : Nat} (h : p ∈ fm bl l) : ∃ a, a ∈ l ∧ p ∈ bl a := by
  induction l with
  | nil => exact absurd h List.not_mem_nil
  | cons a l ih =>
    rcases List.mem_append.mp h with g | g
    · exact ⟨a, List.mem_cons_self .., g⟩
    · obtain ⟨b, hb, hp⟩ := ih g
      exact ⟨b, List.mem_cons_of_mem _ hb, hp⟩
theorem fm_len {bl : Nat → List Nat} {g : Nat → Nat} {l : List Nat} (h : ∀ a, a ∈ l → (bl a).length = g a) : (fm bl l).length = sm g l := by
  induction l with
  | nil => rfl
  | cons a l ih =>
    show (bl a ++ fm bl l).length = g a + sm g l
    rw [List.length_append, h a (List.mem_cons_self ..), ih (fun b hb => h b (List.mem_cons_of_mem _ hb))]
theorem fm_congr {bl bl' : Nat → List Nat} {l : List Nat} (h : ∀ a, a ∈ l → bl' a = bl a) : fm bl' l = fm bl l := by
  induction l with
  | nil => rfl
  | cons a l ih =>
    show bl' a ++ fm bl' l = bl a ++ fm bl l
    rw [h a (List.mem_cons_self ..), ih (fun b hb => h b (List.mem_cons_of_mem _ hb))]
theorem fm_nd {bl : Nat → List Nat} {l : List Nat} (h : (fm bl l).Nodup) {a : Nat} (ha : a ∈ l) : (bl a).Nodup := by
  obtain ⟨l1, l2, rfl⟩ := List.append_of_mem ha
  rw [fm_app] at h
  exact (List.nodup_append.mp (List.nodup_append.mp h).2.1).1
theorem fm_dis {bl : Nat → List Nat} {l : List Nat} (h : (fm bl l).Nodup) {a b p : Nat} (ha : a ∈ l) (hb : b ∈ l) (hp : p ∈ bl a) (hq : p ∈ bl b) : a = b := by
  refine Classical.byContradiction fun hn => ?_
  obtain ⟨l1, l2, rfl⟩ := List.append_of_mem ha
  rw [fm_app] at h
  have h1 := List.nodup_append.mp h
  have h2 := List.nodup_append.mp h1.2.1
  rcases List.mem_append.mp hb with g | g
  · exact h1.2.2 p (fm_mem g hq) p (List.mem_append.mpr (.inl hp)) rfl
  · rcases List.mem_cons.mp g with g | g
    · exact hn g.symm
    · exact h2.2.2 p hp p (fm_mem g hq) rfl
/-- the number of a thing, as a root has it; as a word has it; its blocks -/
def Mn (nm : Nat → Nat) (a : Nat) : Int32 := if a = 0 then -1 else nI (nm a)
def mr1 (nm : Nat → Nat) (a : Nat) : Nat := if a = 0 then 0 else nm a + 1
def gB (G : Gh) (a : Nat) : Nat := bkN (gk G a) (gn G a)
def vm (rf : Nat → Int64) (G : Gh) (nm : Nat → Nat) (a u : Nat) : Int64 := if gI rf G a u = 0 then gw G a u else lN (mr1 nm (gr G a u))
theorem gB_P (G : Gh) (a : Nat) : gB G a ≤ gP G a := by
  unfold gB gP bkN hdP hdW
  split <;> split <;> (try split) <;> omega
theorem gB_V {G : Gh} {a u : Nat} (h : u < gV G a) : u / 4 < gB G a := by
  unfold gB
  rw [bk_cw]
  have : u < cwN (gk G a) (gn G a) := h
  omega
theorem mn_r {nm : Nat → Nat} {a : Nat} : (lN (mr1 nm a)).toInt32 - 1 = Mn nm a := by
  unfold mr1 Mn
  split
  · decide
  · rw [lN_i, nI_pred]
theorem mn_l {nm : Nat → Nat} {a : Nat} (h : a ≠ 0 → nm a < 180100) : (Mn nm a + 1).toInt64 = lN (mr1 nm a) := by
  unfold mr1 Mn
  split
  · decide
  · rename_i c
    have := h c
    rw [nI_1, nI_l (by omega)]
/-- the things of lm in the model's rows: numbers nm, blocks bl; fq and fbl are free -/
def Mm (z : Nat) (fl pr : Nat → Int32) (rf : Nat → Int64) (G : Gh) (lm : List Nat) (nm : Nat → Nat) (bl : Nat → List Nat) (tN bN : Nat) (fq fbl : List Nat) (ft fb : Int32) (kd wh ca pa he fi : Nat → Int32) (nu : Nat → Int64) (nx : Nat → Int32) : Prop :=
  lm.Nodup ∧ (∀ a, a ∈ lm → a ≠ 0 ∧ Gw z fl G a) ∧
  (∀ a, a ∈ lm → nm a < tN ∧ Mt fl pr rf kd wh ca pa he (nm a) (gk G a) (gf G a) (gt G a) (gn G a)) ∧
  (∀ a, a ∈ lm → ∀ b, b ∈ lm → nm a = nm b → a = b) ∧
  (∀ q, q < tN → ¬ kd q = 0 → ∃ a, a ∈ lm ∧ nm a = q) ∧
  (∀ a, a ∈ lm → (bl a).length = gB G a ∧ Chn nx (fi (nm a)) (bl a)) ∧
  (∀ a, a ∈ lm → ∀ u, u < gV G a → nu (4 * (bl a).getD (u / 4) 0 + u % 4) = vm rf G nm a u) ∧
  (fq.Nodup ∧ (∀ q, q ∈ fq → q < tN ∧ kd q = 0) ∧ Chn fi ft fq) ∧
  ((fbl ++ fm bl lm).Nodup ∧ (∀ p, p ∈ fbl ++ fm bl lm → p < bN) ∧ (fbl ++ fm bl lm).length = bN ∧ Chn nx fb fbl) ∧
  sm (gP G) lm ≤ 180000 ∧ bN ≤ 180000
def Cl (rf : Nat → Int64) (G : Gh) (lm : List Nat) : Prop := ∀ a, a ∈ lm → ∀ i, i < gn G a → gI rf G a i ≠ 0 → gr G a i ≠ 0 → gr G a i ∈ lm
section
variable {z : Nat} {fl pr : Nat → Int32} {rf : Nat → Int64} {G : Gh} {lm : List Nat} {nm : Nat → Nat} {bl : Nat → List Nat} {tN bN : Nat} {fq fbl : List Nat} {ft fb : Int32} {kd wh ca pa he fi nx : Nat → Int32} {nu : Nat → Int64} {a b s t : Nat}
theorem mm_nk (h : Mm z fl pr rf G lm nm bl tN bN fq fbl ft fb kd wh ca pa he fi nu nx) (ha : a ∈ lm) : ¬ kd (nm a) = 0 := by
  obtain ⟨-, -, m3, -⟩ := h
  obtain ⟨-, -, -, h0, h6, -, -, ek, -⟩ := m3 a ha
  rw [ek]
  exact nI_ne0 h0 (by omega)
theorem mm_mc (h : Mm z fl pr rf G lm nm bl tN bN fq fbl ft fb kd wh ca pa he fi nu nx) (ha : a ∈ lm) : Mc fi nx (nm a) (bkN (gk G a) (gn G a)) (fun s => (bl a).getD s 0) := by
  obtain ⟨m1, m2, m3, m4, m5, m6, m7, m8, ⟨n1, n2, n3, n4⟩, m10, m11⟩ := h
  obtain ⟨e1, e2⟩ := m6 a ha
  obtain ⟨c1, c2⟩ := chn_get e2
  have e1' : (bl a).length = bkN (gk G a) (gn G a) := e1
  refine ⟨fun s hs => ?_, fun g => c1 (by omega), fun s hs => c2 s (by omega)⟩
  have := n2 _ (List.mem_append.mpr (.inr (fm_mem ha (getD_mem (l := bl a) (s := s) (by omega)))))
  show (bl a).getD s 0 < 190000
  omega
theorem mm_bi (h : Mm z fl pr rf G lm nm bl tN bN fq fbl ft fb kd wh ca pa he fi nu nx) (ha : a ∈ lm) (hb : b ∈ lm) (hs : s < gB G a) (ht : t < gB G b) (e : (bl a).getD s 0 = (bl b).getD t 0) : a = b ∧ s = t := by
  obtain ⟨m1, m2, m3, m4, m5, m6, m7, m8, ⟨n1, n2, n3, n4⟩, m10, m11⟩ := h
  have nd := (List.nodup_append.mp n1).2.1
  have la := (m6 a ha).1
  have lb := (m6 b hb).1
  have e1 : a = b := fm_dis nd ha hb (getD_mem (l := bl a) (s := s) (by omega)) (by rw [e]; exact getD_mem (by omega))
  subst e1
  exact ⟨rfl, getD_inj (fm_nd nd ha) (by omega) (by omega) e⟩
theorem mm_len (h : Mm z fl pr rf G lm nm bl tN bN fq fbl ft fb kd wh ca pa he fi nu nx) : lm.length ≤ 180000 := by
  obtain ⟨m1, m2, m3, m4, m5, m6, m7, m8, m9, m10, m11⟩ := h
  have := sm_len (f := gP G) (l := lm) (fun a _ => Nat.le_trans (gW_1 G a) (gW_P G a))
  omega
/-- the marks of a sweep: pp has been looked behind, st waits -/
def Ma (rf : Nat → Int64) (G : Gh) (R : Nat → Nat) (lm : List Nat) (nm : Nat → Nat) (pp st : List Nat) (mb td : Nat → Int32) (M : Nat) : Prop :=
  (pp ++ st).Nodup ∧ (∀ x, x ∈ pp ++ st → x ∈ lm ∧ Rc rf G R x) ∧ (∀ x, x ∈ lm → (¬ mb (nm x) = 0 ↔ x ∈ pp ++ st)) ∧ M = st.length ∧ ∀ l1 x l2, st = l1 ++ x :: l2 → td l1.length = nI (nm x)
theorem ma_mark {R : Nat → Nat} {pp st : List Nat} {mb td : Nat → Int32} {M : Nat} (h : Mm z fl pr rf G lm nm bl tN bN fq fbl ft fb kd wh ca pa he fi nu nx) (hA : Ma rf G R lm nm pp st mb td M) (hb : b ≠ 0 → b ∈ lm ∧ Rc rf G R b) :
    ∃ mb' td' M' st', Mk (Mn nm b) mb td M mb' td' M' ∧ Ma rf G R lm nm pp st' mb' td' M' ∧ (b ≠ 0 → b ∈ pp ++ st') ∧ ∀ y, y ∈ pp ++ st → y ∈ pp ++ st' := by
  have hA' := hA
  obtain ⟨h1, h2, h3, h4, h5⟩ := hA
  by_cases hb0 : b = 0
  · subst hb0
    exact ⟨mb, td, M, st, .inl ⟨if_pos rfl, rfl, rfl, rfl⟩, hA', fun e => absurd rfl e, fun _ g => g⟩
  obtain ⟨bl', brc⟩ := hb hb0
  have eM : Mn nm b = nI (nm b) := if_neg hb0
  have hq : nm b < 180100 := (h.2.2.1 b bl').2.1
  by_cases hin : b ∈ pp ++ st
  · exact ⟨mb, td, M, st, .inr (.inl ⟨nm b, hq, eM, (h3 b bl').mpr hin, rfl, rfl, rfl⟩), hA', fun _ => hin, fun _ g => g⟩
  · have hl := sm_sub (fun _ => 1) (pp ++ st) lm h1 (fun x hx => (h2 x hx).1)
    rw [sm_1, sm_1] at hl
    have hl2 := mm_len h
    simp at hl
    have e1 : pp ++ (st ++ [b]) = (pp ++ st) ++ [b] := by simp
    refine ⟨upd mb (nm b) 1, upd td M (nI (nm b)), M + 1, st ++ [b], .inr (.inr ⟨nm b, hq, eM, Classical.byContradiction fun g => hin ((h3 b bl').mp g), by omega, rfl, rfl, rfl⟩), ?_, fun _ => by simp, fun y hy => by rw [e1]; exact List.mem_append.mpr (.inl hy)⟩
    rw [Ma, e1]
    refine ⟨nd_one h1 hin, fun x hx => ?_, fun x hx => ?_, by simp; omega, fun l1 x l2 e => ?_⟩
    · rcases List.mem_append.mp hx with g | g
      · exact h2 x g
      · rw [List.mem_singleton.mp g]
        exact ⟨bl', brc⟩
    · by_cases c : x = b
      · subst c
        rw [pk_us]
        exact ⟨fun _ => by simp, fun _ => by decide⟩
      · rw [pk_un (fun g => c (h.2.2.2.1 x hx b bl' g)), h3 x hx]
        constructor
        · intro g
          exact List.mem_append.mpr (.inl g)
        · intro g
          exact (List.mem_append.mp g).resolve_right (fun g => c (List.mem_singleton.mp g))
    · rcases List.append_eq_append_iff.mp e with ⟨m, f1, e2⟩ | ⟨m, f1, e2⟩
      · cases m with
        | nil =>
          have : b = x := by injection e2
          subst this
          rw [f1, List.append_nil, ← h4, pk_us]
        | cons y m =>
          exfalso
          have := congrArg List.length e2
          simp at this
      · cases m with
        | nil =>
          have : x = b := by injection e2
          subst this
          rw [List.append_nil] at f1
          rw [← f1, ← h4, pk_us]
        | cons y m =>
          have e3 : x = y := by injection e2
          subst e3
          have : l1.length < M := by rw [h4, f1]; simp
          rw [pk_un (by omega)]
          exact h5 l1 x m f1
end
