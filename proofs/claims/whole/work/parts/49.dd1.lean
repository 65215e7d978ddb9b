/-! the abstract machine: things by number, never moved. The ghost: kind, free, detail, count, words, references -/
abbrev Gh : Type := (Nat → Nat) × (Nat → Nat) × (Nat → Nat) × (Nat → Nat) × (Nat → Nat → Int64) × (Nat → Nat → Nat)
def gk (G : Gh) (a : Nat) : Nat := G.1 a
def gf (G : Gh) (a : Nat) : Nat := G.2.1 a
def gt (G : Gh) (a : Nat) : Nat := G.2.2.1 a
def gn (G : Gh) (a : Nat) : Nat := G.2.2.2.1 a
def gw (G : Gh) (a u : Nat) : Int64 := G.2.2.2.2.1 a u
def gr (G : Gh) (a i : Nat) : Nat := G.2.2.2.2.2 a i
/-- its words, its places, its contents, its head, its cells; is place i a reference -/
def gW (G : Gh) (a : Nat) : Nat := hdW (gk G a) (gn G a)
def gP (G : Gh) (a : Nat) : Nat := hdP (gk G a) (gn G a)
def gV (G : Gh) (a : Nat) : Nat := cwN (gk G a) (gn G a)
def gH (G : Gh) (a : Nat) : Nat := hdN (gk G a) (gf G a) (gt G a) (gn G a)
def gC (pr : Nat → Int32) (G : Gh) (a : Nat) : Nat := (cstI pr (gk G a) (gf G a) (gt G a) (gn G a)).toNatClampNeg
def gI (rf : Nat → Int64) (G : Gh) (a i : Nat) : Nat := isrN rf (gk G a) (gt G a) i
/-- a thing that may be -/
def Gw (z : Nat) (fl : Nat → Int32) (G : Gh) (a : Nat) : Prop :=
  hdOk (gk G a) (gf G a) (gt G a) (gn G a) ∧ 0 < gk G a ∧ gk G a < 6 ∧ (gk G a = 1 → gt G a < z ∧ gn G a ≤ 64 ∧ fl (gt G a) = nI (gn G a)) ∧ (gk G a = 5 → gn G a ≤ 8)
/-- the prices -/
def Pw (z : Nat) (pr : Nat → Int32) : Prop := z ≤ 100 ∧ ∀ c, c < z → ∃ p, p ≤ 1000 ∧ pr c = nI p
/-- what is reached -/
def Rc (rf : Nat → Int64) (G : Gh) (R : Nat → Nat) (a : Nat) : Prop :=
  ∀ P : Nat → Prop, (∀ r, r < 64 → R r ≠ 0 → P (R r)) → (∀ x i, P x → i < gn G x → gI rf G x i ≠ 0 → gr G x i ≠ 0 → P (gr G x i)) → P a
theorem rc_root {rf : Nat → Int64} {G : Gh} {R : Nat → Nat} {r : Nat} (hr : r < 64) (h : R r ≠ 0) : Rc rf G R (R r) := fun _ h1 _ => h1 r hr h
theorem rc_step {rf : Nat → Int64} {G : Gh} {R : Nat → Nat} {x i : Nat} (hx : Rc rf G R x) (hi : i < gn G x) (hr : gI rf G x i ≠ 0) (h0 : gr G x i ≠ 0) : Rc rf G R (gr G x i) :=
  fun P h1 h2 => h2 x i (hx P h1 h2) hi hr h0
def sm (f : Nat → Nat) : List Nat → Nat
  | [] => 0
  | a :: l => f a + sm f l
theorem sm_app (f : Nat → Nat) (l m : List Nat) : sm f (l ++ m) = sm f l + sm f m := by
  induction l with
  | nil => show sm f m = 0 + sm f m; omega
  | cons a l ih => show f a + sm f (l ++ m) = f a + sm f l + sm f m; omega
theorem sm_one (f : Nat → Nat) (l : List Nat) (a : Nat) : sm f (l ++ [a]) = sm f l + f a := by
  rw [sm_app]
  rfl
theorem sm_congr {f g : Nat → Nat} {l : List Nat} (h : ∀ a, a ∈ l → f a = g a) : sm f l = sm g l := by
  induction l with
  | nil => rfl
  | cons a l ih =>
    show f a + sm f l = g a + sm g l
    rw [h a (List.mem_cons_self ..), ih (fun b hb => h b (List.mem_cons_of_mem _ hb))]
theorem sm_le {f g : Nat → Nat} {l : List Nat} (h : ∀ a, a ∈ l → f a ≤ g a) : sm f l ≤ sm g l := by
  induction l with
  | nil => exact Nat.le_refl 0
  | cons a l ih =>
    show f a + sm f l ≤ g a + sm g l
    have := h a (List.mem_cons_self ..)
    have := ih (fun b hb => h b (List.mem_cons_of_mem _ hb))
    omega
theorem sm_mid (f : Nat → Nat) (l1 l2 : List Nat) (a : Nat) : sm f (l1 ++ a :: l2) = f a + sm f (l1 ++ l2) := by
  rw [sm_app, sm_app]
  show sm f l1 + (f a + sm f l2) = _
  omega
/-- lists without repeats: a part has no greater sum -/
theorem sm_sub (f : Nat → Nat) : ∀ (l m : List Nat), l.Nodup → (∀ a, a ∈ l → a ∈ m) → sm f l ≤ sm f m
  | [], m, _, _ => Nat.zero_le _
  | a :: l, m, hn, hs => by
    obtain ⟨m1, m2, rfl⟩ := List.append_of_mem (hs a (List.mem_cons_self ..))
    rw [sm_mid]
    have hn2 := List.nodup_cons.mp hn
    have ih := sm_sub f l (m1 ++ m2) hn2.2 (fun b hb => by
      have h1 := hs b (List.mem_cons_of_mem _ hb)
      have h2 : b ≠ a := fun e => hn2.1 (e ▸ hb)
      rcases List.mem_append.mp h1 with h | h
      · exact List.mem_append.mpr (.inl h)
      · exact List.mem_append.mpr (.inr ((List.mem_cons.mp h).resolve_left h2)))
    show f a + sm f l ≤ _
    omega
theorem sm_same (f : Nat → Nat) {l m : List Nat} (hl : l.Nodup) (hm : m.Nodup) (h : ∀ a, a ∈ l ↔ a ∈ m) : sm f l = sm f m :=
  Nat.le_antisymm (sm_sub f l m hl (fun a ha => (h a).mp ha)) (sm_sub f m l hm (fun a ha => (h a).mpr ha))
theorem sm_len {f : Nat → Nat} {l : List Nat} (h : ∀ a, a ∈ l → 1 ≤ f a) : l.length ≤ sm f l := by
  induction l with
  | nil => exact Nat.le_refl 0
  | cons a l ih =>
    show l.length + 1 ≤ f a + sm f l
    have := h a (List.mem_cons_self ..)
    have := ih (fun b hb => h b (List.mem_cons_of_mem _ hb))
    omega
theorem nd_one {l : List Nat} {b : Nat} (h : l.Nodup) (hb : b ∉ l) : (l ++ [b]).Nodup := by
  rw [List.nodup_append]
  refine ⟨h, List.nodup_cons.mpr ⟨List.not_mem_nil, List.nodup_nil⟩, fun a ha c hc e => ?_⟩
  rw [List.mem_singleton] at hc
  exact hb (by rw [← hc, ← e]; exact ha)
theorem gW_V (G : Gh) (a : Nat) : gW G a = 1 + gV G a := rfl
theorem gW_P (G : Gh) (a : Nat) : gW G a ≤ gP G a := by
  unfold gP hdP gW
  split <;> omega
theorem gW_1 (G : Gh) (a : Nat) : 1 ≤ gW G a := by rw [gW_V]; omega
theorem gP_hd {z : Nat} {fl : Nat → Int32} {G : Gh} {a : Nat} (h : Gw z fl G a) : gP G a ≤ 100002 := by
  have := h.1.2.2.2
  unfold gP hdP hdW
  split <;> split <;> omega
/-- the cells of a thing, as a number -/
theorem gC_I {z : Nat} {fl pr : Nat → Int32} {G : Gh} {a : Nat} (hp : Pw z pr) (h : Gw z fl G a) : cstI pr (gk G a) (gf G a) (gt G a) (gn G a) = nI (gC pr G a) ∧ gC pr G a ≤ 100002 := by
  have hn : gn G a ≤ 100000 := h.1.2.2.2
  have key : ∃ m, m ≤ 100002 ∧ cstI pr (gk G a) (gf G a) (gt G a) (gn G a) = nI m := by
    unfold cstI
    split
    · exact ⟨0, by omega, rfl⟩
    split
    · rename_i c
      obtain ⟨p, hp1, hp2⟩ := hp.2 _ (h.2.2.2.1 c).1
      exact ⟨p, by omega, hp2⟩
    split
    · exact ⟨2 + gn G a, by omega, rfl⟩
    split
    · exact ⟨10, by omega, rfl⟩
    · exact ⟨0, by omega, rfl⟩
  obtain ⟨m, hm, e⟩ := key
  have e2 : gC pr G a = m := by
    unfold gC
    rw [e]
    exact nI_clamp (by omega)
  rw [e2]
  exact ⟨e, hm⟩
/-! where things lie: one behind another from 1 on -/
def Ly (G : Gh) (ls : List Nat) (ad : Nat → Nat) : Prop := ad 0 = 0 ∧ ∀ l1 a l2, ls = l1 ++ a :: l2 → ad a = 1 + sm (gW G) l1
section
variable {G : Gh} {ls l : List Nat} {ad : Nat → Nat} {a b c : Nat}
theorem ly_top (h : Ly G ls ad) (ha : a ∈ ls) : 1 ≤ ad a ∧ ad a + gW G a ≤ 1 + sm (gW G) ls := by
  obtain ⟨l1, l2, rfl⟩ := List.append_of_mem ha
  have e := h.2 l1 a l2 rfl
  rw [sm_mid, sm_app]
  omega
theorem ly_dis (h : Ly G ls ad) (ha : a ∈ ls) (hb : b ∈ ls) (hn : a ≠ b) : ad a + gW G a ≤ ad b ∨ ad b + gW G b ≤ ad a := by
  obtain ⟨l1, l2, rfl⟩ := List.append_of_mem ha
  have e := h.2 l1 a l2 rfl
  rcases List.mem_append.mp hb with h1 | h1
  · obtain ⟨m1, m2, rfl⟩ := List.append_of_mem h1
    have e2 := h.2 m1 b (m2 ++ a :: l2) (by simp)
    right
    rw [sm_app] at e
    have : sm (gW G) (b :: m2) = gW G b + sm (gW G) m2 := rfl
    omega
  · obtain ⟨m1, m2, rfl⟩ := List.append_of_mem ((List.mem_cons.mp h1).resolve_left (fun e => hn e.symm))
    have e2 := h.2 (l1 ++ a :: m1) b m2 (by simp)
    left
    rw [sm_app] at e2
    have : sm (gW G) (a :: m1) = gW G a + sm (gW G) m1 := rfl
    omega
theorem ly_inj (h : Ly G ls ad) (ha : a ∈ ls) (hb : b ∈ ls) (e : ad a = ad b) : a = b := by
  refine Classical.byContradiction fun hn => ?_
  have := ly_dis h ha hb hn
  have := gW_1 G a
  have := gW_1 G b
  omega
theorem ly_app (h : Ly G l ad) (hb : b ∉ l) (h0 : b ≠ 0) : Ly G (l ++ [b]) (fun x => if x = b then 1 + sm (gW G) l else ad x) := by
  refine ⟨?_, fun l1 a l2 e => ?_⟩
  · show (if (0 : Nat) = b then _ else ad 0) = 0
    rw [if_neg (fun e => h0 e.symm)]
    exact h.1
  · show (if a = b then 1 + sm (gW G) l else ad a) = 1 + sm (gW G) l1
    rcases List.append_eq_append_iff.mp e with ⟨m, e1, e2⟩ | ⟨m, e1, e2⟩
    · -- l1 = l ++ m, [b] = m ++ a :: l2
      cases m with
      | nil =>
        have : b = a := by injection e2
        rw [if_pos this.symm, e1, List.append_nil]
      | cons x m =>
        exfalso
        have := congrArg List.length e2
        simp at this
    · -- l = l1 ++ m, a :: l2 = m ++ [b]
      cases m with
      | nil =>
        have : a = b := by injection e2
        rw [if_pos this, e1, List.append_nil]
      | cons x m =>
        have e3 : a = x := by injection e2
        subst e3
        have ha : a ∈ l := by rw [e1]; simp
        rw [if_neg (fun e : a = b => hb (e ▸ ha))]
        exact h.2 l1 a m e1
end
