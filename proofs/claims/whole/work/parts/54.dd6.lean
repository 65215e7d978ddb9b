/-! a number is put, a reference is linked -/
def gPut (G : Gh) (x w : Nat) (l : Int64) : Gh := (G.1, G.2.1, G.2.2.1, G.2.2.2.1, fun a u => if a = x ∧ u = w then l else G.2.2.2.2.1 a u, G.2.2.2.2.2)
def gLnk (G : Gh) (x j y : Nat) : Gh := (G.1, G.2.1, G.2.2.1, G.2.2.2.1, G.2.2.2.2.1, fun a i => if a = x ∧ i = j then y else G.2.2.2.2.2 a i)
/-- closure x takes what the roots from g on hold, its first i places -/
def gCap (rf : Nat → Int64) (G : Gh) (x g : Nat) (R : Nat → Nat) : Nat → Gh
  | 0 => G
  | i + 1 => if gI rf G x i = 0 then gCap rf G x g R i else gLnk (gCap rf G x g R i) x i (R (g + i))
section
variable {z : Nat} {fl pr ro : Nat → Int32} {rf hr th : Nat → Int64} {G : Gh} {R : Nat → Nat} {ls : List Nat} {ad : Nat → Nat} {T x j y w v N : Nat} {ce pl tp : Int32} {l : Int64}
theorem gc_same (rf : Nat → Int64) (G : Gh) (x g : Nat) (R : Nat → Nat) (i : Nat) : (gCap rf G x g R i).1 = G.1 ∧ (gCap rf G x g R i).2.1 = G.2.1 ∧ (gCap rf G x g R i).2.2.1 = G.2.2.1 ∧ (gCap rf G x g R i).2.2.2.1 = G.2.2.2.1 := by
  induction i with
  | zero => exact ⟨rfl, rfl, rfl, rfl⟩
  | succ i ih =>
    unfold gCap
    split
    · exact ih
    · exact ih
theorem cr_put (h : Cr z fl pr rf G R ls ad T ce pl ro hr) (hx : x ∈ ls) (hw : w < gV G x) (hI : gI rf G x w = 0) : Cr z fl pr rf (gPut G x w l) R ls ad T ce pl ro (vp_updL hr (ad x + 1 + w) l) := by
  obtain ⟨⟨a1, a2, a3, a4, a5, a6, a7⟩, b1, b2, b3, b4, b5, b6⟩ := h
  have tx := ly_top a3 hx
  have hV := gW_V G x
  refine ⟨⟨a1, a2, a3, a4, fun a ha => ?_, fun a ha u hu => ?_, a7⟩, b1, b2, b3, b4, b5, ?_⟩
  · rw [pk_uLn]
    · exact a5 a ha
    · intro e
      by_cases c : a = x
      · subst c
        omega
      · have := ly_dis a3 ha hx c
        have := gW_1 G a
        omega
  · by_cases c : a = x ∧ u = w
    · obtain ⟨rfl, rfl⟩ := c
      rw [pk_uLs]
      unfold vl
      rw [if_pos (show gI rf (gPut G a u l) a u = 0 from hI)]
      exact (if_pos ⟨rfl, rfl⟩).symm
    · rw [pk_uLn]
      · rw [a6 a ha u hu]
        unfold vl
        show _ = if gI rf G a u = 0 then (if a = x ∧ u = w then l else gw G a u) else _
        rw [if_neg c]
        rfl
      · intro e
        apply c
        by_cases c2 : a = x
        · subst c2
          exact ⟨rfl, by omega⟩
        · have hu : u < gV G a := hu
          have := ly_dis a3 ha hx c2
          have := gW_V G a
          omega
  · rw [pk_uLn (by omega)]
    exact b6
theorem cr_lnk (h : Cr z fl pr rf G R ls ad T ce pl ro hr) (hx : x ∈ ls) (hw : j < gn G x) (hI : gI rf G x j ≠ 0) (hy : y ≠ 0 → y ∈ ls) : Cr z fl pr rf (gLnk G x j y) R ls ad T ce pl ro (vp_updL hr (ad x + 1 + j) (lN (ad y))) := by
  obtain ⟨⟨a1, a2, a3, a4, a5, a6, a7⟩, b1, b2, b3, b4, b5, b6⟩ := h
  have tx := ly_top a3 hx
  have hV := gW_V G x
  have hVn := gI_V hI
  refine ⟨⟨a1, a2, a3, a4, fun a ha => ?_, fun a ha u hu => ?_, fun a ha i hi g1 g2 => ?_⟩, b1, b2, b3, b4, b5, ?_⟩
  · rw [pk_uLn]
    · exact a5 a ha
    · intro e
      by_cases c : a = x
      · subst c
        omega
      · have := ly_dis a3 ha hx c
        have := gW_1 G a
        omega
  · by_cases c : a = x ∧ u = j
    · obtain ⟨rfl, rfl⟩ := c
      rw [pk_uLs]
      unfold vl
      rw [if_neg (show ¬ gI rf (gLnk G a u y) a u = 0 from hI)]
      show lN (ad y) = lN (ad (if a = a ∧ u = u then y else _))
      rw [if_pos ⟨rfl, rfl⟩]
    · rw [pk_uLn]
      · rw [a6 a ha u hu]
        unfold vl
        show _ = if gI rf G a u = 0 then gw G a u else lN (ad (if a = x ∧ u = j then y else gr G a u))
        rw [if_neg c]
      · intro e
        apply c
        by_cases c2 : a = x
        · subst c2
          exact ⟨rfl, by omega⟩
        · have hu : u < gV G a := hu
          have := ly_dis a3 ha hx c2
          have := gW_V G a
          omega
  · have g2 : (if a = x ∧ i = j then y else gr G a i) ≠ 0 := g2
    show (if a = x ∧ i = j then y else gr G a i) ∈ ls
    by_cases c : a = x ∧ i = j
    · rw [if_pos c] at g2 ⊢
      exact hy g2
    · rw [if_neg c] at g2 ⊢
      exact a7 a ha i hi g1 g2
  · rw [pk_uLn (by omega)]
    exact b6
/-- what root v holds, as the class has it -/
def Cat (z : Nat) (fl : Nat → Int32) (rf : Nat → Int64) (G : Gh) (x a : Nat) (hr : Nat → Int64) : Prop :=
  0 < a ∧ a + hdW (gk G x) (gn G x) ≤ 180001 ∧ hr a = lN (gH G x) ∧ Gw z fl G x ∧ ∀ u, u < gV G x → gI rf G x u = 0 → hr (a + 1 + u) = gw G x u
theorem c_at (h : CI z fl pr rf N G R tp ce pl ro hr th) (hv : v < 64) :
    (R v = 0 ∧ ro v = nI 0 ∧ hr 0 = lN (hdN 0 0 0 0)) ∨ (R v ≠ 0 ∧ R v ≤ N ∧ ∃ a, ro v = nI a ∧ Cat z fl rf G (R v) a hr) := by
  obtain ⟨T, ls, ad, rfl, hC, ht0, hlN⟩ := h
  obtain ⟨⟨a1, a2, a3, a4, a5, a6, a7⟩, b1, b2, b3, b4, b5, b6⟩ := hC
  obtain ⟨r1, r2⟩ := b5 v hv
  by_cases c : R v = 0
  · left
    rw [c, a3.1] at r2
    exact ⟨c, r2, b6⟩
  · right
    have hx := r1 c
    have tx := ly_top a3 hx
    have hP := sW_P G ls
    refine ⟨c, hlN _ hx, ad (R v), r2, by omega, ?_, a5 _ hx, (a2 _ hx).2, fun u hu g => ?_⟩
    · show ad (R v) + gW G (R v) ≤ 180001
      omega
    · rw [a6 _ hx u hu]
      unfold vl
      rw [if_pos g]
theorem ci_put (h : CI z fl pr rf N G R tp ce pl ro hr th) (hv : v < 64) (h0 : R v ≠ 0) {a : Nat} (ha : ro v = nI a) (ha2 : a < 180001) (hw : w < gV G (R v)) (hI : gI rf G (R v) w = 0) : CI z fl pr rf N (gPut G (R v) w l) R tp ce pl ro (vp_updL hr (a + 1 + w) l) th := by
  obtain ⟨T, ls, ad, rfl, hC, ht0, hlN⟩ := h
  obtain ⟨r1, r2⟩ := hC.2.2.2.2.2.1 v hv
  have hx := r1 h0
  have tx := ly_top hC.1.2.2.1 hx
  have hP := sW_P G ls
  have := hC.1.2.2.2.1
  have := gW_1 G (R v)
  have e : a = ad (R v) := (nI_eq (by omega) (by omega)).mp (ha.symm.trans r2)
  subst e
  exact ⟨T, ls, ad, rfl, cr_put hC hx hw hI, ht0, hlN⟩
theorem ci_lnk {s u : Nat} (h : CI z fl pr rf N G R tp ce pl ro hr th) (hv : v < 64) (h0 : R v ≠ 0) {a : Nat} (ha : ro v = nI a) (ha2 : a < 180001) (hw : j < gn G (R v)) (hI : gI rf G (R v) j ≠ 0) (hs : s < 64) (hu : ro s = nI u) (hu2 : u < 180001) : CI z fl pr rf N (gLnk G (R v) j (R s)) R tp ce pl ro (vp_updL hr (a + 1 + j) (lN u)) th := by
  obtain ⟨T, ls, ad, rfl, hC, ht0, hlN⟩ := h
  obtain ⟨r1, r2⟩ := hC.2.2.2.2.2.1 v hv
  obtain ⟨s1, s2⟩ := hC.2.2.2.2.2.1 s hs
  have hx := r1 h0
  have L := hC.1.2.2.1
  have tx := ly_top L hx
  have hP := sW_P G ls
  have := hC.1.2.2.2.1
  have := gW_1 G (R v)
  have e : a = ad (R v) := (nI_eq (by omega) (by omega)).mp (ha.symm.trans r2)
  subst e
  have hlt : ad (R s) < 180001 := by
    by_cases c : R s = 0
    · rw [c, L.1]
      decide
    · have := ly_top L (s1 c)
      have := gW_1 G (R s)
      omega
  have e2 : u = ad (R s) := (nI_eq (by omega) (by omega)).mp (hu.symm.trans s2)
  subst e2
  exact ⟨T, ls, ad, rfl, cr_lnk hC hx hw hI s1, ht0, hlN⟩
/-- the address in a root -/
theorem ci_ro (h : CI z fl pr rf N G R tp ce pl ro hr th) (hv : v < 64) : ∃ u, u < 180001 ∧ ro v = nI u := by
  rcases c_at h hv with ⟨-, e, -⟩ | ⟨-, -, a, e, h1, h2, -⟩
  · exact ⟨0, by decide, e⟩
  · have : 1 ≤ hdW (gk G (R v)) (gn G (R v)) := gW_1 G (R v)
    exact ⟨a, by omega, e⟩
theorem ci_ref (h : CI z fl pr rf N G R tp ce pl ro hr th) (hv : v < 64) (h0 : R v ≠ 0) {a : Nat} (ha : ro v = nI a) (ha2 : a < 180001) (hw : j < gn G (R v)) (hI : gI rf G (R v) j ≠ 0) {q : Nat} (hq : q < 64) :
    ∃ u, u < 180001 ∧ hr (a + 1 + j) = lN u ∧ CI z fl pr rf N G (ru R q (gr G (R v) j)) tp ce pl (upd ro q (nI u)) hr th := by
  obtain ⟨T, ls, ad, rfl, hC, ht0, hlN⟩ := h
  obtain ⟨r1, r2⟩ := hC.2.2.2.2.2.1 v hv
  have hx := r1 h0
  have L := hC.1.2.2.1
  have tx := ly_top L hx
  have hP := sW_P G ls
  have := hC.1.2.2.2.1
  have := gW_1 G (R v)
  have e : a = ad (R v) := (nI_eq (by omega) (by omega)).mp (ha.symm.trans r2)
  subst e
  have hin := hC.1.2.2.2.2.2.2 _ hx j hw hI
  refine ⟨ad (gr G (R v) j), ?_, ?_, T, ls, ad, rfl, cr_root hC hin, ht0, hlN⟩
  · by_cases c : gr G (R v) j = 0
    · rw [c, L.1]
      decide
    · have := ly_top L (hin c)
      have := gW_1 G (gr G (R v) j)
      omega
  · rw [hC.1.2.2.2.2.2.1 _ hx j (by rw [gI_V hI]; exact hw)]
    unfold vl
    rw [if_neg hI]
theorem ci_hold {s : Nat} (h : CI z fl pr rf N G R tp ce pl ro hr th) (hs : s < 64) : CI z fl pr rf N G (ru R v (R s)) tp ce pl (upd ro v (ro s)) hr th := by
  obtain ⟨T, ls, ad, rfl, hC, ht0, hlN⟩ := h
  obtain ⟨s1, s2⟩ := hC.2.2.2.2.2.1 s hs
  rw [s2]
  exact ⟨T, ls, ad, rfl, cr_root hC s1, ht0, hlN⟩
theorem ci_hold0 (h : CI z fl pr rf N G R tp ce pl ro hr th) : CI z fl pr rf N G (ru R v 0) tp ce pl (upd ro v (nI 0)) hr th := by
  obtain ⟨T, ls, ad, rfl, hC, ht0, hlN⟩ := h
  have := cr_root (v := v) (x := 0) hC (fun e => absurd rfl e)
  rw [hC.1.2.2.1.1] at this
  exact ⟨T, ls, ad, rfl, this, ht0, hlN⟩
/-- two roots hold the same just when their addresses are the same -/
theorem ci_same {s : Nat} (h : CI z fl pr rf N G R tp ce pl ro hr th) (hv : v < 64) (hs : s < 64) : ro s = ro v ↔ R s = R v := by
  obtain ⟨T, ls, ad, rfl, hC, ht0, hlN⟩ := h
  obtain ⟨r1, r2⟩ := hC.2.2.2.2.2.1 v hv
  obtain ⟨s1, s2⟩ := hC.2.2.2.2.2.1 s hs
  have L := hC.1.2.2.1
  have hP := sW_P G ls
  have := hC.1.2.2.2.1
  have key : ∀ y, (y ≠ 0 → y ∈ ls) → ad y < 180001 ∧ (ad y = 0 → y = 0) := fun y hy => by
    by_cases c : y = 0
    · rw [c, L.1]
      exact ⟨by decide, fun _ => rfl⟩
    · have := ly_top L (hy c)
      have := gW_1 G y
      exact ⟨by omega, fun e => by omega⟩
  obtain ⟨k1, k2⟩ := key _ r1
  obtain ⟨k3, k4⟩ := key _ s1
  rw [r2, s2, nI_eq (by omega) (by omega)]
  refine ⟨fun e => ?_, fun e => by rw [e]⟩
  by_cases c : R v = 0
  · rw [c, L.1] at e
    rw [c]
    exact k4 e
  · by_cases c2 : R s = 0
    · rw [c2, L.1] at e
      exact absurd (k2 e.symm) c
    · exact ly_inj L (s1 c2) (r1 c) e
end
