/-! the audit -/
def adh (ad : Nat → Nat) : List Nat → Nat
  | [] => 0
  | x :: _ => ad x
/-- an audit under way: the things of pp have been looked behind, those of st wait -/
def Au (ls : List Nat) (ad : Nat → Nat) (pp st : List Nat) (th : Nat → Int64) (wa : Nat) : Prop :=
  (pp ++ st).Nodup ∧ (∀ x, x ∈ pp ++ st → x ∈ ls) ∧ wa = adh ad st ∧ (∀ l1 x l2, st = l1 ++ x :: l2 → th (ad x) = lN (2 + 4 * adh ad l2)) ∧
  (∀ x, x ∈ pp → ¬ th (ad x) = 0 ∧ ¬ th (ad x) = 1) ∧ (∀ x, x ∈ ls → x ∉ pp ++ st → th (ad x) = 1) ∧ th 0 = 0
theorem sm_1 (l : List Nat) : sm (fun _ => 1) l = l.length := by
  induction l with
  | nil => rfl
  | cons a l ih =>
    show 1 + sm (fun _ => 1) l = l.length + 1
    omega
section
variable {z : Nat} {fl : Nat → Int32} {rf : Nat → Int64} {G : Gh} {ls pp st : List Nat} {ad : Nat → Nat} {th : Nat → Int64} {wa b : Nat}
theorem adh_lt (h : Ly G ls ad) (hs : sm (gW G) ls ≤ 180000) {l : List Nat} (hl : ∀ x, x ∈ l → x ∈ ls) : adh ad l < 180001 := by
  cases l with
  | nil => exact Nat.zero_lt_succ _
  | cons x l =>
    have := ly_top h (hl x (List.mem_cons_self ..))
    have := gW_1 G x
    show ad x < 180001
    omega
theorem au_look (hL : Ly G ls ad) (hs : sm (gW G) ls ≤ 180000) (h : Au ls ad pp st th wa) (hb : b ≠ 0 → b ∈ ls) :
    ∃ th' wa' st', La (1 + sm (gW G) ls) th wa (ad b) th' wa' ∧ Au ls ad pp st' th' wa' := by
  have h' := h
  obtain ⟨h1, h2, h3, h4, h5, h6, h7⟩ := h
  by_cases hb0 : b = 0
  · subst hb0
    exact ⟨th, wa, st, .inl ⟨hL.1, rfl, rfl⟩, h'⟩
  have bl := hb hb0
  have tb := ly_top hL bl
  have wb := gW_1 G b
  by_cases hin : b ∈ pp ++ st
  · refine ⟨th, wa, st, .inr (.inl ⟨by omega, by omega, ?_, ?_, rfl, rfl⟩), h'⟩
    · rcases List.mem_append.mp hin with g | g
      · exact (h5 b g).1
      · obtain ⟨l1, l2, rfl⟩ := List.append_of_mem g
        rw [h4 l1 b l2 rfl]
        intro e
        have a1 := adh_lt hL hs (l := l2) (fun x hx => h2 x (by simp [hx]))
        have := lN_ne (b := 0) (by omega) (by decide) e
        omega
    · rcases List.mem_append.mp hin with g | g
      · exact (h5 b g).2
      · obtain ⟨l1, l2, rfl⟩ := List.append_of_mem g
        rw [h4 l1 b l2 rfl]
        intro e
        have a1 := adh_lt hL hs (l := l2) (fun x hx => h2 x (by simp [hx]))
        have := lN_ne (b := 1) (by omega) (by decide) e
        omega
  · have e1 : ∀ x, x ∈ ls → x ≠ b → ad x ≠ ad b := fun x hx g e => g (ly_inj hL hx bl e)
    refine ⟨vp_updL th (ad b) (lN (2 + 4 * wa)), ad b, b :: st, .inr (.inr ⟨by omega, by omega, h6 b bl hin, rfl, rfl⟩), ?_, ?_, rfl, ?_, ?_, ?_, ?_⟩
    · have g := List.nodup_append.mp h1
      rw [List.nodup_append]
      refine ⟨g.1, List.nodup_cons.mpr ⟨fun e => hin (List.mem_append.mpr (.inr e)), g.2.1⟩, fun a ha c hc e => ?_⟩
      rcases List.mem_cons.mp hc with rfl | hc
      · exact hin (List.mem_append.mpr (.inl (e ▸ ha)))
      · exact g.2.2 a ha c hc e
    · intro x hx
      rcases List.mem_append.mp hx with g | g
      · exact h2 x (List.mem_append.mpr (.inl g))
      · rcases List.mem_cons.mp g with rfl | g
        · exact bl
        · exact h2 x (List.mem_append.mpr (.inr g))
    · intro l1 x l2 e
      cases l1 with
      | nil =>
        have e2 : b = x := by injection e
        have e3 : st = l2 := by injection e
        subst e2
        subst e3
        rw [pk_uLs, h3]
      | cons y l1 =>
        have e3 : st = l1 ++ x :: l2 := by injection e
        have hx : x ∈ pp ++ st := by rw [e3]; simp
        rw [pk_uLn (e1 x (h2 x hx) (fun e => hin (e ▸ hx)))]
        exact h4 l1 x l2 e3
    · intro x hx
      have hx2 : x ∈ pp ++ st := List.mem_append.mpr (.inl hx)
      rw [pk_uLn (e1 x (h2 x hx2) (fun e => hin (e ▸ hx2)))]
      exact h5 x hx
    · intro x hx hn
      have hxb : x ≠ b := fun e => hn (by rw [e]; simp)
      rw [pk_uLn (e1 x hx hxb)]
      refine h6 x hx (fun g => hn ?_)
      rcases List.mem_append.mp g with g | g
      · exact List.mem_append.mpr (.inl g)
      · exact List.mem_append.mpr (.inr (List.mem_cons_of_mem _ g))
    · rw [pk_uLn (by omega)]
      exact h7
end
section
variable {d : Nat} {al : Bool} {K : mm_K} {r : mm_W} {b : Bool} {ev un md ce pl wa sz : Int32} {fl pr ro : Nat → Int32} {rf hr th : Nat → Int64} {z T : Nat} {G : Gh} {R : Nat → Nat} {ls : List Nat} {ad : Nat → Nat}
theorem c_audit (hp : Pw z pr) (h : Cr z fl pr rf G R ls ad T ce pl ro hr) (ht0 : th 0 = 0)
    (hk : ∀ wa th, th 0 = 0 → K (.inl (some (.int (nI 0)))) (wC b ev un md (nI T) ce pl wa sz fl pr rf ro hr th r)) : mm_cal (d + 5) al 27 [.ref 1] (wC b ev un md (nI T) ce pl wa sz fl pr rf ro hr th r) K := by
  obtain ⟨⟨a1, a2, a3, a4, a5, a6, a7⟩, b1, b2, b3, b4, b5, b6⟩ := h
  have hsP := sW_P G ls
  have hs : sm (gW G) ls ≤ 180000 := by omega
  subst b1
  refine h8_countLost
    (Mnv := fun s a th => ∃ d1 d2, ls = d1 ++ d2 ∧ s = d1.length ∧ a = 1 + sm (gW G) d1 ∧ (∀ x, x ∈ d1 → th (ad x) = 1) ∧ th 0 = 0)
    (Inv := fun _ th x => ∃ st, Au ls ad [] st th x)
    (Jnv := fun s th x => ∃ pp st, Au ls ad pp st th x ∧ s = pp.length)
    (by omega) (by omega) ?_ ?_ ?_ ?_ ?_ ?_ ?_ ?_ ?_
  · refine ⟨[], ls, rfl, rfl, rfl, fun x hx => absurd hx List.not_mem_nil, ?_⟩
    unfold zer
    rw [if_neg (by omega)]
    exact ht0
  · rintro s a th ⟨d1, d2, rfl, rfl, rfl, -, -⟩
    rw [sm_app]
    omega
  · rintro s a th ⟨d1, d2, e, rfl, rfl, h1, h0⟩ haT
    have hlen := sm_len (f := gW G) (l := ls) (fun a _ => gW_1 G a)
    cases d2 with
    | nil =>
      exfalso
      rw [e, List.append_nil] at haT
      omega
    | cons x d3 =>
      have hx : x ∈ ls := by rw [e]; simp
      have hax := a3.2 d1 x d3 e
      have hl2 : ls.length = d1.length + (d3.length + 1) := by rw [e]; simp
      refine ⟨by omega, gk G x, gf G x, gt G x, gn G x, (a2 x hx).2.1, by rw [← hax]; exact a5 x hx, d1 ++ [x], d3, by rw [e]; simp, by simp, ?_, fun y hy => ?_, ?_⟩
      · rw [sm_one]
        show 1 + sm (gW G) d1 + gW G x = _
        omega
      · rw [← hax]
        by_cases c : y = x
        · rw [c, pk_uLs]
        · have hyd := (List.mem_append.mp hy).resolve_right (fun g => c (List.mem_singleton.mp g))
          have hyl : y ∈ ls := by rw [e]; exact List.mem_append.mpr (.inl hyd)
          rw [pk_uLn (fun g => c (ly_inj a3 hyl hx g))]
          exact h1 y hyd
      · rw [pk_uLn (by omega)]
        exact h0
  · rintro s a th ⟨d1, d2, e, rfl, rfl, h1, h0⟩ haT
    have e2 : d2 = [] := by
      cases d2 with
      | nil => rfl
      | cons x d3 =>
        exfalso
        rw [e, sm_app] at haT
        have := gW_1 G x
        have : sm (gW G) (x :: d3) = gW G x + sm (gW G) d3 := rfl
        omega
    subst e2
    rw [List.append_nil] at e
    subst e
    exact ⟨[], List.nodup_nil, fun x hx => absurd hx List.not_mem_nil, rfl, fun l1 x l2 e => by have := congrArg List.length e; simp at this, fun x hx => absurd hx List.not_mem_nil, fun x hx _ => h1 x hx, h0⟩
  · rintro i th x hi ⟨st, hA⟩
    obtain ⟨th', wa', st', hLa, hA'⟩ := au_look a3 hs hA (b := R i) (fun g => (b5 i hi).1 g)
    have := adh_lt a3 hs (l := st) (fun x hx => hA.2.1 x (by simp [hx]))
    exact ⟨ad (R i), th', wa', by rw [hA.2.2.1]; omega, (b5 i hi).2, hLa, st', hA'⟩
  · rintro th x ⟨st, hA⟩
    exact ⟨[], st, hA, rfl⟩
  · rintro s th a ⟨pp, st, hA, rfl⟩ ha0
    obtain ⟨h1, h2, h3, h4, h5, h6, h7⟩ := hA
    cases st with
    | nil => exact absurd h3 ha0
    | cons x st =>
      have hax : a = ad x := h3
      have hxl : x ∈ ls := h2 x (by simp)
      have tx := ly_top a3 hxl
      have wV := gW_V G x
      have hrV := refC_V G x
      have hgw := (a2 x hxl).2
      have hlen := sm_len (f := gW G) (l := ls) (fun a _ => gW_1 G a)
      have hl2 := sm_sub (fun _ => 1) (pp ++ x :: st) ls h1 h2
      rw [sm_1, sm_1] at hl2
      simp at hl2
      have hst := adh_lt a3 hs (l := st) (fun y hy => h2 y (by simp [hy]))
      have hthx : th (ad x) = lN (2 + 4 * adh ad st) := h4 [] x st rfl
      refine ⟨by omega, by omega, adh ad st, gk G x, gf G x, gt G x, gn G x, by omega, by rw [hax]; exact hthx, hgw.1, fun e => ?_, fun e => ?_, by rw [hax]; omega, by rw [hax]; exact a5 x hxl, ?_⟩
      · obtain ⟨g1, g2, -⟩ := hgw.2.2.2.1 e
        have := hp.1
        exact ⟨by omega, g2⟩
      · have := hgw.2.2.2.2 e
        omega
      refine ⟨fun _ th y => ∃ st, Au ls ad (pp ++ [x]) st th y, ⟨st, by simpa using h1, fun y hy => h2 y (by simpa using hy), rfl, fun l1 y l2 e => h4 (x :: l1) y l2 (by rw [e]; rfl), fun y hy => ?_, fun y hy hn => h6 y hy (fun g => hn (by simpa using g)), h7⟩, ?_, ?_⟩
      · rcases List.mem_append.mp hy with g | g
        · exact h5 y g
        · rw [List.mem_singleton] at g
          subst g
          rw [hthx]
          exact ⟨fun e => by have := lN_ne (b := 0) (by omega) (by decide) e; omega, fun e => by have := lN_ne (b := 1) (by omega) (by decide) e; omega⟩
      · rintro i th y hi ⟨st, hA⟩
        refine ⟨fun _ => ⟨st, hA⟩, fun g1 g2 => ?_⟩
        have g2 : gI rf G x i ≠ 0 := g2
        have hin : i < gn G x := Nat.lt_of_lt_of_le hi (refC_le _ _)
        have hv : hr (a + 1 + i) = vl rf G ad x i := by rw [hax]; exact a6 x hxl i (by omega)
        obtain ⟨th', wa', st', hLa, hA'⟩ := au_look a3 hs hA (b := gr G x i) (fun g => a7 x hxl i hin g2 g)
        have := adh_lt a3 hs (l := st) (fun x hx => hA.2.1 x (by simp [hx]))
        refine ⟨ad (gr G x i), th', wa', by rw [hA.2.2.1]; omega, ?_, hLa, st', hA'⟩
        rw [hv]
        unfold vl
        rw [if_neg g2]
      · rintro th y ⟨st, hA⟩
        exact ⟨pp ++ [x], st, hA, by simp⟩
  · rintro s th a ⟨pp, st, hA, -⟩
    have := adh_lt a3 hs (l := st) (fun x hx => hA.2.1 x (by simp [hx]))
    rw [hA.2.2.1]
    omega
  · rintro s th x ⟨pp, st, hA, -⟩ -
    exact hk _ th hA.2.2.2.2.2.2
end
