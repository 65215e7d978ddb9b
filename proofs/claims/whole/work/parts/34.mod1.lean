/-- the model's cells: itself at 9, its arrays at 10 to 23 -/
def wM (cl tn ft bn fb us tk ma nt tr mk : Int32) (mf : Nat → Int32) (mr : Nat → Int64) (mp kd wh ca pa he fi mr2 td : Nat → Int32) (nu : Nat → Int64) (nx rt : Nat → Int32) (r : mm_W) : mm_W :=
  (9, .inr (3, [.ref 10, .ref 11, .ref 12, .int cl, .ref 13, .ref 14, .ref 15, .ref 16, .ref 17, .ref 18, .ref 19, .ref 20, .int tn, .int ft, .ref 21, .ref 22, .int bn, .int fb, .ref 23, .int us, .int tk, .int ma, .int nt, .int tr, .int mk])) ::
  (10, .inl (0, 100, .inl mf)) :: (11, .inl (1, 100, .inr (.inl mr))) :: (12, .inl (0, 100, .inl mp)) :: (13, .inl (2, 180100, .inl kd)) :: (14, .inl (0, 180100, .inl wh)) :: (15, .inl (0, 180100, .inl ca)) :: (16, .inl (0, 180100, .inl pa)) :: (17, .inl (0, 180100, .inl he)) :: (18, .inl (0, 180100, .inl fi)) :: (19, .inl (3, 180100, .inl mr2)) :: (20, .inl (0, 180100, .inl td)) ::
  (21, .inl (1, 760000, .inr (.inl nu))) :: (22, .inl (0, 190000, .inl nx)) :: (23, .inl (0, 64, .inl rt)) :: r
/-- the first i roots are none, the others 0 -/
def zR (i : Nat) : Nat → Int32 := fun j => if j < i then -1 else 0
theorem zR_s (i : Nat) : upd (zR i) i (-1) = zR (i + 1) := by
  funext j
  by_cases h : j = i
  · rw [h, pk_us]
    unfold zR
    rw [if_pos (by omega)]
  · rw [pk_un h]
    unfold zR
    by_cases h2 : j < i
    · rw [if_pos h2, if_pos (by omega)]
    · rw [if_neg h2, if_neg (by omega)]
section
variable {d : Nat} {al : Bool} {K : mm_K}
theorem m_newL (hk : K (.inl none) (wC false 0 0 0 1 0 0 0 0 zI zI zL zI zL zL (wM 0 0 (-1) 0 (-1) 0 0 0 0 0 0 zI zL zI zI zI zI zI zI zI zI zI zL zI (zR 64) []))) : ∀ (m i : Nat), 64 - i = m → i ≤ 64 → mm_wp (d + 1) none true 58 K 14 2391164 128 [(0, .ref 9), (1, .int (nI i))] [] (wC false 0 0 0 1 0 0 0 0 zI zI zL zI zL zL (wM 0 0 (-1) 0 (-1) 0 0 0 0 0 0 zI zL zI zI zI zI zI zI zI zI zI zL zI (zR i) [])) := by
  intro m
  induction m with
  | zero =>
    intro i hm hi
    have e : i = 64 := by omega
    subst e
    refine mm_go (d := d) 2 rfl trivial (mm_one ⟨fun u => ?_, fun u => ?_⟩)
    · exact mm_one hk
    · exact absurd (show nI 64 ≤ nI 64 from (nI_leI (by omega) (by omega)).mpr (Nat.le_refl _)) u
  | succ m ih =>
    intro i hm hi
    have i1 : vp_in (nI i) 64 := vp_in_nI (by omega) (by decide)
    have e1 : (nI i).toNatClampNeg = i := nI_clamp (by omega)
    refine mm_go (d := d) 2 rfl trivial (mm_one ⟨fun u => ?_, fun u => ?_⟩)
    · have u : nI 64 ≤ nI i := u
      exact absurd ((nI_leI (by omega) (by omega)).mp u) (by omega)
    · refine mm_go (d := d) (lv' := [(0, .ref 9), (1, .int (nI i + 1))]) (w' := wC false 0 0 0 1 0 0 0 0 zI zI zL zI zL zL (wM 0 0 (-1) 0 (-1) 0 0 0 0 0 0 zI zL zI zI zI zI zI zI zI zI zI zL zI (upd (zR i) (nI i).toNatClampNeg (-1)) [])) 7 rfl ⟨i1, trivial⟩ ?_
      rw [nI_1, e1, zR_s]
      exact ih (i + 1) (by omega) (by omega)
theorem m_new (hk : K (.inl none) (wC false 0 0 0 1 0 0 0 0 zI zI zL zI zL zL (wM 0 0 (-1) 0 (-1) 0 0 0 0 0 0 zI zL zI zI zI zI zI zI zI zI zI zL zI (zR 64) []))) : mm_cal (d + 1) true 58 [.ref 9] (wC false 0 0 0 1 0 0 0 0 zI zI zL zI zL zL [(9, .inr (3, pg_z3))]) K := by
  have hz : zI = zR 0 := by
    funext j
    unfold zI zR
    rw [if_neg (by omega)]
  refine mm_go (d := d) 1 rfl trivial (mm_one ?_)
  refine mm_go (d := d) (w' := wC false 0 0 0 1 0 0 0 0 zI zI zL zI zL zL [(9, .inr (3, [.null, .null, .null, .int 0, .null, .null, .null, .null, .null, .null, .null, .null, .int 0, .int 0, .null, .null, .int 0, .int 0, .null, .int 0, .int 0, .int 0, .int 0, .int 0, .int 0]))]) 2 rfl trivial (mm_one ⟨rfl, ?_⟩)
  refine mm_go (d := d) (w' := wC false 0 0 0 1 0 0 0 0 zI zI zL zI zL zL [(9, .inr (3, [.ref 10, .null, .null, .int 0, .null, .null, .null, .null, .null, .null, .null, .null, .int 0, .int 0, .null, .null, .int 0, .int 0, .null, .int 0, .int 0, .int 0, .int 0, .int 0, .int 0])), (10, .inl (0, 100, .inl zI))]) 3 rfl trivial (mm_one ⟨rfl, ?_⟩)
  refine mm_go (d := d) (w' := wC false 0 0 0 1 0 0 0 0 zI zI zL zI zL zL [(9, .inr (3, [.ref 10, .ref 11, .null, .int 0, .null, .null, .null, .null, .null, .null, .null, .null, .int 0, .int 0, .null, .null, .int 0, .int 0, .null, .int 0, .int 0, .int 0, .int 0, .int 0, .int 0])), (10, .inl (0, 100, .inl zI)), (11, .inl (1, 100, .inr (.inl zL)))]) 3 rfl trivial (mm_one ⟨rfl, ?_⟩)
  refine mm_go (d := d) (w' := wC false 0 0 0 1 0 0 0 0 zI zI zL zI zL zL [(9, .inr (3, [.ref 10, .ref 11, .ref 12, .int 0, .null, .null, .null, .null, .null, .null, .null, .null, .int 0, .int 0, .null, .null, .int 0, .int 0, .null, .int 0, .int 0, .int 0, .int 0, .int 0, .int 0])), (10, .inl (0, 100, .inl zI)), (11, .inl (1, 100, .inr (.inl zL))), (12, .inl (0, 100, .inl zI))]) 3 rfl trivial (mm_one ⟨rfl, ?_⟩)
  refine mm_go (d := d) (w' := wC false 0 0 0 1 0 0 0 0 zI zI zL zI zL zL [(9, .inr (3, [.ref 10, .ref 11, .ref 12, .int 0, .ref 13, .null, .null, .null, .null, .null, .null, .null, .int 0, .int 0, .null, .null, .int 0, .int 0, .null, .int 0, .int 0, .int 0, .int 0, .int 0, .int 0])), (10, .inl (0, 100, .inl zI)), (11, .inl (1, 100, .inr (.inl zL))), (12, .inl (0, 100, .inl zI)), (13, .inl (2, 180100, .inl zI))]) 3 rfl trivial (mm_one ⟨rfl, ?_⟩)
  refine mm_go (d := d) (w' := wC false 0 0 0 1 0 0 0 0 zI zI zL zI zL zL [(9, .inr (3, [.ref 10, .ref 11, .ref 12, .int 0, .ref 13, .ref 14, .null, .null, .null, .null, .null, .null, .int 0, .int 0, .null, .null, .int 0, .int 0, .null, .int 0, .int 0, .int 0, .int 0, .int 0, .int 0])), (10, .inl (0, 100, .inl zI)), (11, .inl (1, 100, .inr (.inl zL))), (12, .inl (0, 100, .inl zI)), (13, .inl (2, 180100, .inl zI)), (14, .inl (0, 180100, .inl zI))]) 3 rfl trivial (mm_one ⟨rfl, ?_⟩)
  refine mm_go (d := d) (w' := wC false 0 0 0 1 0 0 0 0 zI zI zL zI zL zL [(9, .inr (3, [.ref 10, .ref 11, .ref 12, .int 0, .ref 13, .ref 14, .ref 15, .null, .null, .null, .null, .null, .int 0, .int 0, .null, .null, .int 0, .int 0, .null, .int 0, .int 0, .int 0, .int 0, .int 0, .int 0])), (10, .inl (0, 100, .inl zI)), (11, .inl (1, 100, .inr (.inl zL))), (12, .inl (0, 100, .inl zI)), (13, .inl (2, 180100, .inl zI)), (14, .inl (0, 180100, .inl zI)), (15, .inl (0, 180100, .inl zI))]) 3 rfl trivial (mm_one ⟨rfl, ?_⟩)
  refine mm_go (d := d) (w' := wC false 0 0 0 1 0 0 0 0 zI zI zL zI zL zL [(9, .inr (3, [.ref 10, .ref 11, .ref 12, .int 0, .ref 13, .ref 14, .ref 15, .ref 16, .null, .null, .null, .null, .int 0, .int 0, .null, .null, .int 0, .int 0, .null, .int 0, .int 0, .int 0, .int 0, .int 0, .int 0])), (10, .inl (0, 100, .inl zI)), (11, .inl (1, 100, .inr (.inl zL))), (12, .inl (0, 100, .inl zI)), (13, .inl (2, 180100, .inl zI)), (14, .inl (0, 180100, .inl zI)), (15, .inl (0, 180100, .inl zI)), (16, .inl (0, 180100, .inl zI))]) 3 rfl trivial (mm_one ⟨rfl, ?_⟩)
  refine mm_go (d := d) (w' := wC false 0 0 0 1 0 0 0 0 zI zI zL zI zL zL [(9, .inr (3, [.ref 10, .ref 11, .ref 12, .int 0, .ref 13, .ref 14, .ref 15, .ref 16, .ref 17, .null, .null, .null, .int 0, .int 0, .null, .null, .int 0, .int 0, .null, .int 0, .int 0, .int 0, .int 0, .int 0, .int 0])), (10, .inl (0, 100, .inl zI)), (11, .inl (1, 100, .inr (.inl zL))), (12, .inl (0, 100, .inl zI)), (13, .inl (2, 180100, .inl zI)), (14, .inl (0, 180100, .inl zI)), (15, .inl (0, 180100, .inl zI)), (16, .inl (0, 180100, .inl zI)), (17, .inl (0, 180100, .inl zI))]) 3 rfl trivial (mm_one ⟨rfl, ?_⟩)
  refine mm_go (d := d) (w' := wC false 0 0 0 1 0 0 0 0 zI zI zL zI zL zL [(9, .inr (3, [.ref 10, .ref 11, .ref 12, .int 0, .ref 13, .ref 14, .ref 15, .ref 16, .ref 17, .ref 18, .null, .null, .int 0, .int 0, .null, .null, .int 0, .int 0, .null, .int 0, .int 0, .int 0, .int 0, .int 0, .int 0])), (10, .inl (0, 100, .inl zI)), (11, .inl (1, 100, .inr (.inl zL))), (12, .inl (0, 100, .inl zI)), (13, .inl (2, 180100, .inl zI)), (14, .inl (0, 180100, .inl zI)), (15, .inl (0, 180100, .inl zI)), (16, .inl (0, 180100, .inl zI)), (17, .inl (0, 180100, .inl zI)), (18, .inl (0, 180100, .inl zI))]) 3 rfl trivial (mm_one ⟨rfl, ?_⟩)
  refine mm_go (d := d) (w' := wC false 0 0 0 1 0 0 0 0 zI zI zL zI zL zL [(9, .inr (3, [.ref 10, .ref 11, .ref 12, .int 0, .ref 13, .ref 14, .ref 15, .ref 16, .ref 17, .ref 18, .ref 19, .null, .int 0, .int 0, .null, .null, .int 0, .int 0, .null, .int 0, .int 0, .int 0, .int 0, .int 0, .int 0])), (10, .inl (0, 100, .inl zI)), (11, .inl (1, 100, .inr (.inl zL))), (12, .inl (0, 100, .inl zI)), (13, .inl (2, 180100, .inl zI)), (14, .inl (0, 180100, .inl zI)), (15, .inl (0, 180100, .inl zI)), (16, .inl (0, 180100, .inl zI)), (17, .inl (0, 180100, .inl zI)), (18, .inl (0, 180100, .inl zI)), (19, .inl (3, 180100, .inl zI))]) 3 rfl trivial (mm_one ⟨rfl, ?_⟩)
  refine mm_go (d := d) (w' := wC false 0 0 0 1 0 0 0 0 zI zI zL zI zL zL [(9, .inr (3, [.ref 10, .ref 11, .ref 12, .int 0, .ref 13, .ref 14, .ref 15, .ref 16, .ref 17, .ref 18, .ref 19, .ref 20, .int 0, .int (-1), .null, .null, .int 0, .int 0, .null, .int 0, .int 0, .int 0, .int 0, .int 0, .int 0])), (10, .inl (0, 100, .inl zI)), (11, .inl (1, 100, .inr (.inl zL))), (12, .inl (0, 100, .inl zI)), (13, .inl (2, 180100, .inl zI)), (14, .inl (0, 180100, .inl zI)), (15, .inl (0, 180100, .inl zI)), (16, .inl (0, 180100, .inl zI)), (17, .inl (0, 180100, .inl zI)), (18, .inl (0, 180100, .inl zI)), (19, .inl (3, 180100, .inl zI)), (20, .inl (0, 180100, .inl zI))]) 6 rfl trivial (mm_one ⟨rfl, ?_⟩)
  refine mm_go (d := d) (w' := wC false 0 0 0 1 0 0 0 0 zI zI zL zI zL zL [(9, .inr (3, [.ref 10, .ref 11, .ref 12, .int 0, .ref 13, .ref 14, .ref 15, .ref 16, .ref 17, .ref 18, .ref 19, .ref 20, .int 0, .int (-1), .ref 21, .null, .int 0, .int 0, .null, .int 0, .int 0, .int 0, .int 0, .int 0, .int 0])), (10, .inl (0, 100, .inl zI)), (11, .inl (1, 100, .inr (.inl zL))), (12, .inl (0, 100, .inl zI)), (13, .inl (2, 180100, .inl zI)), (14, .inl (0, 180100, .inl zI)), (15, .inl (0, 180100, .inl zI)), (16, .inl (0, 180100, .inl zI)), (17, .inl (0, 180100, .inl zI)), (18, .inl (0, 180100, .inl zI)), (19, .inl (3, 180100, .inl zI)), (20, .inl (0, 180100, .inl zI)), (21, .inl (1, 760000, .inr (.inl zL)))]) 3 rfl trivial (mm_one ⟨rfl, ?_⟩)
  refine mm_go (d := d) (w' := wC false 0 0 0 1 0 0 0 0 zI zI zL zI zL zL [(9, .inr (3, [.ref 10, .ref 11, .ref 12, .int 0, .ref 13, .ref 14, .ref 15, .ref 16, .ref 17, .ref 18, .ref 19, .ref 20, .int 0, .int (-1), .ref 21, .ref 22, .int 0, .int (-1), .null, .int 0, .int 0, .int 0, .int 0, .int 0, .int 0])), (10, .inl (0, 100, .inl zI)), (11, .inl (1, 100, .inr (.inl zL))), (12, .inl (0, 100, .inl zI)), (13, .inl (2, 180100, .inl zI)), (14, .inl (0, 180100, .inl zI)), (15, .inl (0, 180100, .inl zI)), (16, .inl (0, 180100, .inl zI)), (17, .inl (0, 180100, .inl zI)), (18, .inl (0, 180100, .inl zI)), (19, .inl (3, 180100, .inl zI)), (20, .inl (0, 180100, .inl zI)), (21, .inl (1, 760000, .inr (.inl zL))), (22, .inl (0, 190000, .inl zI))]) 6 rfl trivial (mm_one ⟨rfl, ?_⟩)
  refine mm_go (d := d) (lv' := [(0, .ref 9), (1, .int (nI 0))]) (w' := wC false 0 0 0 1 0 0 0 0 zI zI zL zI zL zL (wM 0 0 (-1) 0 (-1) 0 0 0 0 0 0 zI zL zI zI zI zI zI zI zI zI zI zL zI zI [])) 3 rfl trivial ?_
  have h := m_newL (d := d) hk 64 0 rfl (by decide)
  rw [← hz] at h
  exact h
end
