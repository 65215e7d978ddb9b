def zI : Nat → Int32 := fun _ => 0
def zL : Nat → Int64 := fun _ => 0
section
variable {d : Nat} {K : mm_K}
theorem h9_shapes (hk : K (.inl none) [(0, .inr (0, pg_z0)), (1, .inr (1, pg_z1)), (2, .inr (2, [.int 0, .ref 3, .ref 4, .ref 5])), (3, .inl (0, 100, .inl zI)), (4, .inl (0, 100, .inl zI)), (5, .inl (1, 100, .inr (.inl zL)))]) :
    mm_cal (d + 1) true 8 [.ref 2] [(0, .inr (0, pg_z0)), (1, .inr (1, pg_z1)), (2, .inr (2, pg_z2))] K := by
  refine mm_go (d := d) 1 rfl trivial (mm_one ?_)
  refine mm_go (d := d) 2 rfl trivial (mm_one ⟨rfl, ?_⟩)
  refine mm_go (d := d) 3 rfl trivial (mm_one ⟨rfl, ?_⟩)
  refine mm_go (d := d) 3 rfl trivial (mm_one ⟨rfl, ?_⟩)
  refine mm_go (d := d) 1 rfl trivial (mm_one ?_)
  exact hk
theorem h9_heap (hk : K (.inl none) [(0, .inr (0, pg_z0)), (1, .inr (1, [.ref 2, .ref 6, .ref 7, .ref 8, .int 1, .int 0, .int 0, .int 0])), (2, .inr (2, [.int 0, .ref 3, .ref 4, .ref 5])), (3, .inl (0, 100, .inl zI)), (4, .inl (0, 100, .inl zI)), (5, .inl (1, 100, .inr (.inl zL))), (6, .inl (0, 64, .inl zI)), (7, .inl (1, 180001, .inr (.inl zL))), (8, .inl (1, 180001, .inr (.inl zL)))]) :
    mm_cal (d + 2) true 13 [.ref 1] [(0, .inr (0, pg_z0)), (1, .inr (1, pg_z1))] K := by
  refine mm_go (d := d + 1) 1 rfl trivial (mm_one ?_)
  refine mm_go (d := d + 1) 1 rfl trivial (mm_one ?_)
  refine mm_go (d := d + 1) 1 rfl trivial (mm_one (h9_shapes ?_))
  refine mm_go (d := d + 1) 3 rfl trivial (mm_one ⟨rfl, ?_⟩)
  refine mm_go (d := d + 1) 3 rfl trivial (mm_one ⟨rfl, ?_⟩)
  refine mm_go (d := d + 1) 3 rfl trivial (mm_one ⟨rfl, ?_⟩)
  refine mm_go (d := d + 1) 4 rfl trivial (mm_one ?_)
  exact hk
theorem h9_new (hk : K (.inl none) (wC false 0 0 0 1 0 0 0 0 zI zI zL zI zL zL [])) :
    mm_cal (d + 3) true 36 [.ref 0] [(0, .inr (0, pg_z0))] K := by
  refine mm_go (d := d + 2) 1 rfl trivial (mm_one ?_)
  refine mm_go (d := d + 2) 1 rfl trivial (mm_one ?_)
  refine mm_go (d := d + 2) 1 rfl trivial (mm_one (h9_heap ?_))
  refine mm_go (d := d + 2) 6 rfl trivial (mm_one ?_)
  exact hk
end
