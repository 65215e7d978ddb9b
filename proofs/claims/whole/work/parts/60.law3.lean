/-! calls and the end of the law, whose counters are not known -/
section
variable {d : Nat} {scr : Option (Nat × (Nat → Int32))} {al : Bool} {K : mm_K} {k1 k2 pc pc' nx a b c cl' : Nat} {ci : Int32} {cl : Int64} {lv : mm_L} {st As r : List Value} {w : mm_W}
theorem mm_cst {ix} (hrow : mm_at (pg_t 100) pc = some (pc', .invokestatic ix, nx, a, b, 0, ci, cl)) (hpop : mm_pop b st [] = some (As, r)) (hrok : mm_rok r = true) (h1 : k1 + (pg_c a).1 ≤ 601024) (h2 : k2 + (pg_c a).2 ≤ 7293034)
    (h : mm_cal d false a As w (fun o w' => mm_back 100 K (mm_wp (d + 1) scr al 100 K) (k1 + (pg_c a).1) (k2 + (pg_c a).2) pc nx lv r o w')) : mm_wp (d + 1) scr al 100 K k1 k2 pc lv st w := by
  have hc : (mm_rok r && (Nat.ble (k1 + (pg_c a).1) (pg_c 100).1 && Nat.ble (k2 + (pg_c a).2) (pg_c 100).2)) = true := by
    rw [hrok, show (pg_c 100).1 = 601024 from rfl, show (pg_c 100).2 = 7293034 from rfl, Nat.ble_eq.mpr h1, Nat.ble_eq.mpr h2]
    rfl
  apply mm_one
  unfold mm_step
  rw [hrow]
  show (match mm_pop b st [] with
    | some (As, r) => match mm_rok r && (Nat.ble (k1 + (pg_c a).1) (pg_c 100).1 && Nat.ble (k2 + (pg_c a).2) (pg_c 100).2) with
      | true => mm_cal d false a As w (fun o w' => mm_back 100 K (mm_wp (d + 1) scr al 100 K) (k1 + (pg_c a).1) (k2 + (pg_c a).2) pc nx lv r o w')
      | false => False
    | none => False)
  rw [hpop]
  show (match mm_rok r && (Nat.ble (k1 + (pg_c a).1) (pg_c 100).1 && Nat.ble (k2 + (pg_c a).2) (pg_c 100).2) with
      | true => mm_cal d false a As w (fun o w' => mm_back 100 K (mm_wp (d + 1) scr al 100 K) (k1 + (pg_c a).1) (k2 + (pg_c a).2) pc nx lv r o w')
      | false => False)
  rw [hc]
  exact h
theorem mm_cvt {ix} {k f' : Nat} (hrow : mm_at (pg_t 100) pc = some (pc', .invokevirtual ix, nx, a, b, f', ci, cl)) (hpop : mm_pop b st [] = some (.ref k :: As, r)) (hrok : mm_rok r = true) (his : mm_is w k (pg_o a) = true) (h1 : k1 + (pg_c a).1 ≤ 601024) (h2 : k2 + (pg_c a).2 ≤ 7293034)
    (h : mm_cal d false a (.ref k :: As) w (fun o w' => mm_back 100 K (mm_wp (d + 1) scr al 100 K) (k1 + (pg_c a).1) (k2 + (pg_c a).2) pc nx lv r o w')) : mm_wp (d + 1) scr al 100 K k1 k2 pc lv st w := by
  have hc : (mm_rok r && (Nat.ble (k1 + (pg_c a).1) (pg_c 100).1 && Nat.ble (k2 + (pg_c a).2) (pg_c 100).2) && mm_is w k (pg_o a)) = true := by
    rw [hrok, his, show (pg_c 100).1 = 601024 from rfl, show (pg_c 100).2 = 7293034 from rfl, Nat.ble_eq.mpr h1, Nat.ble_eq.mpr h2]
    rfl
  apply mm_one
  unfold mm_step
  rw [hrow]
  show (match mm_pop b st [] with
    | some (.ref k :: As, r) => match mm_rok r && (Nat.ble (k1 + (pg_c a).1) (pg_c 100).1 && Nat.ble (k2 + (pg_c a).2) (pg_c 100).2) && mm_is w k (pg_o a) with
      | true => mm_cal d false a (.ref k :: As) w (fun o w' => mm_back 100 K (mm_wp (d + 1) scr al 100 K) (k1 + (pg_c a).1) (k2 + (pg_c a).2) pc nx lv r o w')
      | false => False
    | _ => False)
  rw [hpop]
  show (match mm_rok r && (Nat.ble (k1 + (pg_c a).1) (pg_c 100).1 && Nat.ble (k2 + (pg_c a).2) (pg_c 100).2) && mm_is w k (pg_o a) with
      | true => mm_cal d false a (.ref k :: As) w (fun o w' => mm_back 100 K (mm_wp (d + 1) scr al 100 K) (k1 + (pg_c a).1) (k2 + (pg_c a).2) pc nx lv r o w')
      | false => False)
  rw [hc]
  exact h
theorem mm_crt {x : Int32} {a' : Nat} (hrow : mm_at (pg_t 100) pc = some (pc', .ireturn, nx, a' + 1, b, c, ci, cl)) (h1 : k1 ≤ 601024) (h2 : k2 ≤ 7293034) (h : vp_nar .boolean x = x ∧ K (.inl (some (.int x))) w) : mm_wp (d + 1) scr al 100 K k1 k2 pc lv [.int x] w := by
  have hc : (Nat.ble k1 (pg_c 100).1 && Nat.ble k2 (pg_c 100).2) = true := by
    rw [show (pg_c 100).1 = 601024 from rfl, show (pg_c 100).2 = 7293034 from rfl, Nat.ble_eq.mpr h1, Nat.ble_eq.mpr h2]
    rfl
  apply mm_one
  unfold mm_step
  rw [hrow]
  show (match Nat.ble k1 (pg_c 100).1 && Nat.ble k2 (pg_c 100).2 with
    | true => vp_nar .boolean x = x ∧ K (.inl (some (.int x))) w
    | false => False)
  rw [hc]
  exact h
end
