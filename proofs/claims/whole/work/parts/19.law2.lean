/-! THE CLAIM OUT OF ONE WALK OF THE LAW'S BODY. Your part is whole_start (and what it stands on); all else here is the same for every law, but numbers. -/
def R_law : String := "MovingHeapLaw"
def lw_P (b : Addr) (xs : List Int32) (args : Array Value) (s : State) : Prop := args = #[.ref b] ∧ s.IntsAt b xs ∧ xs.length ≤ 2560 ∧ (Jvm.Cond.and given_1 narrow_1).before args s = true
def lw_Q (_ : Array Value) (s : State) (o : Outcome) (t : State) : Prop := o = .returned (some (.int 1)) ∧ Framed s o t [] 601024 7293034
def lw_Z (below : List Frame) (a : Array Value) (s : State) : State → Prop := fun t => ∃ o, t.status = .running ∧ Ended t below o ∧ lw_Q a s o t
/-- the law's own end, with 1 on the stack, nothing written that was there before, its room as the claim has it -/
theorem lw_ret {p : Program} {l : Launch} {e : Env} {s : State} {m : MethodId} {below : List Frame} {meth : Method} {c : Code} {b : Nat} (hx : p.tables.exec = Jvm.exec) (hb : c.code = code) (hr : meth.sig.returnType = ret) (hlocks : meth.locks = false) {pc : Nat} {H : Heap} {ls : Array Slot} (hdg : decode code pc = .ok (.ireturn, 1)) : W p l e room_1 s m #[Value.ref b] below meth c H [] 601024 7293034 (lw_Z below #[Value.ref b] s) (F0 m pc ls [.int 1]) := by
  intro T hT X
  obtain ⟨fs, hret, hrun, hended, hW, hframe⟩ := X.leave (v := some (.int 1)) (hlocks := hlocks) (fun h => by rw [hr] at h; cases h)
  have hmeth' : T.vm.method? m = some meth := X.method'
  refine ⟨T.setFrames fs, ?_, .returned (some (.int 1)), hrun, hended, rfl, ⟨_, rfl⟩, hW, hframe⟩
  jvm_step X.here [X.here.top, hx, hb, hdg, hmeth', hr, ret, narrow_b1]
  (try refine ⟨rfl, ?_⟩); (try refine ⟨rfl, ?_⟩)
  first | (intro acts; rw [hret _ acts rfl rfl rfl]) | rw [hret _ _ rfl rfl rfl]
  exact Steps.refl _
/-- what holds at the law's entry: the machine, the code, the tables' words (any of lw_tbl by 'hts w (by decide +kernel)'), the script of L ints xs at the cell b, what the Statement gives of the start (any of its parts by flat_of_before) -/
def lw_At (p : Program) (s : State) (m : MethodId) (meth : Method) (c : Code) (b L : Nat) (xs : Nat → Int32) : Prop :=
  p.tables.exec = Jvm.exec ∧ c.code = code ∧ meth.sig.returnType = ret ∧ c.maxLocals = 8 ∧ s.vm.findClass R_law = some m.cls ∧ (∀ w ∈ lw_tbl, w.before #[Value.ref b] s = true) ∧ va_X b L xs s s.heap ∧ b < s.heap.size ∧ meth.locks = false ∧ (Jvm.Cond.and given_1 narrow_1).before #[Value.ref b] s = true ∧ (Jvm.Cond.code x code maxLocals ret).before #[Value.ref b] s = true ∧ meth.name = "law"
/-- the law's end in the mini machine: it answers 1 -/
def lw_K : mm_K := fun o _ => o = .inl (some (.int 1))
section
variable {p : Program} {l : Launch} {e : Env} {s : State} {m : MethodId} {below : List Frame} {meth : Method} {c : Code} {D : va_G} {tc : Nat → ClassId} {b L n0 d : Nat} {xs : Nat → Int32} {ad0 : Nat → Nat}
set_option maxHeartbeats 1000000 in
set_option maxRecDepth 100000 in
theorem lw_clos (C : mm_cx p room_1 s m #[Value.ref b] meth c D tc (fun q => s.heap.size ≤ q) (mm_X0 true n0 ad0) (some (L, xs)) 100) (hr : meth.sig.returnType = ret) (hlk : meth.locks = false) (hl : l.stackTraces = false) (hkx : mm_kx (fun q => s.heap.size ≤ q) s s.heap) (hd : d ≤ 100) :
    mm_clo (mm_cal d) (some (L, xs)) true 100 lw_K (mm_MW p l e room_1 s m #[Value.ref b] below meth c (lw_Z below #[Value.ref b] s) D tc (fun q => s.heap.size ≤ q) (pg_n 100) (mm_X0 true n0 ad0)) := by
  have hR : mm_rr room_1 d 100 := ⟨⟨by show d + 17 ≤ 2048; omega, by show 64 * d + 320 ≤ 84000; omega⟩, rfl, rfl⟩
  have hcal := mm_snd l hl d
  refine ⟨fun N hN k1 k2 pc lv st w h => ?_, fun ks k1 k2 pc lv st w h => ?_, fun k1 k2 j1 j2 pc lv st w h1 h2 h => ?_⟩
  · unfold mm_step at h
    split at h
    · exact h.elim
    · next q hq =>
      obtain ⟨hf, hpc⟩ := pg_facts hq
      split at h
      · next lv' st' w' ob hs => exact mm_smp_ok C hf hpc hs h.1 (hN _ _ _ _ _ _ h.2)
      · obtain ⟨q0, i, nx, a, b', f, cI, cL⟩ := q
        cases hpc
        have hbk : mm_bk p l e room_1 s m #[Value.ref b] below meth c (lw_Z below #[Value.ref b] s) D tc (fun q => s.heap.size ≤ q) (mm_X0 true n0 ad0) 100 lw_K N := by
          intro k1 k2 pc nx lv r x w ad ce q H locs ls h9
          exfalso
          have h9 : lw_K (.inr x) w := h9
          cases h9
        cases i with
        | goto z => exact so_goto C hN hf h
        | ifCond cd z => exact so_ifCond C hN hf h
        | if_icmp cd z => exact so_if_icmp C hN hf h
        | tableswitch d lo hi offs => exact so_tableswitch C hN hf h
        | lookupswitch d ps => exact so_lookupswitch C hN hf h
        | ireturn =>
          obtain ⟨rfl, hd, hq⟩ := mm_d2 (n := 1) hf
          simp only [mm_oth] at h
          split at h
          · next z _ =>
            split at h
            · next hc =>
              obtain ⟨hc1, hc2⟩ := mm_and hc
              have hz : z = 1 := by
                cases a with
                | zero => cases h; rfl
                | succ a => cases h.2; rfl
              subst hz
              intro ad H locs ls hX hP hD hS hlv
              exact va_forget hS.2.2 (W.widen (k := 601024) (n := 7293034) (mm_ble hc1) (mm_ble hc2) (lw_ret C.1 C.2.1 hr hlk hd))
            · exact h.elim
          · exact h.elim
        | lreturn => exact absurd (of_decide_eq_true (mm_d2 (n := 1) hf).2.2) (by decide +kernel)
        | return_ => exact absurd (of_decide_eq_true (mm_d2 (n := 1) hf).2.2) (by decide +kernel)
        | new z =>
          cases f with
          | zero => exact so_new C hR hN hf h
          | succ f =>
            exfalso
            have hq : mm_thr 100 q0 z a = true := (mm_d2 (n := 3) hf).2.2
            unfold mm_thr at hq
            split at hq
            · simp at hq
            · obtain ⟨-, hq⟩ := mm_and hq
              obtain ⟨-, hq⟩ := mm_and hq
              obtain ⟨-, hq⟩ := mm_and hq
              obtain ⟨-, hq⟩ := mm_and hq
              obtain ⟨-, hq⟩ := mm_and hq
              obtain ⟨-, hq⟩ := mm_and hq
              obtain ⟨-, hq⟩ := mm_and hq
              obtain ⟨hq, -⟩ := mm_and hq
              exact absurd (of_decide_eq_true hq) (by decide +kernel)
        | newarray z => exact so_newarray C hR hN hf h
        | invokestatic z => exact so_invokestatic C hcal hR hkx hbk hN hf h
        | invokevirtual z => exact so_invokevirtual C hcal hR hkx hbk hN hf h
        | invokespecial z => exact so_invokespecial C hcal hR hkx hbk hN hf h
        | _ => exact absurd h (by simp [mm_oth])
  · intro ad H locs ls hX hP hD hS hlv
    exact h ad H locs ls hX hP hD hS (lv_sub hlv ks (mm_pickl ad lv ks))
  · intro ad H locs ls hX hP hD hS hlv
    exact W.widen h1 h2 (h ad H locs ls hX hP hD hS hlv)
end
/-- WHAT IS LEFT: the law in the mini machine, for every script -/
def lw_pure : Prop := ∀ (L : Nat) (xs : Nat → Int32), L ≤ 2560 → mm_wp 21 (some (L, xs)) true 100 lw_K 0 0 0 [(0, .ref 99)] [] []
set_option maxRecDepth 100000 in
theorem whole_start_open (hpu : lw_pure) {p : Program} {e : Env} {s : State} {m : MethodId} {below : List Frame} {meth : Method} {c : Code} (l : Launch) (hl : l.stackTraces = false) {b L : Nat} {xs : Nat → Int32} (hL : L ≤ 2560) (C0 : lw_At p s m meth c b L xs) : W p l e room_1 s m #[Value.ref b] below meth c s.heap [] 0 0 (lw_Z below #[Value.ref b] s) (entryFrame m ([Value.ref b] : List Value).toArray 8) := by
  obtain ⟨a1, a2, a3, a4, a5, a6, a7, a8, a9, a10, a11, a12⟩ := C0
  have hws : ∀ w ∈ pg_ws, w.before #[Value.ref b] s = true := fun w hw => a6 w (List.mem_filter.mp hw).1
  obtain ⟨D, tc, hK⟩ := mm_vK hws
  have C : mm_cx p room_1 s m #[Value.ref b] meth c D tc (fun q => s.heap.size ≤ q) (mm_X0 true 0 (fun _ => b)) (some (L, xs)) 100 := ⟨a1, a2, a4, a5, fun w hw => by
    rcases List.mem_cons.mp hw with rfl | hw
    · exact a11
    · exact hws w hw, hK, a12, fun _ h => h, fun n xs' h => by
      cases h
      exact ⟨b, a7, a8, Nat.not_le.mpr a8, fun n ad hX => hX.2.2 99 (Or.inr rfl)⟩⟩
  have hMW := hpu L xs hL _ (lw_clos (e := e) (below := below) (l := l) C a3 a9 hl (mm_kx0 a6 a10) (d := 20) (by decide))
  have hle := lv_entry ([Value.ref b] : List Value) (n := 8) (Nat.le_of_ble_eq_true rfl)
  rw [lg_entry_eq]
  exact hMW (fun _ => b) s.heap [] _ mm_X0.rf (fun k q h => by cases h) ⟨fun i j p q h => (by cases h), fun k q h => (by cases h)⟩ va_S.rf hle
set_option maxHeartbeats 4000000 in
theorem lw_walk_open (hpu : lw_pure) (l : Launch) (hl : l.stackTraces = false) (b : Addr) (xs : List Int32) : MetFree l x (headSpec (Jvm.Cond.code x code maxLocals ret :: tables_1) room_1) (lw_P b xs) (fun _ _ _ _ _ => True) lw_Q := by
  refine MetFree.of_bodyS (code := code) (maxLocals := maxLocals) (ret := ret) (by decide) ?_ ?_
  · intro args s m h hn
    obtain ⟨meth, c, h1, h2, h3, h4, h5, h6, -, -⟩ := Cond.code_spec hn (atoms_spec (ws := Jvm.Cond.code x code maxLocals ret :: tables_1) h _ List.mem_cons_self)
    exact ⟨meth, c, h1, h2, h3, h4, h5, h6⟩
  · intro p e s m args below meth c s₁ B hml0 hP _
    obtain ⟨rfl, hx, hbd, hgv⟩ := hP
    obtain ⟨scr, harrAt, hlist, hof, hsmall⟩ := hx
    obtain ⟨hcb, hkn, -, -⟩ := State.arrayAt?_spec harrAt
    have hown : s.vm.findClass R_law = some m.cls := findClass_of_methodNamed B.named
    have hts0 : ∀ c ∈ (Jvm.Cond.code x code maxLocals ret :: tables_1), c.before #[Value.ref b] s = true := atoms_spec (ws := Jvm.Cond.code x code maxLocals ret :: tables_1) B.pre
    have hts : ∀ w ∈ lw_tbl, w.before #[Value.ref b] s = true := k2_hts_sels lw_privs (fun w hw => hts0 w (List.mem_cons_of_mem _ hw)) lw_privs_ok
    have hml : c.maxLocals = 8 := B.maxLocals_eq (hts0 _ List.mem_cons_self)
    have X₀ : Stand p l e room_1 s m #[Value.ref b] below meth c s₁ [] 0 0 := Stand.of_body B
    have hh0 : s₁.heap = s.heap := by rw [B.state]; rfl
    have hsz : scr.slots.size = xs.length := by rw [← Array.length_toList, hlist, List.length_map]
    have hval : ∀ j : Nat, j < xs.length → scr.slots[j]? = some (.int (xs.getD j 0)) := fun j hj => by
      rw [← Array.getElem?_toList, hlist]
      simp [hj]
    have hbl : b < s.heap.size := (Array.getElem?_eq_some_iff.mp hcb).1
    have hX : va_X b xs.length (fun j => xs.getD j 0) s s.heap := ⟨scr, hcb, hof, hkn, hsz, hval⟩
    have K : W p l e room_1 s m #[Value.ref b] below meth c s₁.heap [] 0 0 (lw_Z below #[Value.ref b] s) (entryFrame m ([Value.ref b] : List Value).toArray 8) := by
      rw [hh0]
      exact whole_start_open hpu l hl hbd ⟨B.exec, B.bytes, B.returns, hml, hown, hts, hX, hbl, B.notSynchronized, hgv, hts0 _ List.mem_cons_self, (name_of_methodNamed B.named B.method).1⟩
    obtain ⟨t, a1, o, b1, b2, b3⟩ := K s₁ rfl X₀
    exact ⟨t, o, a1, b1, b2, b3⟩
theorem lw_pre_spec {args : Array Value} {s : State} (h : (Jvm.Cond.and given_1 narrow_1).before args s = true) (hr : rest_1_c.before args s = true) : ∃ (b : Addr) (xs : List Int32), lw_P b xs args s := by
  have hs := flat_of_before _ h
  have hq := flat_of_before _ hr
  have hc : (Cond.count 1).before args s = true := hs _ (by decide +kernel)
  have harr : (Cond.arrayOf (.arg 0) .int).before args s = true := hs _ (by decide +kernel)
  have hle : (Cond.le (.length (.arg 0)) (.int 2560)).before args s = true := hs _ (by decide +kernel)
  have hlen : (Cond.isInt (.length (.arg 0))).before args s = true := hq _ (by decide +kernel)
  have hall : (Cond.all (.arg 0) (.isInt (.elem (.arg 0) (.index 0)))).before args s = true := hq _ (by decide +kernel)
  obtain ⟨b, xs, hb, hx⟩ := State.ints_of_pre rfl harr hlen hall
  have hsm : xs.length < 2 ^ 31 := hx.choose_spec.2.2.2
  have hev : (Term.length (.arg 0)).eval args s none [] s = some (.int xs.length.toInt32) := hx.length_eval hb
  have hv := Cond.le_ints hev (show (Term.int 2560).eval args s none [] s = some (.int 2560) from rfl)
  have hd : xs.length.toInt32 ≤ 2560 := by
    simpa [Cond.before, Cond.holds, hv] using hle
  have hN : xs.length ≤ 2560 := (Int32.ofNat_le_ofNat hsm (by decide)).mp (show Int32.ofNat xs.length ≤ Int32.ofNat 2560 from hd)
  exact ⟨b, xs, Cond.one_arg hc (show args[0]? = some (.ref b) from hb), hx, hN, h⟩
theorem lw_comes_open (hpu : lw_pure) (l : Launch) (hl : l.stackTraces = false) : Comes l x (Jvm.Cond.code x code maxLocals ret :: tables_1) room_1 (fun tb e args s => Calls_1 tb e args s ∧ rest_1 tb e args s ∧ Pre_1 tb e args s)
    (fun _ _ args s o t => lw_Q args s o t) := by
  intro p e ha hc hk s m args below hf hfit hheap happ hpre
  obtain ⟨b, xs, hP⟩ := lw_pre_spec hpre.2.2 hpre.2.1
  obtain ⟨k, o, h1, h2, h3, hQ⟩ := lw_walk_open hpu l hl b xs p e ha hc hk s m args below hf ((Spec.applies_iff_loose hf).mp happ).1 hP trivial
  exact ⟨k, o, h1, h2, h3, hQ⟩
theorem lw_frame {s t : State} {o : Outcome} {args : Array Value} (h : Framed s o t [] 601024 7293034) :
    Framed s o t (fieldLocs frame_1_writes args s ++ arrayLocs frame_1_arrays args s ++ staticLocs frame_1_statics s) 601024 7293034 := h
theorem lw_flg {l : Launch} (h : l.flags = flags0) : l.stackTraces = false := by
  unfold Launch.stackTraces
  rw [h]
  decide +kernel
theorem lw_limb_open (hpu : lw_pure) (L : Cond) (hL : ∀ (args : Array Value) (s t : State), L.after args s (.returned (some (.int 1))) t = true) :
    ArmFor flags0 classFile x code maxLocals ret World_1 tables_1 room_1 Calls_1 rest_1 Pre_1
      (fun tb e a s o t => postC L tb e a s o t ∧ Framed s o t (fieldLocs frame_1_writes a s ++ arrayLocs frame_1_arrays a s ++ staticLocs frame_1_statics s) 601024 7293034) := by
  intro l hfl _ _ p e ha hc hk s m args below hf hfit hheap happ hpre
  obtain ⟨k, o, h1, h2, h3, rfl, hF⟩ := lw_comes_open hpu l (lw_flg hfl) p e ha hc hk s m args below hf hfit hheap happ hpre
  exact ⟨k, _, h1, h2, h3, hL args s _, lw_frame hF⟩
theorem i_vc_open (hpu : lw_pure) : Claimed_1_1 ∧ Claimed_1_2 := ⟨lw_limb_open hpu limb_1_1 (fun args s t => by simp [limb_1_1, Cond.after, Cond.holds, Cond.value]), lw_limb_open hpu limb_1_2 (fun args s t => Cond.after_iff.mpr (by
  first | (rw [show limb_1_2 = Cond.eq .result (.int 1) from rfl, Cond.eq_ints (x := 1) (y := 1) rfl rfl]; simp; done) | (simp [limb_1_2, Cond.value, Term.eval]; done)))⟩
