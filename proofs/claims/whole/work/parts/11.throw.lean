def mm_sup : List String := ["java/lang/RuntimeException", "java/lang/Exception"]
set_option maxRecDepth 100000 in
theorem mm_oa0 : (Bundle.ownAtoms "MovingHeap" 31 "java/lang/IllegalArgumentException" mm_sup).all (fun w => mm_in w || decide (w ∈ mm_sx)) = true := by decide +kernel
set_option maxRecDepth 100000 in
theorem mm_oa1 : (Bundle.ownAtoms "MovingHeap" 46 "java/lang/IllegalStateException" mm_sup).all (fun w => mm_in w || decide (w ∈ mm_sx)) = true := by decide +kernel
set_option maxRecDepth 100000 in
theorem mm_oa2 : (Bundle.ownAtoms "MovingHeap" 84 "java/lang/IndexOutOfBoundsException" mm_sup).all (fun w => mm_in w || decide (w ∈ mm_sx)) = true := by decide +kernel
section
variable {p : Program} {l : Launch} {e : Env} {R : Room} {s : State} {m : MethodId} {args : Array Value} {below : List Frame} {meth : Method} {c : Code} {T : State} {locs : List Loc} {k1 k2 : Nat}
/-- a walk's middle taken as its beginning: the state now, as if the method had just been invoked in it -/
abbrev mm_now (s T : State) (m : MethodId) (args : Array Value) (below : List Frame) : State := (T.setVm s.vm).setFrames (.invoking m args :: below)
theorem mm_re (X : Stand p l e R s m args below meth c T locs k1 k2) (h1 : k1 + 1 ≤ R.cells) (h2 : k2 + 6 ≤ R.slots) : Stand p l e { frames := R.frames, locals := R.locals, cells := 1, slots := 6 } (mm_now s T m args below) m args below meth c T [] 0 0 := by
  obtain ⟨g0, hf0⟩ := X.frames_eq
  have hf : (T.setVm s.vm).frames = .java g0 :: below := hf0
  have hF : (mm_now s T m args below).frames = .invoking m args :: below := State.frames_setFrames _ (State.cur_lt_of_frames hf)
  have hlim : e.platform.stackLimits (mm_now s T m args below).me = e.platform.stackLimits s.me := (State.stackLimits_setFrames _ _ _).trans X.limits
  have hby : (mm_now s T m args below).me.stackBytes = s.me.stackBytes := (State.stackBytes_setFrames _ _).trans X.bytes
  have hloc : (mm_now s T m args below).localsInUse = s.localsInUse := (State.localsInUse_invoking hF X.method X.code).trans (State.localsInUse_invoking X.frames X.method X.code).symm
  have hlen : (mm_now s T m args below).frames.length = s.frames.length := by rw [hF, X.frames]
  have hroom : (mm_now s T m args below).hasRoom e.platform { frames := R.frames, locals := R.locals, cells := 1, slots := 6 } = true := by
    have hr := X.room
    unfold State.hasRoom at hr ⊢
    rw [hlim, hby, hloc, hlen]
    simp only [Bool.and_eq_true, decide_eq_true_eq] at hr ⊢
    have z1 := X.heapSize
    have z2 := X.used
    refine ⟨⟨⟨hr.1.1.1, ?_⟩, ?_⟩, X.book⟩
    · show T.heap.size + 1 ≤ e.platform.maxCells
      have := hr.1.1.2
      omega
    · show T.slotsUsed + 6 ≤ e.platform.maxSlots
      have := hr.1.2
      omega
  obtain ⟨th, hth, -⟩ := State.frames_cons hF
  have hsame : (mm_now s T m args below).sameButNew (T.setVm s.vm) [] 0 0 := by
    have h := (State.sameButNew.refl (mm_now s T m args below) hth).setFrames (T.setVm s.vm).frames (State.cur_lt_of_frames hF)
    have he : (mm_now s T m args below).setFrames (T.setVm s.vm).frames = T.setVm s.vm := by
      obtain ⟨t0, ht0, -⟩ := State.frames_cons hf
      rw [State.setFrames_setFrames, State.setFrames_self ht0]
    rw [he] at h
    exact h
  exact ⟨X.admits, X.cas, X.clock, hF, hroom, X.hears, X.method, X.code, X.here, X.tail, X.warmed, X.limits.trans hlim.symm, X.bytes.trans hby.symm, hsame⟩
end
