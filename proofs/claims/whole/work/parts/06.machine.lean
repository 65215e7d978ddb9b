def mm_v (ad : Nat → Nat) (v : Value) : Value := match v with
  | .int x => .int x
  | .long x => .long x
  | .float x => .float x
  | .double x => .double x
  | .null => .null
  | .ref k => .ref (ad k)
  | .retAddr x => .retAddr x
def mm_e (tc : Nat → ClassId) (ad : Nat → Nat) (e : mm_E) : va_E := match e with
  | .inl a => .inl (tc a.1, a.2)
  | .inr o => .inr (o.1, o.2.map (mm_v ad))
def mm_w (tc : Nat → ClassId) (ad : Nat → Nat) (w : mm_W) : va_W := w.map (fun q => (ad q.1, mm_e tc ad q.2))
def mm_l (ad : Nat → Nat) (lv : mm_L) : mm_L := lv.map (fun q => (q.1, mm_v ad q.2))
def mm_lk : mm_L → Nat → Option Value
  | [], _ => none
  | q :: r, i => match Nat.beq q.1 i with
    | true => some q.2
    | false => mm_lk r i
def mm_f : mm_W → Nat → Option (Nat × mm_E)
  | [], _ => none
  | q :: r, k => match Nat.beq q.1 k with
    | true => some (0, q.2)
    | false => match mm_f r k with
      | none => none
      | some x => some (x.1 + 1, x.2)
def mm_u : mm_W → Nat → mm_E → mm_W
  | [], _, _ => []
  | q :: r, k, e => match Nat.beq q.1 k with
    | true => (k, e) :: r
    | false => q :: mm_u r k e
def mm_ins (x : Nat × Value) : mm_L → mm_L
  | [] => [x]
  | q :: r => match Nat.ble x.1 q.1 with
    | true => x :: q :: r
    | false => q :: mm_ins x r
def mm_s1 (lv : mm_L) (i : Nat) (v : Value) : mm_L := mm_ins (i, v) (lv.filter (fun q => !(q.1 == i) && !(q.1 + 1 == i && q.2.category == 2)))
def mm_s2 (lv : mm_L) (i : Nat) (v : Value) : mm_L := mm_ins (i, v) (lv.filter (fun q => !(q.1 == i) && (!(q.1 == i + 1) && !(q.1 + 1 == i && q.2.category == 2))))
def mm_ob : mm_B → Prop
  | [] => True
  | q :: r => vp_in q.1 q.2 ∧ mm_ob r
/-- the instructions that go straight on -/
def mm_smp (scr : Option (Nat × (Nat → Int32))) (e : mm_I) (lv : mm_L) (st : List Value) (w : mm_W) : Option (mm_L × List Value × mm_W × mm_B) := match e with
  | (_, i, _, a, b, f, c, cl) => match i with
    | .iconst _ => some (lv, .int c :: st, w, [])
    | .bipush _ => some (lv, .int c :: st, w, [])
    | .sipush _ => some (lv, .int c :: st, w, [])
    | .ldc _ => some (lv, .int c :: st, w, [])
    | .lconst _ => some (lv, .long cl :: st, w, [])
    | .ldc2_w _ => some (lv, .long cl :: st, w, [])
    | .iload_n k => match mm_lk lv k.val with
      | some (.int x) => some (lv, .int x :: st, w, [])
      | _ => none
    | .iload k => match mm_lk lv k with
      | some (.int x) => some (lv, .int x :: st, w, [])
      | _ => none
    | .lload_n k => match mm_lk lv k.val with
      | some (.long x) => some (lv, .long x :: st, w, [])
      | _ => none
    | .lload k => match mm_lk lv k with
      | some (.long x) => some (lv, .long x :: st, w, [])
      | _ => none
    | .aload_n k => match mm_lk lv k.val with
      | some (.ref x) => some (lv, .ref x :: st, w, [])
      | _ => none
    | .aload k => match mm_lk lv k with
      | some (.ref x) => some (lv, .ref x :: st, w, [])
      | _ => none
    | .istore_n k => match st with
      | .int x :: r => some (mm_s1 lv k.val (.int x), r, w, [])
      | _ => none
    | .istore k => match st with
      | .int x :: r => some (mm_s1 lv k (.int x), r, w, [])
      | _ => none
    | .astore_n k => match st with
      | .ref x :: r => some (mm_s1 lv k.val (.ref x), r, w, [])
      | _ => none
    | .astore k => match st with
      | .ref x :: r => some (mm_s1 lv k (.ref x), r, w, [])
      | _ => none
    | .lstore_n k => match st with
      | .long x :: r => some (mm_s2 lv k.val (.long x), r, w, [])
      | _ => none
    | .lstore k => match st with
      | .long x :: r => some (mm_s2 lv k (.long x), r, w, [])
      | _ => none
    | .iinc k _ => match mm_lk lv k with
      | some (.int x) => some (mm_s1 lv k (.int (x + c)), st, w, [])
      | _ => none
    | .iadd => match st with
      | .int y :: .int x :: r => some (lv, .int (x + y) :: r, w, [])
      | _ => none
    | .isub => match st with
      | .int y :: .int x :: r => some (lv, .int (x - y) :: r, w, [])
      | _ => none
    | .imul => match st with
      | .int y :: .int x :: r => some (lv, .int (x * y) :: r, w, [])
      | _ => none
    | .iand => match st with
      | .int y :: .int x :: r => some (lv, .int (x &&& y) :: r, w, [])
      | _ => none
    | .ior => match st with
      | .int y :: .int x :: r => some (lv, .int (x ||| y) :: r, w, [])
      | _ => none
    | .ishl => match st with
      | .int y :: .int x :: r => some (lv, .int (x <<< (y &&& 31)) :: r, w, [])
      | _ => none
    | .ishr => match st with
      | .int y :: .int x :: r => some (lv, .int (x >>> (y &&& 31)) :: r, w, [])
      | _ => none
    | .iushr => match st with
      | .int y :: .int x :: r => some (lv, .int ((x.toUInt32 >>> (y.toUInt32 &&& Int32.toUInt32 31)).toInt32) :: r, w, [])
      | _ => none
    | .idiv => match st with
      | .int y :: .int x :: r => match decide (y = 0) with
        | true => none
        | false => some (lv, .int (x / y) :: r, w, [])
      | _ => none
    | .irem => match st with
      | .int y :: .int x :: r => match decide (y = 0) with
        | true => none
        | false => some (lv, .int (x - x / y * y) :: r, w, [])
      | _ => none
    | .ineg => match st with
      | .int x :: r => some (lv, .int (-x) :: r, w, [])
      | _ => none
    | .ladd => match st with
      | .long y :: .long x :: r => some (lv, .long (x + y) :: r, w, [])
      | _ => none
    | .lsub => match st with
      | .long y :: .long x :: r => some (lv, .long (x - y) :: r, w, [])
      | _ => none
    | .land => match st with
      | .long y :: .long x :: r => some (lv, .long (x &&& y) :: r, w, [])
      | _ => none
    | .lor => match st with
      | .long y :: .long x :: r => some (lv, .long (x ||| y) :: r, w, [])
      | _ => none
    | .lxor => match st with
      | .long y :: .long x :: r => some (lv, .long (x ^^^ y) :: r, w, [])
      | _ => none
    | .lneg => match st with
      | .long x :: r => some (lv, .long (-x) :: r, w, [])
      | _ => none
    | .lshl => match st with
      | .int y :: .long x :: r => some (lv, .long (x <<< (y.toInt64 &&& 63)) :: r, w, [])
      | _ => none
    | .lshr => match st with
      | .int y :: .long x :: r => some (lv, .long (x >>> (y.toInt64 &&& 63)) :: r, w, [])
      | _ => none
    | .lushr => match st with
      | .int y :: .long x :: r => some (lv, .long ((x.toUInt64 >>> (y.toInt64.toUInt64 &&& Int64.toUInt64 63)).toInt64) :: r, w, [])
      | _ => none
    | .lcmp => match st with
      | .long y :: .long x :: r => some (lv, .int (lg_cmp x y) :: r, w, [])
      | _ => none
    | .i2l => match st with
      | .int x :: r => some (lv, .long x.toInt64 :: r, w, [])
      | _ => none
    | .l2i => match st with
      | .long x :: r => some (lv, .int x.toInt32 :: r, w, [])
      | _ => none
    | .i2b => match st with
      | .int x :: r => some (lv, .int x.toInt8.toInt32 :: r, w, [])
      | _ => none
    | .dup => match st with
      | v :: r => match Nat.beq v.category 1 with
        | true => some (lv, v :: v :: r, w, [])
        | false => none
      | _ => none
    | .pop => match st with
      | v :: r => match Nat.beq v.category 1 with
        | true => some (lv, r, w, [])
        | false => none
      | _ => none
    | .dup_x1 => match st with
      | v :: u :: r => match Nat.beq v.category 1 && Nat.beq u.category 1 with
        | true => some (lv, v :: u :: v :: r, w, [])
        | false => none
      | _ => none
    | .dup_x2 => match st with
      | v :: u :: t :: r => match Nat.beq v.category 1 && (Nat.beq u.category 1 && Nat.beq t.category 1) with
        | true => some (lv, v :: u :: t :: v :: r, w, [])
        | false => none
      | _ => none
    | .dup2 => match st with
      | v :: u :: r => match Nat.beq v.category 1 && Nat.beq u.category 1 with
        | true => some (lv, v :: u :: v :: u :: r, w, [])
        | false => none
      | _ => none
    | .getfield _ => match st with
      | .ref k :: r => match mm_f w k with
        | some (_, .inr o) => match Nat.beq o.1 a with
          | true => match o.2[b]? with
            | some v => some (lv, v :: r, w, [])
            | none => none
          | false => none
        | _ => none
      | _ => none
    | .putfield _ => match st with
      | .int x :: .ref k :: r => match mm_f w k with
        | some (_, .inr o) => match Nat.beq o.1 a && (Nat.blt b o.2.length && Nat.beq f 0) with
          | true => some (lv, r, mm_u w k (.inr (o.1, o.2.set b (.int x))), [])
          | false => none
        | _ => none
      | .ref x :: .ref k :: r => match mm_f w k with
        | some (_, .inr o) => match Nat.beq o.1 a && (Nat.blt b o.2.length && Nat.beq f 1) with
          | true => some (lv, r, mm_u w k (.inr (o.1, o.2.set b (.ref x))), [])
          | false => none
        | _ => none
      | _ => none
    | .iaload => match st with
      | .int x :: .ref k :: r => match Nat.beq k 99 with
        | true => match scr with
          | some (n, xs) => some (lv, .int (xs x.toNatClampNeg) :: r, w, [(x, n)])
          | none => none
        | false => match mm_f w k with
          | some (_, .inl (0, n, .inl g)) => some (lv, .int (g x.toNatClampNeg) :: r, w, [(x, n)])
          | _ => none
      | _ => none
    | .baload => match st with
      | .int x :: .ref k :: r => match mm_f w k with
        | some (_, .inl (2, n, .inl g)) => some (lv, .int (g x.toNatClampNeg) :: r, w, [(x, n)])
        | some (_, .inl (3, n, .inl g)) => some (lv, .int (g x.toNatClampNeg) :: r, w, [(x, n)])
        | _ => none
      | _ => none
    | .laload => match st with
      | .int x :: .ref k :: r => match mm_f w k with
        | some (_, .inl (1, n, .inr (.inl g))) => some (lv, .long (g x.toNatClampNeg) :: r, w, [(x, n)])
        | _ => none
      | _ => none
    | .iastore => match st with
      | .int y :: .int x :: .ref k :: r => match mm_f w k with
        | some (_, .inl (0, n, .inl g)) => some (lv, r, mm_u w k (.inl (0, n, .inl (upd g x.toNatClampNeg y))), [(x, n)])
        | _ => none
      | _ => none
    | .bastore => match st with
      | .int y :: .int x :: .ref k :: r => match mm_f w k with
        | some (_, .inl (2, n, .inl g)) => some (lv, r, mm_u w k (.inl (2, n, .inl (upd g x.toNatClampNeg (vp_nar .byte y)))), [(x, n)])
        | some (_, .inl (3, n, .inl g)) => some (lv, r, mm_u w k (.inl (3, n, .inl (upd g x.toNatClampNeg (vp_nar .boolean y)))), [(x, n)])
        | _ => none
      | _ => none
    | .lastore => match st with
      | .long y :: .int x :: .ref k :: r => match mm_f w k with
        | some (_, .inl (1, n, .inr (.inl g))) => some (lv, r, mm_u w k (.inl (1, n, .inr (.inl (vp_updL g x.toNatClampNeg y)))), [(x, n)])
        | _ => none
      | _ => none
    | .arraylength => match st with
      | .ref k :: r => match Nat.beq k 99 with
        | true => match scr with
          | some (n, _) => some (lv, .int (Int32.ofNat n) :: r, w, [])
          | none => none
        | false => match mm_f w k with
          | some (_, .inl (t, x)) => match Nat.blt t 4 with
            | true => some (lv, .int (Int32.ofNat x.1) :: r, w, [])
            | false => none
          | _ => none
      | _ => none
    | _ => none
/-- so many straight instructions (and jumps) at once -/
def mm_run (tb : List (List mm_I)) (scr : Option (Nat × (Nat → Int32))) : Nat → Nat → mm_L → List Value → mm_W → Option (Nat × mm_L × List Value × mm_W × mm_B)
  | 0, pc, lv, st, w => some (pc, lv, st, w, [])
  | n + 1, pc, lv, st, w => match mm_at tb pc with
    | none => none
    | some e => match mm_smp scr e lv st w with
      | some (lv', st', w', ob) => match mm_run tb scr n e.2.2.1 lv' st' w' with
        | none => none
        | some (pc2, lv2, st2, w2, ob2) => some (pc2, lv2, st2, w2, ob ++ ob2)
      | none => match e.2.1 with
        | .goto _ => mm_run tb scr n e.2.2.2.1 lv st w
        | _ => none
/-- the condition of a branch -/
def mm_c (cd : Jvm.ClassFile.Cond) (x y : Int32) : Prop := match cd with
  | .eq => x = y
  | .ne => ¬ x = y
  | .lt => x < y
  | .ge => y ≤ x
  | .gt => y < x
  | .le => x ≤ y
/-- the topmost n values, the lowest first, and the rest -/
def mm_pop : Nat → List Value → List Value → Option (List Value × List Value)
  | 0, st, acc => some (acc, st)
  | n + 1, v :: st, acc => mm_pop n st (v :: acc)
  | _ + 1, [], _ => none
def mm_rok (r : List Value) : Bool := Nat.ble ((r.map fun v => v.category).sum) 8
/-- no reference from k on -/
def mm_fv (k : Nat) (v : Value) : Bool := match v with
  | .ref j => Nat.blt j k || Nat.beq j 99
  | _ => true
def mm_fe (k : Nat) (e : mm_E) : Bool := match e with
  | .inl _ => true
  | .inr o => o.2.all (mm_fv k)
/-- place k is fresh: below 99, and neither locals, stack nor cells know a place from k on -/
def mm_fr (k : Nat) (lv : mm_L) (st : List Value) (w : mm_W) : Bool := Nat.blt k 99 && (lv.all (fun q => mm_fv k q.2) && (st.all (mm_fv k) && w.all (fun q => Nat.blt q.1 k && mm_fe k q.2)))
abbrev mm_K : Type := mm_O → mm_W → Prop
abbrev mm_M : Type := Nat → Nat → Nat → mm_L → List Value → mm_W → Prop
/-- what a switch does: the first key that fits -/
def mm_sw (x : Int32) (P : Nat → Prop) (d : Nat) : List (Int32 × Nat) → Prop
  | [] => P d
  | q :: r => (x = q.1 → P q.2) ∧ (¬ x = q.1 → mm_sw x P d r)
def mm_is (w : mm_W) (k ci : Nat) : Bool := match mm_f w k with
  | some (_, .inr o) => Nat.beq o.1 ci
  | _ => false
/-- the number of the exception that an entry of the law's pool names -/
def pg_cn (ct : Nat) : Nat := match ct with
  | 13 => 0
  | 15 => 1
  | _ => 2
/-- the first row of a table of handlers that takes exception x at pc -/
def mm_first (pc x : Nat) : List (Nat × Nat × Nat × Nat) → Option Nat
  | [] => none
  | q :: r => match (Nat.ble q.1 pc && Nat.blt pc q.2.1) && Nat.beq (pg_cn q.2.2.2) x with
    | true => some q.2.2.1
    | false => mm_first pc x r
/-- where exception x, thrown at pc, is taken: behind the store into a variable, which is not read again -/
def mm_h (mi pc x : Nat) : Option (Nat × Nat) := match mm_first pc x (pg_hh mi) with
  | none => none
  | some h => match mm_at (pg_t mi) h with
    | some (_, .astore li, nx, _) => some (nx, li)
    | some (_, .astore_n li, nx, _) => some (nx, li.val)
    | _ => none
/-- behind a call: what came back lies on the stack, or the handler goes on, or it is thrown further -/
def mm_back (mi : Nat) (K : mm_K) (M : mm_M) (k1 k2 pc nx : Nat) (lv : mm_L) (r : List Value) (o : mm_O) (w : mm_W) : Prop := match o with
  | .inl v => M k1 k2 nx lv (v.toList ++ r) w
  | .inr x => match mm_h mi pc x with
    | none => match pg_hh mi with
      | [] => K (.inr x) w
      | _ :: _ => False
    | some (hp, li) => M k1 k2 hp (lv.filter (fun q => !(q.1 == li) && !(q.1 + 1 == li && q.2.category == 2))) [] w
/-- System.arraycopy of longs -/
def mm_cpy (M : mm_M) (k1 k2 nx : Nat) (lv : mm_L) (r : List Value) (w : mm_W) (ks : Nat) (sp : Int32) (kd : Nat) (dp n : Int32) : Prop := match mm_f w ks with
  | some (_, .inl (1, n0, .inr (.inl f))) => match mm_f w kd with
    | some (_, .inl (1, n1, .inr (.inl g))) => match mm_rok r with
      | true => ¬ sp < 0 ∧ ¬ dp < 0 ∧ ¬ n < 0 ∧ sp.toNatClampNeg + n.toNatClampNeg ≤ n0 ∧ dp.toNatClampNeg + n.toNatClampNeg ≤ n1 ∧ M k1 k2 nx lv r (mm_u w kd (.inl (1, n1, .inr (.inl (va_cpy f g sp.toNatClampNeg dp.toNatClampNeg n.toNatClampNeg)))))
      | false => False
    | _ => False
  | _ => False
/-- an instruction that isn't straight: branch, switch, return, new, call. cal: what is known of callees; al: may this method make cells that stay -/
def mm_oth (cal : Bool → Nat → List Value → mm_W → mm_K → Prop) (al : Bool) (mi : Nat) (K : mm_K) (M : mm_M) (k1 k2 pc : Nat) (lv : mm_L) (st : List Value) (w : mm_W) (e : mm_I) : Prop := match e with
  | (_, i, nx, a, b, f, c, _) => match i with
    | .goto _ => M k1 k2 a lv st w
    | .ifCond cd _ => match st with
      | .int x :: r => (mm_c cd x 0 → M k1 k2 a lv r w) ∧ (¬ mm_c cd x 0 → M k1 k2 nx lv r w)
      | _ => False
    | .if_icmp cd _ => match st with
      | .int y :: .int x :: r => (mm_c cd x y → M k1 k2 a lv r w) ∧ (¬ mm_c cd x y → M k1 k2 nx lv r w)
      | _ => False
    | .tableswitch _ _ _ _ => match st with
      | .int x :: r => mm_sw x (fun t => M k1 k2 t lv r w) a (pg_s mi pc)
      | _ => False
    | .lookupswitch _ _ => match st with
      | .int x :: r => mm_sw x (fun t => M k1 k2 t lv r w) a (pg_s mi pc)
      | _ => False
    | .ireturn => match st with
      | [.int x] => match Nat.ble k1 (pg_c mi).1 && Nat.ble k2 (pg_c mi).2 with
        | true => match a with
          | 0 => K (.inl (some (.int x))) w
          | _ => vp_nar .boolean x = x ∧ K (.inl (some (.int x))) w
        | false => False
      | _ => False
    | .lreturn => match st with
      | [.long x] => match Nat.ble k1 (pg_c mi).1 && Nat.ble k2 (pg_c mi).2 with
        | true => K (.inl (some (.long x))) w
        | false => False
      | _ => False
    | .return_ => match st with
      | [] => match Nat.ble k1 (pg_c mi).1 && Nat.ble k2 (pg_c mi).2 with
        | true => K (.inl none) w
        | false => False
      | _ => False
    | .new _ => match f with
      | 0 => match al && mm_fr w.length lv st w && (Nat.ble (k1 + 1) (pg_c mi).1 && Nat.ble (k2 + b) (pg_c mi).2) with
        | true => M (k1 + 1) (k2 + b) nx lv (.ref w.length :: st) (w ++ [(w.length, .inr (a, pg_z a))])
        | false => False
      | _ => match mm_rok st && (Nat.ble (k1 + 1) (pg_c mi).1 && Nat.ble (k2 + 6) (pg_c mi).2) with
        | true => K (.inr a) w
        | false => False
    | .newarray _ => match st with
      | .int x :: r => match al && mm_fr w.length lv r w && (Nat.ble (k1 + 1) (pg_c mi).1 && Nat.ble (k2 + b) (pg_c mi).2) with
        | true => x = c ∧ M (k1 + 1) (k2 + b) nx lv (.ref w.length :: r) (w ++ [(w.length, pg_ar a b)])
        | false => False
      | _ => False
    | .invokestatic _ => match f with
      | 0 => match mm_pop b st [] with
        | some (As, r) => match mm_rok r && (Nat.ble (k1 + (pg_c a).1) (pg_c mi).1 && Nat.ble (k2 + (pg_c a).2) (pg_c mi).2) with
          | true => cal false a As w (fun o w' => mm_back mi K M (k1 + (pg_c a).1) (k2 + (pg_c a).2) pc nx lv r o w')
          | false => False
        | none => False
      | _ => match st with
        | .int n :: .int dp :: .ref k2' :: .int sp :: .ref k1' :: r => mm_cpy M k1 k2 nx lv r w k1' sp k2' dp n
        | _ => False
    | .invokevirtual _ => match mm_pop b st [] with
      | some (.ref k :: As, r) => match mm_rok r && (Nat.ble (k1 + (pg_c a).1) (pg_c mi).1 && Nat.ble (k2 + (pg_c a).2) (pg_c mi).2) && mm_is w k (pg_o a) with
        | true => cal false a (.ref k :: As) w (fun o w' => mm_back mi K M (k1 + (pg_c a).1) (k2 + (pg_c a).2) pc nx lv r o w')
        | false => False
      | _ => False
    | .invokespecial _ => match f with
      | 0 => match mm_pop b st [] with
        | some (.ref k :: As, r) => match mm_rok r && (Nat.ble (k1 + (pg_c a).1) (pg_c mi).1 && Nat.ble (k2 + (pg_c a).2) (pg_c mi).2) && (al && mm_fr w.length lv r w) with
          | true => cal true a (.ref k :: As) w (fun o w' => mm_back mi K M (k1 + (pg_c a).1) (k2 + (pg_c a).2) pc nx lv r o w')
          | false => False
        | _ => False
      | _ => match st with
        | .ref _ :: r => match mm_rok r with
          | true => M k1 k2 nx lv r w
          | false => False
        | _ => False
    | _ => False
/-- one instruction -/
def mm_step (cal : Bool → Nat → List Value → mm_W → mm_K → Prop) (scr : Option (Nat × (Nat → Int32))) (al : Bool) (mi : Nat) (K : mm_K) (M : mm_M) (k1 k2 pc : Nat) (lv : mm_L) (st : List Value) (w : mm_W) : Prop := match mm_at (pg_t mi) pc with
  | none => False
  | some e => match mm_smp scr e lv st w with
    | some (lv', st', w', ob) => mm_ob ob ∧ M k1 k2 e.2.2.1 lv' st' w'
    | none => mm_oth cal al mi K M k1 k2 pc lv st w e
/-- a set of states is closed: whatever steps into a part of it is in it; fewer locals may be known -/
def mm_clo (cal : Bool → Nat → List Value → mm_W → mm_K → Prop) (scr : Option (Nat × (Nat → Int32))) (al : Bool) (mi : Nat) (K : mm_K) (M : mm_M) : Prop :=
  (∀ N : mm_M, (∀ k1 k2 pc lv st w, N k1 k2 pc lv st w → M k1 k2 pc lv st w) → ∀ k1 k2 pc lv st w, mm_step cal scr al mi K N k1 k2 pc lv st w → M k1 k2 pc lv st w) ∧
  (∀ (ks : List Nat) k1 k2 pc lv st w, M k1 k2 pc (lv_pick lv ks) st w → M k1 k2 pc lv st w) ∧
  ∀ k1 k2 j1 j2 pc lv st w, k1 ≤ j1 → k2 ≤ j2 → M j1 j2 pc lv st w → M k1 k2 pc lv st w
/-- a method is entered, if its variables hold its arguments -/
def mm_ent (M : mm_M) (b : Bool) (av : List Value) (w : mm_W) : Prop := match b with
  | true => M 0 0 0 (lv_args 0 av) [] w
  | false => False
/-- from this state of method mi, calls at most d deep, it ends with K -/
def mm_wp : Nat → Option (Nat × (Nat → Int32)) → Bool → Nat → mm_K → mm_M
  | 0 => fun _ _ _ _ _ _ _ _ _ _ => False
  | d + 1 => fun scr al mi K k1 k2 pc lv st w => ∀ M : mm_M, mm_clo (fun al' mi' av w' K' => mm_ent (mm_wp d none al' mi' K') (Nat.ble (lg_sl av).length (pg_n mi')) av w') scr al mi K M → M k1 k2 pc lv st w
abbrev mm_cal (d : Nat) : Bool → Nat → List Value → mm_W → mm_K → Prop := fun al' mi' av w' K' => mm_ent (mm_wp d none al' mi' K') (Nat.ble (lg_sl av).length (pg_n mi')) av w'
theorem mm_one {d : Nat} {scr : Option (Nat × (Nat → Int32))} {al : Bool} {mi : Nat} {K : mm_K} {k1 k2 pc : Nat} {lv : mm_L} {st : List Value} {w : mm_W}
    (h : mm_step (mm_cal d) scr al mi K (mm_wp (d + 1) scr al mi K) k1 k2 pc lv st w) : mm_wp (d + 1) scr al mi K k1 k2 pc lv st w :=
  fun M hM => hM.1 (mm_wp (d + 1) scr al mi K) (fun _ _ _ _ _ _ hy => hy M hM) k1 k2 pc lv st w h
theorem mm_few {d : Nat} {scr : Option (Nat × (Nat → Int32))} {al : Bool} {mi : Nat} {K : mm_K} {k1 k2 pc : Nat} {lv lv' : mm_L} {st : List Value} {w : mm_W} (ks : List Nat) (he : lv_pick lv ks = lv')
    (h : mm_wp (d + 1) scr al mi K k1 k2 pc lv' st w) : mm_wp (d + 1) scr al mi K k1 k2 pc lv st w := by
  subst he
  exact fun M hM => hM.2.1 ks _ _ _ _ _ _ (h M hM)
theorem mm_wide {d : Nat} {scr : Option (Nat × (Nat → Int32))} {al : Bool} {mi : Nat} {K : mm_K} {k1 k2 pc : Nat} {lv : mm_L} {st : List Value} {w : mm_W} (j1 j2 : Nat) (h1 : k1 ≤ j1) (h2 : k2 ≤ j2)
    (h : mm_wp (d + 1) scr al mi K j1 j2 pc lv st w) : mm_wp (d + 1) scr al mi K k1 k2 pc lv st w :=
  fun M hM => hM.2.2 _ _ _ _ _ _ _ _ h1 h2 (h M hM)
theorem mm_ob_app : ∀ {a b : mm_B}, mm_ob (a ++ b) → mm_ob a ∧ mm_ob b
  | [], _, h => ⟨trivial, h⟩
  | _ :: _, _, h => ⟨⟨h.1, (mm_ob_app h.2).1⟩, (mm_ob_app h.2).2⟩
/-- n straight instructions at once: what mm_run computes -/
theorem mm_go {d : Nat} {scr : Option (Nat × (Nat → Int32))} {al : Bool} {mi : Nat} {K : mm_K} {k1 k2 : Nat} : ∀ (n : Nat) {pc pc' : Nat} {lv lv' : mm_L} {st st' : List Value} {w w' : mm_W} {ob : mm_B},
    mm_run (pg_t mi) scr n pc lv st w = some (pc', lv', st', w', ob) → mm_ob ob → mm_wp (d + 1) scr al mi K k1 k2 pc' lv' st' w' → mm_wp (d + 1) scr al mi K k1 k2 pc lv st w := by
  intro n
  induction n with
  | zero =>
    intro pc pc' lv lv' st st' w w' ob h ho k
    simp only [mm_run, Option.some.injEq, Prod.mk.injEq] at h
    obtain ⟨rfl, rfl, rfl, rfl, rfl⟩ := h
    exact k
  | succ n ih =>
    intro pc pc' lv lv' st st' w w' ob h ho k
    refine mm_one ?_
    unfold mm_run at h
    unfold mm_step
    cases hat : mm_at (pg_t mi) pc with
    | none => rw [hat] at h; simp at h
    | some e =>
      rw [hat] at h
      simp only [] at h ⊢
      cases hs : mm_smp scr e lv st w with
      | some x =>
        obtain ⟨lv1, st1, w1, ob1⟩ := x
        rw [hs] at h
        simp only [] at h ⊢
        cases hr : mm_run (pg_t mi) scr n e.2.2.1 lv1 st1 w1 with
        | none => rw [hr] at h; simp at h
        | some y =>
          obtain ⟨pc2, lv2, st2, w2, ob2⟩ := y
          rw [hr] at h
          simp only [Option.some.injEq, Prod.mk.injEq] at h
          obtain ⟨rfl, rfl, rfl, rfl, rfl⟩ := h
          exact ⟨(mm_ob_app ho).1, ih hr (mm_ob_app ho).2 k⟩
      | none =>
        rw [hs] at h
        simp only [] at h ⊢
        obtain ⟨q, i, nx, a, b, f, c, cl⟩ := e
        simp only [] at h
        split at h
        · exact ih h ho k
        · simp at h
