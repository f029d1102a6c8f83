/-! the abstract machine: heap, values, conditions -/
/-- the heap: how many cells, kind and length of each, ints, longs, references -/
abbrev sr_H : Type := Nat × (Nat → Nat × Nat) × (Nat → Nat → Int32) × (Nat → Nat → Int64) × (Nat → Nat → Option Nat)
/-- where it stands: the first address, the classes, the array classes by kind, the arrays that nobody writes -/
abbrev sr_G : Type := Nat × va_G × (Nat → ClassId) × (Nat → Nat)
def sr_cr (G : sr_G) (r : Nat) : Nat := if r < 1000000 then G.1 + r else G.2.2.2 (r - 1000000)
def sr_cv (G : sr_G) (v : Value) : Value := match v with
  | .ref r => .ref (sr_cr G r)
  | w => w
def sr_k (n : Int) : Int32 := Int32.ofInt n
def sr_u {α : Type} (f : Nat → Nat → α) (r k : Nat) (v : α) : Nat → Nat → α := fun a b => if a = r ∧ b = k then v else f a b
def sr_setI (h : sr_H) (r k : Nat) (v : Int32) : sr_H := (h.1, h.2.1, sr_u h.2.2.1 r k v, h.2.2.2.1, h.2.2.2.2)
def sr_setJ (h : sr_H) (r k : Nat) (v : Int64) : sr_H := (h.1, h.2.1, h.2.2.1, sr_u h.2.2.2.1 r k v, h.2.2.2.2)
def sr_setR (h : sr_H) (r k : Nat) (v : Option Nat) : sr_H := (h.1, h.2.1, h.2.2.1, h.2.2.2.1, sr_u h.2.2.2.2 r k v)
def sr_setA (h : sr_H) (r : Nat) (f : Nat → Int32) : sr_H := (h.1, h.2.1, fun a b => if a = r then f b else h.2.2.1 a b, h.2.2.2.1, h.2.2.2.2)
def sr_new (h : sr_H) (kd : Nat × Nat) : sr_H := (h.1 + 1, fun r => if r = h.1 then kd else h.2.1 r, fun r k => if r = h.1 then 0 else h.2.2.1 r k, fun r k => if r = h.1 then 0 else h.2.2.2.1 r k, fun r k => if r = h.1 then none else h.2.2.2.2 r k)
def sr_av (h : sr_H) (r k t : Nat) : Value := match t with
  | 0 => .int (h.2.2.1 r k)
  | 1 => .long (h.2.2.2.1 r k)
  | _ => va_rf (h.2.2.2.2 r k)
def sr_fv (G : sr_G) (h : sr_H) (r k t : Nat) : Value := match t with
  | 0 => .int (h.2.2.1 r k)
  | 1 => .long (h.2.2.2.1 r k)
  | _ => va_rf ((h.2.2.2.2 r k).map (sr_cr G))
def sr_ts (c : Nat) : List Nat := sr_fts.getD c []
def sr_fs (G : sr_G) (h : sr_H) (r c : Nat) : List Value := (List.range (sr_ts c).length).map (fun k => sr_fv G h r k ((sr_ts c).getD k 0))
def sr_ce (G : sr_G) (h : sr_H) (r : Nat) : va_E :=
  if (h.2.1 r).1 = 9 then .inl (G.2.2.1 9, (h.2.1 r).2, .inr (.inr (.inr (.inr (fun j => (h.2.2.2.2 r j).map (sr_cr G))))))
  else if 6 ≤ (h.2.1 r).1 then .inl (G.2.2.1 (h.2.1 r).1, (h.2.1 r).2, .inl (h.2.2.1 r))
  else .inr ((h.2.1 r).1, sr_fs G h r (h.2.1 r).1)
/-- a machine state holds the abstract heap -/
def sr_hw (G : sr_G) (h : sr_H) (s : State) (H : Heap) : Prop :=
  H.size = G.1 + h.1 ∧ h.1 ≤ 1000000 ∧ (∀ r, (h.2.1 r).1 < 10 → r < 1000000 → r < h.1 ∧ va_at G.2.1 vwCl (G.1 + r, sr_ce G h r) H) ∧ (∀ r, (h.2.1 r).2 < 2147483648) ∧
  (∀ r, (h.2.1 r).1 < 10 → ¬ r < 1000000 → (h.2.1 r).1 = 7 ∧ va_T .int (sr_cr G r) (h.2.1 r).2 (fun j => .int (h.2.2.1 r j)) (fun q => G.1 ≤ q) s H) ∧
  (∀ i, i < 2 → va_Z "SecondRoom" (if i = 0 then "KIND_LETTERS" else "KIND_ABOVE") "[I" (.ref (G.2.2.2 i)) (fun q => G.1 ≤ q) s H)
def sr_tys (G : sr_G) : List (ClassId × FieldType) := [(G.2.2.1 6, .byte), (G.2.2.1 7, .int), (G.2.2.1 8, .boolean), (G.2.2.1 9, .object "SecondRoom$Night")]
/-- the words that go on to every callee, and those of nest mates -/
def sr_T : List Cond := lw_tbl.filter goodWord
def sr_nest (w : Cond) : Bool := match w with
  | .methodLinkNest _ _ _ _ => true
  | .fieldLinkNest _ _ _ _ _ _ => true
  | _ => false
def sr_nw : List Cond := lw_tbl.filter sr_nest
def sr_kn (G : sr_G) (s : State) : Prop := va_K G.2.1 vwCl (sr_tys G) s ∧ (∀ w ∈ sr_nw, va_Nw w s) ∧ va_AO "SecondRoom$Night" s
/-- the locals -/
abbrev sr_L : Type := List (Option Value)
def sr_lr (G : sr_G) (ls : Array Slot) (L : sr_L) : Prop := ls.size = L.length ∧ lv_wf ls ∧ ∀ (i : Nat) (v : Value), L[i]? = some (some v) → ls[i]? = some (.val (sr_cv G v))
/-- what stays the same on a method's walk -/
def sr_Fx (G : sr_G) (md : sr_MD) (d : Nat) (p : Program) (R : Room) (s : State) (m : MethodId) (args : Array Value) (meth : Method) (c : Code) : Prop :=
  p.tables.exec = Jvm.exec ∧ c.code = md.2.2.1 ∧ meth.sig.returnType = md.2.2.2.2.1 ∧ c.maxLocals = md.2.2.2.1 ∧ s.vm.findClass (sr_R md.1) = some m.cls ∧ (∀ w ∈ sr_T, w.before args s = true) ∧ meth.locks = false ∧ meth.name = md.2.1.name ∧ sr_kn G s ∧ d ≤ R.frames ∧ 40 * d ≤ R.locals ∧ md.1 < 9
/-- a return instruction, with its answer -/
def sr_ri (md : sr_MD) (r : Option Value) (pc : Nat) : Prop :=
  (∃ v : Int32, r = some (.int v) ∧ decode md.2.2.1 pc = .ok (.ireturn, 1) ∧ (md.2.2.2.2.1 = some .int ∨ md.2.2.2.2.1 = some .boolean ∧ (v = 0 ∨ v = 1))) ∨
  (∃ v : Int64, r = some (.long v) ∧ decode md.2.2.1 pc = .ok (.lreturn, 1) ∧ md.2.2.2.2.1 = some .long) ∨
  (r = none ∧ decode md.2.2.1 pc = .ok (.return_, 1) ∧ md.2.2.2.2.1 = none)
def sr_Rt (G : sr_G) (md : sr_MD) (P : Option Value → sr_H → Prop) (p : Program) (l : Launch) (e : Env) (R : Room) (s : State) (m : MethodId) (args : Array Value) (below : List Frame) (meth : Method) (c : Code) (Q : State → Prop) : Prop :=
  ∀ (r : Option Value) (h : sr_H) (H : Heap) (locs : List Loc) (cells slots pc : Nat) (ls : Array Slot), P r h → sr_hw G h s H → (∀ q ∈ locs, G.1 ≤ q.base) → cells ≤ R.cells → slots ≤ R.slots → sr_ri md r pc →
    W p l e R s m args below meth c H locs cells slots Q (F0 m pc ls (r.toList.map (sr_cv G)))
/-- from every state that holds h, the method at pc comes to a return with P -/
def sr_Go (md : sr_MD) (d pc : Nat) (L : sr_L) (st : List Value) (b : Nat × Nat) (h : sr_H) (P : Option Value → sr_H → Prop) : Prop :=
  ∀ (G : sr_G) (p : Program) (l : Launch) (e : Env) (R : Room) (s : State) (m : MethodId) (args : Array Value) (below : List Frame) (meth : Method) (c : Code) (H : Heap) (locs : List Loc) (cells slots : Nat) (Q : State → Prop) (ls : Array Slot),
    sr_Fx G md d p R s m args meth c → sr_Rt G md P p l e R s m args below meth c Q → sr_hw G h s H → sr_lr G ls L → L.length = md.2.2.2.1 → (∀ q ∈ locs, G.1 ≤ q.base) → cells + b.1 ≤ R.cells → slots + b.2 ≤ R.slots →
    W p l e R s m args below meth c H locs cells slots Q (F0 m pc ls (st.map (sr_cv G)))
def sr_fl (As : List Value) : sr_L := As.flatMap (fun v => match v with
  | .long x => [some (.long x), none]
  | .double x => [some (.double x), none]
  | w => [some w])
def sr_en (As : List Value) (n : Nat) : sr_L := sr_fl As ++ List.replicate (n - (sr_fl As).length) none
/-- a method's contract -/
def sr_Call (md : sr_MD) (d : Nat) (As : List Value) (h : sr_H) (P : Option Value → sr_H → Prop) : Prop := sr_Go md d 0 (sr_en As md.2.2.2.1) [] md.2.2.2.2.2.2 h P
/-- a store to a local: what stands ahead of it must not be the first half of a long -/
def sr_st (L : sr_L) (i : Nat) (v : Value) : Option sr_L := match i with
  | 0 => bif Nat.blt 0 L.length then some (L.set 0 (some v)) else none
  | j + 1 => match L[j]? with
    | some (some (.long _)) => none
    | some (some (.double _)) => none
    | _ => bif Nat.blt (j + 1) L.length then some (L.set (j + 1) (some v)) else none
def sr_st2 (L : sr_L) (i : Nat) (v : Value) : Option sr_L := match i with
  | 0 => bif Nat.blt 1 L.length then some ((L.set 0 (some v)).set 1 none) else none
  | j + 1 => match L[j]? with
    | some (some (.long _)) => none
    | some (some (.double _)) => none
    | _ => bif Nat.blt (j + 2) L.length then some ((L.set (j + 1) (some v)).set (j + 2) none) else none
def sr_ldI (L : sr_L) (i : Nat) (st : List Value) : Option (sr_L × List Value) := match L[i]? with
  | some (some (.int x)) => some (L, .int x :: st)
  | _ => none
def sr_ldJ (L : sr_L) (i : Nat) (st : List Value) : Option (sr_L × List Value) := match L[i]? with
  | some (some (.long x)) => some (L, .long x :: st)
  | _ => none
def sr_ldR (L : sr_L) (i : Nat) (st : List Value) : Option (sr_L × List Value) := match L[i]? with
  | some (some (.ref x)) => some (L, .ref x :: st)
  | some (some .null) => some (L, .null :: st)
  | _ => none
def sr_stI (L : sr_L) (i : Nat) (st : List Value) : Option (sr_L × List Value) := match st with
  | .int x :: st => (sr_st L i (.int x)).map (fun L' => (L', st))
  | _ => none
def sr_stR (L : sr_L) (i : Nat) (st : List Value) : Option (sr_L × List Value) := match st with
  | .ref x :: st => (sr_st L i (.ref x)).map (fun L' => (L', st))
  | .null :: st => (sr_st L i .null).map (fun L' => (L', st))
  | _ => none
def sr_stJ (L : sr_L) (i : Nat) (st : List Value) : Option (sr_L × List Value) := match st with
  | .long x :: st => (sr_st2 L i (.long x)).map (fun L' => (L', st))
  | _ => none
def sr_bin (L : sr_L) (st : List Value) (f : Int32 → Int32 → Int32) : Option (sr_L × List Value) := match st with
  | .int y :: .int x :: st => some (L, .int (f x y) :: st)
  | _ => none
def sr_binJ (L : sr_L) (st : List Value) (f : Int64 → Int64 → Int64) : Option (sr_L × List Value) := match st with
  | .long y :: .long x :: st => some (L, .long (f x y) :: st)
  | _ => none
/-- instructions that touch locals and stack alone -/
def sr_sim (own : Nat) (i : Instr) (L : sr_L) (st : List Value) : Option (sr_L × List Value) := match i with
  | .iconst n => some (L, .int (sr_k n) :: st)
  | .bipush n => bif decide (-128 ≤ n) && decide (n < 128) then some (L, .int (sr_k n) :: st) else none
  | .sipush n => bif decide (-32768 ≤ n) && decide (n < 32768) then some (L, .int (sr_k n) :: st) else none
  | .lconst n => some (L, .long (Int64.ofNat n.val) :: st)
  | .ldc k => match (sr_ics own).lookup k with
    | some v => some (L, .int v :: st)
    | none => none
  | .ldc_w k => match (sr_ics own).lookup k with
    | some v => some (L, .int v :: st)
    | none => none
  | .ldc2_w k => match (sr_lcs own).lookup k with
    | some v => some (L, .long v :: st)
    | none => none
  | .iload_n k => sr_ldI L k.val st
  | .iload k => sr_ldI L k st
  | .lload_n k => sr_ldJ L k.val st
  | .lload k => sr_ldJ L k st
  | .aload_n k => sr_ldR L k.val st
  | .aload k => sr_ldR L k st
  | .istore_n k => sr_stI L k.val st
  | .istore k => sr_stI L k st
  | .lstore_n k => sr_stJ L k.val st
  | .lstore k => sr_stJ L k st
  | .astore_n k => sr_stR L k.val st
  | .astore k => sr_stR L k st
  | .iinc k n => match L[k]? with
    | some (some (.int x)) => (sr_st L k (.int (x + sr_k n))).map (fun L' => (L', st))
    | _ => none
  | .iadd => sr_bin L st (fun x y => x + y)
  | .isub => sr_bin L st (fun x y => x - y)
  | .imul => sr_bin L st (fun x y => x * y)
  | .iand => sr_bin L st (fun x y => x &&& y)
  | .ior => sr_bin L st (fun x y => x ||| y)
  | .ixor => sr_bin L st (fun x y => x ^^^ y)
  | .ishl => sr_bin L st (fun x y => x <<< (y &&& 31))
  | .ishr => sr_bin L st (fun x y => x >>> (y &&& 31))
  | .iushr => sr_bin L st (fun x y => (x.toUInt32 >>> (y.toUInt32 &&& Int32.toUInt32 31)).toInt32)
  | .ladd => sr_binJ L st (fun x y => x + y)
  | .lmul => sr_binJ L st (fun x y => x * y)
  | .lcmp => match st with
    | .long y :: .long x :: st => some (L, .int (lg_cmp x y) :: st)
    | _ => none
  | .i2l => match st with
    | .int x :: st => some (L, .long x.toInt64 :: st)
    | _ => none
  | .l2i => match st with
    | .long x :: st => some (L, .int x.toInt32 :: st)
    | _ => none
  | .i2b => match st with
    | .int x :: st => some (L, .int x.toInt8.toInt32 :: st)
    | _ => none
  | .dup => match st with
    | .int x :: st => some (L, .int x :: .int x :: st)
    | .ref x :: st => some (L, .ref x :: .ref x :: st)
    | _ => none
  | .dup2 => match st with
    | .int x :: .ref r :: st => some (L, .int x :: .ref r :: .int x :: .ref r :: st)
    | _ => none
  | .pop => match st with
    | .int _ :: st => some (L, st)
    | _ => none
  | _ => none
def sr_pop (n : Nat) (st As : List Value) : Option (List Value × List Value) := match n, st with
  | 0, st => some (As, st)
  | n + 1, v :: st => sr_pop n st (v :: As)
  | _ + 1, [] => none
/-- finality of the fields -/
def sr_fin (c k : Nat) : Bool := match vwCl[c]? with
  | some q => (q.2.1 k).2.2.2
  | none => true
def sr_sw (J : Nat → sr_L → List Value → Nat × Nat → sr_H → (Option Value → sr_H → Prop) → Prop) (pc : Nat) (L : sr_L) (st : List Value) (b : Nat × Nat) (h : sr_H) (P : Option Value → sr_H → Prop) (x : Int32) (dflt : Int) : Int → List Int → Prop
  | _, [] => J ((pc : Int) + dflt).toNat L st b h P
  | lo, o :: os => if x = sr_k lo then J ((pc : Int) + o).toNat L st b h P else sr_sw J pc L st b h P x dflt (lo + 1) os
def sr_lsw (J : Nat → sr_L → List Value → Nat × Nat → sr_H → (Option Value → sr_H → Prop) → Prop) (pc : Nat) (L : sr_L) (st : List Value) (b : Nat × Nat) (h : sr_H) (P : Option Value → sr_H → Prop) (x : Int32) (dflt : Int) : List (Int × Int) → Prop
  | [] => J ((pc : Int) + dflt).toNat L st b h P
  | (k, o) :: os => if x = sr_k k then J ((pc : Int) + o).toNat L st b h P else sr_lsw J pc L st b h P x dflt os
def sr_ak (t : ArrayType) : Nat := match t with
  | .int => 7
  | .byte => 6
  | .boolean => 8
  | _ => 99
/-- the condition of a list of instructions (each with the place of the next, and its target) -/
def sr_wq (md : sr_MD) (d : Nat) (J : Nat → sr_L → List Value → Nat × Nat → sr_H → (Option Value → sr_H → Prop) → Prop) : List (Instr × Nat × Nat) → Nat → sr_L → List Value → Nat × Nat → sr_H → (Option Value → sr_H → Prop) → Prop
  | [], pc, L, st, b, h, P => J pc L st b h P
  | (i, nx, tg) :: is, pc, L, st, b, h, P =>
    match sr_sim md.1 i L st with
    | some q => sr_wq md d J is nx q.1 q.2 b h P
    | none =>
      match i with
      | .goto _ => J tg L st b h P
      | .ifCond c _ => match st with
        | .int x :: st => match c with
          | .eq => if x = 0 then J tg L st b h P else sr_wq md d J is nx L st b h P
          | .ne => if x = 0 then sr_wq md d J is nx L st b h P else J tg L st b h P
          | .lt => if x < 0 then J tg L st b h P else sr_wq md d J is nx L st b h P
          | .ge => if x < 0 then sr_wq md d J is nx L st b h P else J tg L st b h P
          | .gt => if 0 < x then J tg L st b h P else sr_wq md d J is nx L st b h P
          | .le => if 0 < x then sr_wq md d J is nx L st b h P else J tg L st b h P
        | _ => False
      | .if_icmp c _ => match st with
        | .int y :: .int x :: st => match c with
          | .eq => if x = y then J tg L st b h P else sr_wq md d J is nx L st b h P
          | .ne => if x = y then sr_wq md d J is nx L st b h P else J tg L st b h P
          | .lt => if x < y then J tg L st b h P else sr_wq md d J is nx L st b h P
          | .ge => if x < y then sr_wq md d J is nx L st b h P else J tg L st b h P
          | .gt => if y < x then J tg L st b h P else sr_wq md d J is nx L st b h P
          | .le => if y < x then sr_wq md d J is nx L st b h P else J tg L st b h P
        | _ => False
      | .ifnull _ => match st with
        | .ref _ :: st => sr_wq md d J is nx L st b h P
        | .null :: st => J tg L st b h P
        | _ => False
      | .ifnonnull _ => match st with
        | .ref _ :: st => J tg L st b h P
        | .null :: st => sr_wq md d J is nx L st b h P
        | _ => False
      | .tableswitch dflt lo _ offs => match st with
        | .int x :: st => sr_sw J pc L st b h P x dflt lo offs.toList
        | _ => False
      | .lookupswitch dflt ps => match st with
        | .int x :: st => sr_lsw J pc L st b h P x dflt ps.toList
        | _ => False
      | .idiv => match st with
        | .int y :: .int x :: st => ¬ y = 0 ∧ sr_wq md d J is nx L (.int (x / y) :: st) b h P
        | _ => False
      | .irem => match st with
        | .int y :: .int x :: st => ¬ y = 0 ∧ sr_wq md d J is nx L (.int (x - x / y * y) :: st) b h P
        | _ => False
      | .ldiv => match st with
        | .long y :: .long x :: st => ¬ y = 0 ∧ sr_wq md d J is nx L (.long (x / y) :: st) b h P
        | _ => False
      | .lrem => match st with
        | .long y :: .long x :: st => ¬ y = 0 ∧ sr_wq md d J is nx L (.long (x - x / y * y) :: st) b h P
        | _ => False
      | .getfield idx => match st with
        | .ref r :: st => match (sr_fls md.1).lookup idx with
          | some q => bif Nat.beq (h.2.1 r).1 q.1 && Nat.blt r 1000000 then sr_wq md d J is nx L (sr_av h r q.2 ((sr_ts q.1).getD q.2 0) :: st) b h P else False
          | none => False
        | _ => False
      | .putfield idx => match st with
        | v :: .ref r :: st => match (sr_fls md.1).lookup idx with
          | some q => bif Nat.beq (h.2.1 r).1 q.1 && Nat.blt r 1000000 && (!(sr_fin q.1 q.2) || (decide (md.2.1.name = "<init>") && Nat.beq md.1 q.1)) then
              (match (sr_ts q.1).getD q.2 0, v with
              | 0, .int x => sr_wq md d J is nx L st b (sr_setI h r q.2 x) P
              | 1, .long x => sr_wq md d J is nx L st b (sr_setJ h r q.2 x) P
              | 2, .ref x => sr_wq md d J is nx L st b (sr_setR h r q.2 (some x)) P
              | 2, .null => sr_wq md d J is nx L st b (sr_setR h r q.2 none) P
              | _, _ => False) else False
          | none => False
        | _ => False
      | .getstatic idx => match (sr_sls md.1).lookup idx with
        | some j => sr_wq md d J is nx L (.ref (1000000 + j) :: st) b h P
        | none => False
      | .arraylength => match st with
        | .ref r :: st => bif Nat.ble 6 (h.2.1 r).1 && Nat.blt (h.2.1 r).1 10 then sr_wq md d J is nx L (.int (nI (h.2.1 r).2) :: st) b h P else False
        | _ => False
      | .iaload => match st with
        | .int i :: .ref r :: st => bif Nat.beq (h.2.1 r).1 7 then (∃ k : Nat, (i = nI k ∧ k < (h.2.1 r).2) ∧ sr_wq md d J is nx L (.int (h.2.2.1 r k) :: st) b h P) else False
        | _ => False
      | .baload => match st with
        | .int i :: .ref r :: st => bif (Nat.beq (h.2.1 r).1 6 || Nat.beq (h.2.1 r).1 8) && Nat.blt r 1000000 then (∃ k : Nat, (i = nI k ∧ k < (h.2.1 r).2) ∧ sr_wq md d J is nx L (.int (h.2.2.1 r k) :: st) b h P) else False
        | _ => False
      | .aaload => match st with
        | .int i :: .ref r :: st => bif Nat.beq (h.2.1 r).1 9 && Nat.blt r 1000000 then (∃ k : Nat, (i = nI k ∧ k < (h.2.1 r).2) ∧ sr_wq md d J is nx L (va_rf (h.2.2.2.2 r k) :: st) b h P) else False
        | _ => False
      | .iastore => match st with
        | .int x :: .int i :: .ref r :: st => bif Nat.beq (h.2.1 r).1 7 && Nat.blt r 1000000 then (∃ k : Nat, (i = nI k ∧ k < (h.2.1 r).2) ∧ sr_wq md d J is nx L st b (sr_setI h r k x) P) else False
        | _ => False
      | .bastore => match st with
        | .int x :: .int i :: .ref r :: st =>
            bif Nat.beq (h.2.1 r).1 6 && Nat.blt r 1000000 then (∃ k : Nat, (i = nI k ∧ k < (h.2.1 r).2) ∧ sr_wq md d J is nx L st b (sr_setI h r k x.toInt8.toInt32) P)
            else (bif Nat.beq (h.2.1 r).1 8 && Nat.blt r 1000000 then (∃ k : Nat, (i = nI k ∧ k < (h.2.1 r).2 ∧ (x = 0 ∨ x = 1)) ∧ sr_wq md d J is nx L st b (sr_setI h r k x) P) else False)
        | _ => False
      | .aastore => match st with
        | .ref x :: .int i :: .ref r :: st => bif Nat.beq (h.2.1 r).1 9 && Nat.blt r 1000000 && (Nat.beq (h.2.1 x).1 1 && Nat.blt x 1000000) then (∃ k : Nat, (i = nI k ∧ k < (h.2.1 r).2) ∧ sr_wq md d J is nx L st b (sr_setR h r k (some x)) P) else False
        | _ => False
      | .new idx => match (sr_nls md.1).lookup idx with
        | some c => (1 ≤ b.1 ∧ (sr_ts c).length ≤ b.2 ∧ h.1 < 1000000) ∧ sr_wq md d J is nx L (.ref h.1 :: st) (b.1 - 1, b.2 - (sr_ts c).length) (sr_new h (c, 0)) P
        | none => False
      | .newarray t => match st with
        | .int n :: st => ∃ N : Nat, (n = nI N ∧ N < 100000 ∧ 1 ≤ b.1 ∧ N ≤ b.2 ∧ h.1 < 1000000 ∧ sr_ak t < 10) ∧ sr_wq md d J is nx L (.ref h.1 :: st) (b.1 - 1, b.2 - N) (sr_new h (sr_ak t, N)) P
        | _ => False
      | .anewarray idx => match st with
        | .int n :: st => (sr_nls md.1).lookup idx = some 1 ∧ ∃ N : Nat, (n = nI N ∧ N < 100000 ∧ 1 ≤ b.1 ∧ N ≤ b.2 ∧ h.1 < 1000000) ∧ sr_wq md d J is nx L (.ref h.1 :: st) (b.1 - 1, b.2 - N) (sr_new h (9, N)) P
        | _ => False
      | .invokevirtual idx => match (sr_mls md.1).lookup idx with
        | some (0, md') => match sr_pop md'.2.2.2.2.2.1 st [] with
          | some (As, .ref r :: rest) => bif Nat.beq (h.2.1 r).1 md'.1 && Nat.blt r 1000000 && Nat.ble (sr_fl (.ref r :: As)).length md'.2.2.2.1 && Nat.ble (rest.map fun v => v.category).sum 8 && (Nat.ble md'.2.2.2.2.2.2.1 b.1 && Nat.ble md'.2.2.2.2.2.2.2 b.2) then
              (match d with
              | 0 => False
              | d' + 1 => sr_Call md' d' (.ref r :: As) h (fun v h1 => sr_wq md d J is nx L (v.toList ++ rest) (b.1 - md'.2.2.2.2.2.2.1, b.2 - md'.2.2.2.2.2.2.2) h1 P)) else False
          | _ => False
        | _ => False
      | .invokestatic idx => match (sr_mls md.1).lookup idx with
        | some (1, md') => match sr_pop md'.2.2.2.2.2.1 st [] with
          | some (As, rest) => bif Nat.ble (sr_fl As).length md'.2.2.2.1 && Nat.ble (rest.map fun v => v.category).sum 8 && (Nat.ble md'.2.2.2.2.2.2.1 b.1 && Nat.ble md'.2.2.2.2.2.2.2 b.2) then
              (match d with
              | 0 => False
              | d' + 1 => sr_Call md' d' As h (fun v h1 => sr_wq md d J is nx L (v.toList ++ rest) (b.1 - md'.2.2.2.2.2.2.1, b.2 - md'.2.2.2.2.2.2.2) h1 P)) else False
          | none => False
        | some (4, _) => match st with
          | .int n :: .int dp :: .ref a :: .int sp :: .ref a0 :: rest => bif Nat.beq (h.2.1 a).1 7 && Nat.beq (h.2.1 a0).1 7 && Nat.blt a 1000000 && Nat.blt a0 1000000 && Nat.ble (rest.map fun v => v.category).sum 8 && Nat.blt 0 d then
              (∃ i j k : Nat, (sp = nI i ∧ dp = nI j ∧ n = nI k ∧ i + k ≤ (h.2.1 a0).2 ∧ j + k ≤ (h.2.1 a).2) ∧ sr_wq md d J is nx L rest b (sr_setA h a (va_cpy (h.2.2.1 a0) (h.2.2.1 a) i j k)) P) else False
          | _ => False
        | some (6, _) => match st with
          | .int y :: .int x :: rest => bif Nat.ble (rest.map fun v => v.category).sum 8 && Nat.blt 0 d then sr_wq md d J is nx L (.int (if x < y then y else x) :: rest) b h P else False
          | _ => False
        | _ => False
      | .invokespecial idx => match (sr_mls md.1).lookup idx with
        | some (3, _) => match st with
          | .ref _ :: rest => bif Nat.ble (rest.map fun v => v.category).sum 8 && Nat.blt 0 d then sr_wq md d J is nx L rest b h P else False
          | _ => False
        | some (k, md') => match sr_pop md'.2.2.2.2.2.1 st [] with
          | some (As, .ref r :: rest) => bif (Nat.beq k 2 || Nat.beq k 5) && Nat.blt r 1000000 && Nat.ble (sr_fl (.ref r :: As)).length md'.2.2.2.1 && Nat.ble (rest.map fun v => v.category).sum 8 && (Nat.ble md'.2.2.2.2.2.2.1 b.1 && Nat.ble md'.2.2.2.2.2.2.2 b.2) then
              (match d with
              | 0 => False
              | d' + 1 => sr_Call md' d' (.ref r :: As) h (fun v h1 => sr_wq md d J is nx L (v.toList ++ rest) (b.1 - md'.2.2.2.2.2.2.1, b.2 - md'.2.2.2.2.2.2.2) h1 P)) else False
          | _ => False
        | none => False
      | .ireturn => match st with
        | [.int v] => match md.2.2.2.2.1 with
          | some .int => P (some (.int v)) h
          | some .boolean => (v = 0 ∨ v = 1) ∧ P (some (.int v)) h
          | _ => False
        | _ => False
      | .lreturn => match st with
        | [.long v] => match md.2.2.2.2.1 with
          | some .long => P (some (.long v)) h
          | _ => False
        | _ => False
      | .return_ => match st with
        | [] => match md.2.2.2.2.1 with
          | none => P none h
          | _ => False
        | _ => False
      | _ => False
abbrev sr_wp (md : sr_MD) (d : Nat) : List (Instr × Nat × Nat) → Nat → sr_L → List Value → Nat × Nat → sr_H → (Option Value → sr_H → Prop) → Prop := sr_wq md d (sr_Go md d)
/-- the list is the code from pc on -/
def sr_tgs (i : Instr) (pc tg : Nat) : Bool := match i with
  | .goto o => decide ((pc : Int) + o = tg)
  | .ifCond _ o => decide ((pc : Int) + o = tg)
  | .if_icmp _ o => decide ((pc : Int) + o = tg)
  | .ifnull o => decide ((pc : Int) + o = tg)
  | .ifnonnull o => decide ((pc : Int) + o = tg)
  | .tableswitch dflt lo hi offs => decide (0 ≤ (pc : Int) + dflt) && offs.toList.all (fun o => decide (0 ≤ (pc : Int) + o)) && decide (lo + offs.toList.length = hi + 1) && decide (-1000 ≤ lo) && decide (hi ≤ 1000)
  | .lookupswitch dflt ps => decide (0 ≤ (pc : Int) + dflt) && ps.toList.all (fun o => decide (0 ≤ (pc : Int) + o.2) && decide (-1000 ≤ o.1) && decide (o.1 ≤ 1000)) && (ps.toList.zip (ps.toList.drop 1)).all (fun q => decide (q.1.1 < q.2.1))
  | _ => true
/-- the length of an instruction -/
def sr_len (i : Instr) (n : Nat) : Nat := match i with
  | .bipush _ => 2
  | .sipush _ => 3
  | .ldc _ => 2
  | .ldc_w _ => 3
  | .ldc2_w _ => 3
  | .iload _ => 2
  | .lload _ => 2
  | .aload _ => 2
  | .istore _ => 2
  | .lstore _ => 2
  | .astore _ => 2
  | .iinc _ _ => 3
  | .goto _ => 3
  | .ifCond _ _ => 3
  | .if_icmp _ _ => 3
  | .ifnull _ => 3
  | .ifnonnull _ => 3
  | .getfield _ => 3
  | .putfield _ => 3
  | .getstatic _ => 3
  | .new _ => 3
  | .newarray _ => 2
  | .anewarray _ => 3
  | .invokevirtual _ => 3
  | .invokestatic _ => 3
  | .invokespecial _ => 3
  | .tableswitch _ _ _ _ => n
  | .lookupswitch _ _ => n
  | _ => 1
def sr_is (cc : ByteArray) : Nat → List (Instr × Nat × Nat) → Bool
  | _, [] => true
  | pc, (i, nx, tg) :: is => decide (nx = pc + sr_len i (nx - pc)) && decide (decode cc pc = .ok (i, sr_len i (nx - pc))) && sr_tgs i pc tg && sr_is cc nx is
def sr_end : Nat → List (Instr × Nat × Nat) → Nat
  | pc, [] => pc
  | _, (_, nx, _) :: is => sr_end nx is
theorem sr_is_suf {cc : ByteArray} {as bs : List (Instr × Nat × Nat)} : ∀ {pc : Nat}, sr_is cc pc (as ++ bs) = true → sr_is cc (sr_end pc as) bs = true := by
  induction as with
  | nil => intro pc h; exact h
  | cons a as ih =>
    intro pc h
    obtain ⟨i, nx, tg⟩ := a
    simp only [List.cons_append, sr_is, Bool.and_eq_true] at h
    exact ih h.2
