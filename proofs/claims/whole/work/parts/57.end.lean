/-! THE CLAIM OUT OF ONE WALK OF THE LAW'S BODY. Your part is whole_start (and what it stands on); all else here is the same for every law, but numbers. -/
def R_law : String := "SecondRoomLaw"
def lw_P (b : Addr) (xs : List Int32) (args : Array Value) (s : State) : Prop := args = #[.ref b] ∧ s.IntsAt b xs ∧ xs.length ≤ 384 ∧ (Jvm.Cond.and given_1 narrow_1).before args s = true
def lw_Q (_ : Array Value) (s : State) (o : Outcome) (t : State) : Prop := o = .returned (some (.int 1)) ∧ Framed s o t [] 600000 7302250
def lw_Z (below : List Frame) (a : Array Value) (s : State) : State → Prop := fun t => ∃ o, t.status = .running ∧ Ended t below o ∧ lw_Q a s o t
/-- the law's own end, with 1 on the stack, nothing written that was there before, its room as the claim has it -/
theorem lw_ret {p : Program} {l : Launch} {e : Env} {s : State} {m : MethodId} {below : List Frame} {meth : Method} {c : Code} {b : Nat} (hx : p.tables.exec = Jvm.exec) (hb : c.code = code) (hr : meth.sig.returnType = ret) (hlocks : meth.locks = false) {pc : Nat} {H : Heap} {ls : Array Slot} (hdg : decode code pc = .ok (.ireturn, 1)) : W p l e room_1 s m #[Value.ref b] below meth c H [] 600000 7302250 (lw_Z below #[Value.ref b] s) (F0 m pc ls [.int 1]) := by
  intro T hT X
  obtain ⟨fs, hret, hrun, hended, hW, hframe⟩ := X.leave (v := some (.int 1)) (hlocks := hlocks) (fun h => by rw [hr] at h; cases h)
  have hmeth' : T.vm.method? m = some meth := X.method'
  refine ⟨T.setFrames fs, ?_, .returned (some (.int 1)), hrun, hended, rfl, ⟨_, rfl⟩, hW, hframe⟩
  jvm_step X.here [X.here.top, hx, hb, hdg, hmeth', hr, ret, narrow_b1]
  (try refine ⟨rfl, ?_⟩); (try refine ⟨rfl, ?_⟩)
  first | (intro acts; rw [hret _ acts rfl rfl rfl]) | rw [hret _ _ rfl rfl rfl]
  exact Steps.refl _
/-- what holds at the law's entry: the machine, the code, the tables' words (any of lw_tbl by 'hts w (by decide +kernel)'), the script of L ints xs at the cell b, what the Statement gives of the start (any of its parts by flat_of_before) -/
def lw_At (p : Program) (s : State) (m : MethodId) (meth : Method) (c : Code) (b L : Nat) (xs : Nat → Int32) : Prop :=
  p.tables.exec = Jvm.exec ∧ c.code = code ∧ meth.sig.returnType = ret ∧ c.maxLocals = 4 ∧ s.vm.findClass R_law = some m.cls ∧ (∀ w ∈ lw_tbl, w.before #[Value.ref b] s = true) ∧ va_X b L xs s s.heap ∧ b < s.heap.size ∧ meth.locks = false ∧ (Jvm.Cond.and given_1 narrow_1).before #[Value.ref b] s = true ∧ meth.name = x.name
/-- what the tables say of the classes -/
theorem sr_kn_cl {s : State} {args : Array Value} (hts : ∀ w ∈ lw_tbl, w.before args s = true) {own idx ci : Nat} (h : sr_okN own idx ci) : ∃ (cC : ClassId) (iS : Nat → Nat), ∀ q, vwCl[ci]? = some q → u_Kn s q.1 q.2.1 q.2.2 cC iS := by
  obtain ⟨C, T, N, hc, -, hi, -⟩ := h
  obtain ⟨cC, iS, k⟩ := u_known (C := C) (T := T) (N := N) (n := N) hts (fun w hw => (List.mem_filter.mp ((sr_cl hc).2.2.1 w hw)).1) (hts _ hi)
  refine ⟨cC, iS, fun q hq => ?_⟩
  cases hc.symm.trans hq
  exact k
theorem sr_kn_ar {s : State} {args : Array Value} {ty : FieldType} (h : (Cond.arrayClass ty).before args s = true) : ∃ cA : ClassId, ArrOfT s cA ty ∧ s.vm.findClass ("[" ++ ty.toString) = some cA := by
  obtain ⟨c, k, comp, h1, h2, h3⟩ := Cond.arrayClass_spec h
  exact ⟨c, fun n z => ⟨fun k h => (by cases h), k, h2, comp, h3⟩, h1⟩
theorem sr_overW : Cond.arrayOver (.object "SecondRoom$Night") ∈ lw_tbl ∧ Cond.laysStatic "SecondRoom" "KIND_LETTERS" "[I" ∈ lw_tbl ∧ Cond.laysStatic "SecondRoom" "KIND_ABOVE" "[I" ∈ lw_tbl ∧ Cond.initialized "SecondRoom" ∈ lw_tbl := by decide +kernel
theorem sr_nestT {w : Cond} (h : sr_nest w = true) : w.onTables = true := by
  cases w <;> first | rfl | (simp [sr_nest] at h)
theorem sr_kn_all {s : State} {args : Array Value} (hts : ∀ w ∈ lw_tbl, w.before args s = true) : ∃ (D : va_G) (cA : Nat → ClassId), ∀ (n : Nat) (adr : Nat → Nat), sr_kn (n, D, cA, adr) s := by
  obtain ⟨c0, i0, k0⟩ := sr_kn_cl hts (sr_nls_ok_4 (30, 0) (by decide))
  obtain ⟨c1, i1, k1⟩ := sr_kn_cl hts (sr_nls_ok_4 (40, 1) (by decide))
  obtain ⟨c2, i2, k2⟩ := sr_kn_cl hts (sr_nls_ok_4 (21, 2) (by decide))
  obtain ⟨c3, i3, k3⟩ := sr_kn_cl hts (sr_nls_ok_4 (7, 3) (by decide))
  obtain ⟨c4, i4, k4⟩ := sr_kn_cl hts (sr_nls_ok_6 (7, 4) (by decide))
  obtain ⟨c5, i5, k5⟩ := sr_kn_cl hts (sr_nls_ok_6 (10, 5) (by decide))
  obtain ⟨cB, aB, fB⟩ := sr_kn_ar (hts _ sr_arrW.2.1)
  obtain ⟨cI, aI, fI⟩ := sr_kn_ar (hts _ sr_arrW.1)
  obtain ⟨cZ, aZ, fZ⟩ := sr_kn_ar (hts _ sr_arrW.2.2)
  obtain ⟨comp, cN, kN, n1, -, n2, n3, n4⟩ := Cond.arrayOver_spec (hts _ sr_overW.1)
  refine ⟨(fun c => match c with | 0 => c0 | 1 => c1 | 2 => c2 | 3 => c3 | 4 => c4 | _ => c5, fun c => match c with | 0 => i0 | 1 => i1 | 2 => i2 | 3 => i3 | 4 => i4 | _ => i5), fun k => match k with | 6 => cB | 7 => cI | 8 => cZ | _ => cN, fun n adr => ⟨⟨fun c q hq => ?_, fun k q hk => ?_⟩, fun w hw => ?_, va_AO.of (hts _ sr_overW.1)⟩⟩
  · match c, hq with
    | 0, hq => exact k0 q hq
    | 1, hq => exact k1 q hq
    | 2, hq => exact k2 q hq
    | 3, hq => exact k3 q hq
    | 4, hq => exact k4 q hq
    | 5, hq => exact k5 q hq
    | n + 6, hq => simp [vwCl] at hq
  · match k, hk with
    | 0, hk => cases hk; exact ⟨aB, fB⟩
    | 1, hk => cases hk; exact ⟨aI, fI⟩
    | 2, hk => cases hk; exact ⟨aZ, fZ⟩
    | 3, hk => cases hk; exact ⟨fun n z => ⟨fun k h => (by cases h), kN, n2, comp, n3⟩, kN, comp, n2, n3, n1, n4⟩
    | n + 4, hk => simp [sr_tys] at hk
  · obtain ⟨h1, h2⟩ := List.mem_filter.mp hw
    exact va_Nw.of (sr_nestT h2) (hts w h1)
theorem sr_lets (j : Nat) (hj : j < 6) : ∀ {s : State} {args : Array Value}, (∀ c ∈ flatC (Jvm.Cond.and given_1 narrow_1), c.before args s = true) → (Term.elem (Term.static "SecondRoom" "KIND_LETTERS" "[I") (.int (Int32.ofNat j))).eval args s none [] s = some (.int (nI (sp_let j))) := by
  intro s args hs
  match j, hj with
  | 0, _ => exact Cond.eq_int (hs (Cond.eq (Term.elem (Term.static "SecondRoom" "KIND_LETTERS" "[I") (.int 0)) (.int 103)) (by decide +kernel)) rfl
  | 1, _ => exact Cond.eq_int (hs (Cond.eq (Term.elem (Term.static "SecondRoom" "KIND_LETTERS" "[I") (.int 1)) (.int 115)) (by decide +kernel)) rfl
  | 2, _ => exact Cond.eq_int (hs (Cond.eq (Term.elem (Term.static "SecondRoom" "KIND_LETTERS" "[I") (.int 2)) (.int 99)) (by decide +kernel)) rfl
  | 3, _ => exact Cond.eq_int (hs (Cond.eq (Term.elem (Term.static "SecondRoom" "KIND_LETTERS" "[I") (.int 3)) (.int 112)) (by decide +kernel)) rfl
  | 4, _ => exact Cond.eq_int (hs (Cond.eq (Term.elem (Term.static "SecondRoom" "KIND_LETTERS" "[I") (.int 4)) (.int 108)) (by decide +kernel)) rfl
  | 5, _ => exact Cond.eq_int (hs (Cond.eq (Term.elem (Term.static "SecondRoom" "KIND_LETTERS" "[I") (.int 5)) (.int 117)) (by decide +kernel)) rfl
theorem sr_abvs (j : Nat) (hj : j < 6) : ∀ {s : State} {args : Array Value}, (∀ c ∈ flatC (Jvm.Cond.and given_1 narrow_1), c.before args s = true) → (Term.elem (Term.static "SecondRoom" "KIND_ABOVE" "[I") (.int (Int32.ofNat j))).eval args s none [] s = some (.int (sp_abv j)) := by
  intro s args hs
  match j, hj with
  | 0, _ => exact Cond.eq_int (hs (Cond.eq (Term.elem (Term.static "SecondRoom" "KIND_ABOVE" "[I") (.int 0)) (.int (-1))) (by decide +kernel)) rfl
  | 1, _ => exact Cond.eq_int (hs (Cond.eq (Term.elem (Term.static "SecondRoom" "KIND_ABOVE" "[I") (.int 1)) (.int 0)) (by decide +kernel)) rfl
  | 2, _ => exact Cond.eq_int (hs (Cond.eq (Term.elem (Term.static "SecondRoom" "KIND_ABOVE" "[I") (.int 2)) (.int 0)) (by decide +kernel)) rfl
  | 3, _ => exact Cond.eq_int (hs (Cond.eq (Term.elem (Term.static "SecondRoom" "KIND_ABOVE" "[I") (.int 3)) (.int 0)) (by decide +kernel)) rfl
  | 4, _ => exact Cond.eq_int (hs (Cond.eq (Term.elem (Term.static "SecondRoom" "KIND_ABOVE" "[I") (.int 4)) (.int 1)) (by decide +kernel)) rfl
  | 5, _ => exact Cond.eq_int (hs (Cond.eq (Term.elem (Term.static "SecondRoom" "KIND_ABOVE" "[I") (.int 5)) (.int 3)) (by decide +kernel)) rfl
theorem hs_K00 {Ls r : Nat} : hs_K Ls 0 r = (99, 0) ∨ (¬ r < 1000000 ∧ ((r = 1000000 ∧ hs_K Ls 0 r = (7, 6)) ∨ (r = 1000001 ∧ hs_K Ls 0 r = (7, 6)) ∨ (r = 1000002 ∧ hs_K Ls 0 r = (7, Ls)))) := by
  by_cases c0 : r = 1000000
  · subst c0; exact Or.inr ⟨by decide, Or.inl ⟨rfl, rfl⟩⟩
  by_cases c1 : r = 1000001
  · subst c1; exact Or.inr ⟨by decide, Or.inr (Or.inl ⟨rfl, rfl⟩)⟩
  by_cases c2 : r = 1000002
  · subst c2; exact Or.inr ⟨by decide, Or.inr (Or.inr ⟨rfl, rfl⟩)⟩
  refine Or.inl ?_
  unfold hs_K
  rw [hs_blt, show decide (r < 0) = false from decide_eq_false (by omega)]
  cases q : Nat.ble 1000000 r with
  | false => rfl
  | true =>
    have q2 : 1000000 ≤ r := Nat.ble_eq.mp q
    have e : ∀ n, r ≠ n → Nat.beq r n = false := fun n hn => by
      cases q : Nat.beq r n with
      | false => rfl
      | true => exact absurd (Nat.eq_of_beq_eq_true q) hn
    show hp_K Ls 0 r = _
    unfold hp_K
    rw [hs_blt, show decide (r < 51) = false from decide_eq_false (by omega), q, e _ c0, e _ c1, e _ c2]
    rfl
theorem hs_K0 {Ls r : Nat} (h : (hs_K Ls 0 r).1 < 10) : ¬ r < 1000000 ∧ ((r = 1000000 ∧ hs_K Ls 0 r = (7, 6)) ∨ (r = 1000001 ∧ hs_K Ls 0 r = (7, 6)) ∨ (r = 1000002 ∧ hs_K Ls 0 r = (7, Ls))) := by
  rcases hs_K00 (Ls := Ls) (r := r) with q | q
  · rw [q] at h; exact absurd h (by decide)
  · exact q
/-- from the entry, for every script of at most 384 ints, the law comes to its end with true -/
theorem whole_start {p : Program} {e : Env} {s : State} {m : MethodId} {below : List Frame} {meth : Method} {c : Code} (l : Launch) {b L : Nat} {xs : Nat → Int32} (hL : L ≤ 384) (C0 : lw_At p s m meth c b L xs) : W p l e room_1 s m #[Value.ref b] below meth c s.heap [] 0 0 (lw_Z below #[Value.ref b] s) (entryFrame m ([Value.ref b] : List Value).toArray 4) := by
  obtain ⟨hx, hb, hr, hml, hown, hts, hX, hbl, hlk, hgv, hnm⟩ := C0
  have hf := flat_of_before _ hgv
  obtain ⟨D, cA, hkn⟩ := sr_kn_all hts
  obtain ⟨t0, ev0, T0⟩ := va_Tof (args := #[Value.ref b]) (s := s) (tm := Term.static "SecondRoom" "KIND_LETTERS" "[I") (ty := .int) (N := 6) (f := fun j => .int (nI (sp_let j))) (A := fun q => s.heap.size ≤ q) (by decide) (hf _ (by decide +kernel)) (Cond.eq_int (hf (Cond.eq (Term.length (Term.static "SecondRoom" "KIND_LETTERS" "[I")) (.int 6)) (by decide +kernel)) rfl) (fun j hj => sr_lets j hj hf) (fun a ha => by omega)
  obtain ⟨t1, ev1, T1⟩ := va_Tof (args := #[Value.ref b]) (s := s) (tm := Term.static "SecondRoom" "KIND_ABOVE" "[I") (ty := .int) (N := 6) (f := fun j => .int (sp_abv j)) (A := fun q => s.heap.size ≤ q) (by decide) (hf _ (by decide +kernel)) (Cond.eq_int (hf (Cond.eq (Term.length (Term.static "SecondRoom" "KIND_ABOVE" "[I")) (.int 6)) (by decide +kernel)) rfl) (fun j hj => sr_abvs j hj hf) (fun a ha => by omega)
  have Z0 := va_Zof (A := fun q => s.heap.size ≤ q) (hts _ sr_overW.2.1) (hts _ sr_overW.2.2.2) ev0 (fun a ha => by omega)
  have Z1 := va_Zof (A := fun q => s.heap.size ≤ q) (hts _ sr_overW.2.2.1) (hts _ sr_overW.2.2.2) ev1 (fun a ha => by omega)
  obtain ⟨scr, x1, x2, x3, x4, x5⟩ := hX
  have T2 : va_T .int b L (fun j => .int (xs j)) (fun q => s.heap.size ≤ q) s s.heap := ⟨scr, x1, x2, x3, by omega, by rw [x4], x5, by omega⟩
  have hw : sr_hw (s.heap.size, D, cA, fun i => match i with | 0 => t0 | 1 => t1 | _ => b) (hs L 0 (hs_I0s xs) hs_J0 hs_R0) s s.heap := by
    refine ⟨rfl, Nat.zero_le _, fun r hr hr2 => absurd hr2 (hs_K0 hr).1, fun r => ?_, fun r hr hr2 => ?_, fun i hi => ?_⟩
    · show (hs_K L 0 r).2 < 2147483648
      rcases hs_K00 (Ls := L) (r := r) with q | ⟨_, ⟨_, q⟩ | ⟨_, q⟩ | ⟨_, q⟩⟩
      · rw [q]; decide
      · rw [q]; decide
      · rw [q]; decide
      · rw [q]; show L < _; omega
    · have hr : (hs_K L 0 r).1 < 10 := hr
      rcases (hs_K0 hr).2 with ⟨q, w⟩ | ⟨q, w⟩ | ⟨q, w⟩
      · subst q; exact ⟨rfl, T0⟩
      · subst q; exact ⟨rfl, T1⟩
      · subst q; exact ⟨rfl, T2⟩
    · match i, hi with
      | 0, _ => exact Z0
      | 1, _ => exact Z1
  have hle := lv_entry ([Value.ref b] : List Value) (n := 4) (Nat.le_of_ble_eq_true rfl)
  rw [lg_entry_eq]
  refine lw_all (d := 30) hL (s.heap.size, D, cA, fun i => match i with | 0 => t0 | 1 => t1 | _ => b) p l e room_1 s m #[Value.ref b] below meth c s.heap [] 0 0 _ _ ⟨hx, hb, hr, hml, hown, fun w hw => hts w (List.mem_filter.mp hw).1, hlk, hnm, hkn _ _, by decide, by decide, by decide⟩ ?_ hw ?_ rfl (fun q hq => by cases hq) (by decide) (by decide)
  · intro r h H locs cells slots pc ls hP hw' hlc hc1 hc2 hri
    subst hP
    obtain ⟨v, e1, hd, _⟩ | ⟨v, e1, _⟩ | ⟨e1, _⟩ := hri
    · refine W.widen (k := 600000) (n := 7302250) hc1 hc2 (va_forget hlc ?_)
      exact lw_ret hx hb hr hlk hd
    · cases e1
    · cases e1
  · refine ⟨hle.1, hle.2.1, fun i v hi => ?_⟩
    match i, hi with
    | 0, hi => cases hi; rfl
    | 1, hi => cases hi
    | 2, hi => cases hi
    | 3, hi => cases hi
    | n + 4, hi => cases hi
set_option maxHeartbeats 4000000 in
theorem lw_walk (l : Launch) (b : Addr) (xs : List Int32) : MetFree l x (headSpec (Jvm.Cond.code x code maxLocals ret :: tables_1) room_1) (lw_P b xs) (fun _ _ _ _ _ => True) lw_Q := by
  refine MetFree.of_bodyS (code := code) (maxLocals := maxLocals) (ret := ret) (by decide) ?_ ?_
  · intro args s m h hn
    obtain ⟨meth, c, h1, h2, h3, h4, h5, h6, -, -⟩ := Cond.code_spec hn (atoms_spec (ws := Jvm.Cond.code x code maxLocals ret :: tables_1) h _ List.mem_cons_self)
    exact ⟨meth, c, h1, h2, h3, h4, h5, h6⟩
  · intro p e s m args below meth c s₁ B hml0 hP _
    obtain ⟨rfl, hx, hbd, hgv⟩ := hP
    obtain ⟨scr, harrAt, hlist, hof, hsmall⟩ := hx
    obtain ⟨hcb, hkn, -, -⟩ := State.arrayAt?_spec harrAt
    have hown : s.vm.findClass R_law = some m.cls := findClass_of_methodNamed B.named
    have hts0 : ∀ c ∈ (Jvm.Cond.code x code maxLocals ret :: tables_1), c.before #[Value.ref b] s = true := atoms_spec (ws := Jvm.Cond.code x code maxLocals ret :: tables_1) B.pre
    have hts : ∀ w ∈ lw_tbl, w.before #[Value.ref b] s = true := k2_hts_sels lw_privs (fun w hw => hts0 w (List.mem_cons_of_mem _ hw)) lw_privs_ok
    have hml : c.maxLocals = 4 := B.maxLocals_eq (hts0 _ List.mem_cons_self)
    have X₀ : Stand p l e room_1 s m #[Value.ref b] below meth c s₁ [] 0 0 := Stand.of_body B
    have hh0 : s₁.heap = s.heap := by rw [B.state]; rfl
    have hsz : scr.slots.size = xs.length := by rw [← Array.length_toList, hlist, List.length_map]
    have hval : ∀ j : Nat, j < xs.length → scr.slots[j]? = some (.int (xs.getD j 0)) := fun j hj => by
      rw [← Array.getElem?_toList, hlist]
      simp [hj]
    have hbl : b < s.heap.size := (Array.getElem?_eq_some_iff.mp hcb).1
    have hX : va_X b xs.length (fun j => xs.getD j 0) s s.heap := ⟨scr, hcb, hof, hkn, hsz, hval⟩
    have K : W p l e room_1 s m #[Value.ref b] below meth c s₁.heap [] 0 0 (lw_Z below #[Value.ref b] s) (entryFrame m ([Value.ref b] : List Value).toArray 4) := by
      rw [hh0]
      exact whole_start l hbd ⟨B.exec, B.bytes, B.returns, hml, hown, hts, hX, hbl, B.notSynchronized, hgv, (name_of_methodNamed B.named B.method).1⟩
    obtain ⟨t, a1, o, b1, b2, b3⟩ := K s₁ rfl X₀
    exact ⟨t, o, a1, b1, b2, b3⟩
theorem lw_pre_spec {args : Array Value} {s : State} (h : (Jvm.Cond.and given_1 narrow_1).before args s = true) (hr : rest_1_c.before args s = true) : ∃ (b : Addr) (xs : List Int32), lw_P b xs args s := by
  have hs := flat_of_before _ h
  have hq := flat_of_before _ hr
  have hc : (Cond.count 1).before args s = true := hs _ (by decide +kernel)
  have harr : (Cond.arrayOf (.arg 0) .int).before args s = true := hs _ (by decide +kernel)
  have hle : (Cond.le (.length (.arg 0)) (.int 384)).before args s = true := hs _ (by decide +kernel)
  have hlen : (Cond.isInt (.length (.arg 0))).before args s = true := hq _ (by decide +kernel)
  have hall : (Cond.all (.arg 0) (.isInt (.elem (.arg 0) (.index 0)))).before args s = true := hq _ (by decide +kernel)
  obtain ⟨b, xs, hb, hx⟩ := State.ints_of_pre rfl harr hlen hall
  have hsm : xs.length < 2 ^ 31 := hx.choose_spec.2.2.2
  have hev : (Term.length (.arg 0)).eval args s none [] s = some (.int xs.length.toInt32) := hx.length_eval hb
  have hv := Cond.le_ints hev (show (Term.int 384).eval args s none [] s = some (.int 384) from rfl)
  have hd : xs.length.toInt32 ≤ 384 := by
    simpa [Cond.before, Cond.holds, hv] using hle
  have hN : xs.length ≤ 384 := (Int32.ofNat_le_ofNat hsm (by decide)).mp (show Int32.ofNat xs.length ≤ Int32.ofNat 384 from hd)
  exact ⟨b, xs, Cond.one_arg hc (show args[0]? = some (.ref b) from hb), hx, hN, h⟩
theorem lw_comes (l : Launch) : Comes l x (Jvm.Cond.code x code maxLocals ret :: tables_1) room_1 (fun tb e args s => Calls_1 tb e args s ∧ rest_1 tb e args s ∧ Pre_1 tb e args s)
    (fun _ _ args s o t => lw_Q args s o t) := by
  intro p e ha hc hk s m args below hf hfit hheap happ hpre
  obtain ⟨b, xs, hP⟩ := lw_pre_spec hpre.2.2 hpre.2.1
  obtain ⟨k, o, h1, h2, h3, hQ⟩ := lw_walk l b xs p e ha hc hk s m args below hf ((Spec.applies_iff_loose hf).mp happ).1 hP trivial
  exact ⟨k, o, h1, h2, h3, hQ⟩
theorem lw_frame {s t : State} {o : Outcome} {args : Array Value} (h : Framed s o t [] 600000 7302250) :
    Framed s o t (fieldLocs frame_1_writes args s ++ arrayLocs frame_1_arrays args s ++ staticLocs frame_1_statics s) 600000 7302250 := h
theorem lw_limb (L : Cond) (hL : ∀ (args : Array Value) (s t : State), L.after args s (.returned (some (.int 1))) t = true) :
    ArmFor flags0 classFile x code maxLocals ret World_1 tables_1 room_1 Calls_1 rest_1 Pre_1
      (fun tb e a s o t => postC L tb e a s o t ∧ Framed s o t (fieldLocs frame_1_writes a s ++ arrayLocs frame_1_arrays a s ++ staticLocs frame_1_statics s) 600000 7302250) := by
  intro l _ _ _ p e ha hc hk s m args below hf hfit hheap happ hpre
  obtain ⟨k, o, h1, h2, h3, rfl, hF⟩ := lw_comes l p e ha hc hk s m args below hf hfit hheap happ hpre
  exact ⟨k, _, h1, h2, h3, hL args s _, lw_frame hF⟩
theorem i_vc : Claimed_1_1 ∧ Claimed_1_2 := ⟨lw_limb limb_1_1 (fun args s t => by simp [limb_1_1, Cond.after, Cond.holds, Cond.value]), lw_limb limb_1_2 (fun args s t => Cond.after_iff.mpr (by
  first | (rw [show limb_1_2 = Cond.eq .result (.int 1) from rfl, Cond.eq_ints (x := 1) (y := 1) rfl rfl]; simp; done) | (simp [limb_1_2, Cond.value, Term.eval]; done)))⟩
