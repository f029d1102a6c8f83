/-! the law's calls: what lies below the first cell stays -/
theorem sr_old {s s' : State} {locs : List Loc} {cells slots : Nat} (h : s.sameButNew s' locs cells slots) {a : Nat} (ha : a < s.heap.size) (hl : ∀ q ∈ locs, q.base ≠ a) : s'.heap[a]? = s.heap[a]? := by
  have hc : s.heap[a]? = some s.heap[a] := Array.getElem?_eq_getElem ha
  obtain ⟨c', e1, e2, e3, e4⟩ := h.2.2.2.2.2 a _ hc
  rw [hc, e1, e2]
  have : c'.slots = s.heap[a].slots := by
    apply Array.ext_getElem?
    intro i
    exact e4 i (fun hq => hl _ hq rfl)
  rw [this]
theorem sr_wX {p : Program} {l : Launch} {e : Env} {R : Room} {s : State} {m : MethodId} {args : Array Value} {below : List Frame} {meth : Method} {c : Code} {H : Heap} {locs : List Loc} {cells slots : Nat} {Q : State → Prop} {g : JFrame} {N : Nat} (hlc : ∀ q ∈ locs, N ≤ q.base) (k : (∀ a, a < s.heap.size → ¬ N ≤ a → H[a]? = s.heap[a]?) → W p l e R s m args below meth c H locs cells slots Q g) : W p l e R s m args below meth c H locs cells slots Q g := by
  intro T hT X
  refine k (fun a ha hG => ?_) T hT X
  have := sr_old X.same ha (fun q hq e => hG (by rw [← e]; exact hlc q hq))
  rw [← hT]
  exact this
/-- the arrays that nobody writes, behind a call -/
def sr_ag (h h1 : sr_H) : Prop := ∀ r, ¬ r < 1000000 → (h.2.1 r).1 < 10 → (h1.2.1 r).1 < 10 → (h1.2.1 r).2 = (h.2.1 r).2 ∧ ∀ j, j < (h.2.1 r).2 → h1.2.2.1 r j = h.2.2.1 r j
theorem sr_ag_hw {G : sr_G} {h h1 : sr_H} {s : State} {H H1 : Heap} (w : sr_hw G h s H) (w' : sr_hw G h1 s H1) (o : ∀ a, a < H.size → ¬ G.1 ≤ a → H1[a]? = H[a]?) : sr_ag h h1 := by
  intro r hr k1 k2
  obtain ⟨c1, d1, d2, d3, d4, d5, d6, d7⟩ := (w.2.2.2.2.1 r k1 hr).2.kept o
  obtain ⟨c2, f1, f2, f3, f4, f5, f6, f7⟩ := (w'.2.2.2.2.1 r k2 hr).2
  have e : c1 = c2 := Option.some.inj (d1.symm.trans f1)
  subst e
  have n : (h1.2.1 r).2 = (h.2.1 r).2 := nI_inj (by have := w'.2.2.2.1 r; omega) (by have := w.2.2.2.1 r; omega) (f5.symm.trans d5)
  refine ⟨n, fun j hj => ?_⟩
  have := (d6 j hj).symm.trans (f6 j (by rw [n]; exact hj))
  injection this with this
  injection this with this
  exact this.symm
section FR
variable {md md' : sr_MD} {d d' pc nx tg idx : Nat} {L L' : sr_L} {st st' As rest : List Value} {b : Nat × Nat} {h : sr_H} {P P' : Option Value → sr_H → Prop}
abbrev sr_Qr (G : sr_G) (P : Option Value → sr_H → Prop) : Array Value → State → Outcome → State → Prop := fun _ st o t => ∃ (r : Option Value) (h' : sr_H), o = .returned (r.map (sr_cv G)) ∧ P r h' ∧ sr_hw G h' t t.heap ∧ ∀ a, a < st.heap.size → ¬ G.1 ≤ a → t.heap[a]? = st.heap[a]?
theorem sr_metR (hok : sr_okY md) (hAs : (sr_fl As).length ≤ md.2.2.2.1) (ho : md.1 < 9) (hc : sr_Call md d As h P) (G : sr_G) (l : Launch) : Met l md.2.1 (sr_ws md) (sr_rm md d) (sr_Pc G As h) (sr_Qr G P) md.2.2.2.2.2.2.1 md.2.2.2.2.2.2.2 (fun q => G.1 ≤ q) := by
  obtain ⟨hcode, hini, hcls, hplain, hmaxL, hdesc⟩ := hok
  refine Met.ofW (cc := md.2.2.1) (maxL := md.2.2.2.1) (ret := md.2.2.2.2.1) hplain rfl ?_
  intro p e s m args below meth c s₁ B hml hv
  obtain ⟨rfl, hw, hK⟩ := hv
  have hts := atoms_spec (ws := sr_ws md) B.pre
  have hown : s.vm.findClass (sr_R md.1) = some m.cls := by rw [← hcls]; exact findClass_of_methodNamed B.named
  have hnm : meth.name = md.2.1.name := (name_of_methodNamed B.named B.method).1
  have hlk := B.notSynchronized
  have hlen : (sr_en As md.2.2.2.1).length = md.2.2.2.1 := by
    unfold sr_en
    rw [List.length_append, List.length_replicate]
    omega
  have hle := lv_entry (As.map (sr_cv G)) (n := md.2.2.2.1) (by rw [sr_fl_len]; exact hAs)
  rw [lg_entry_eq]
  have lr : sr_lr G ((lg_sl (As.map (sr_cv G)) ++ List.replicate (md.2.2.2.1 - (lg_sl (As.map (sr_cv G))).length) Slot.unset).toArray) (sr_en As md.2.2.2.1) := by
    refine ⟨by rw [hlen]; exact hle.1, hle.2.1, fun i v hi => ?_⟩
    unfold sr_en at hi
    have hi2 : i < (sr_fl As).length := by
      by_cases h9 : i < (sr_fl As).length
      · exact h9
      · rw [List.getElem?_append_right (by omega)] at hi
        rw [List.getElem?_replicate] at hi
        split at hi <;> cases hi
    rw [List.getElem?_append_left hi2] at hi
    rw [List.getElem?_toArray, List.getElem?_append_left (by rw [sr_fl_len]; exact hi2)]
    exact sr_fl_at G As i v hi
  refine hc G p l e (sr_rm md d) s m _ below meth c s.heap [] 0 0 _ _ ⟨B.exec, B.bytes, B.returns, hml, hown, fun w hw => hts w (List.mem_cons_of_mem _ hw), hlk, hnm, hK, Nat.le_refl _, Nat.le_refl _, ho⟩ ?_ hw lr hlen (fun q hq => by cases hq) (Nat.le_of_eq (Nat.zero_add _)) (Nat.le_of_eq (Nat.zero_add _))
  intro r h' H' locs' cells' slots' pc' ls' hP hw' hlc' hc1' hc2' hri
  refine W.widen (k := md.2.2.2.2.2.2.1) (n := md.2.2.2.2.2.2.2) hc1' hc2' ?_
  refine sr_wX hlc' (fun old0 => ?_)
  have old : ∀ t : State, t.heap = H' → ∀ a, a < s.heap.size → ¬ G.1 ≤ a → t.heap[a]? = s.heap[a]? := fun t ht a ha hG => by rw [ht]; exact old0 a ha hG
  rcases hri with ⟨v, rfl, hdec, hrt⟩ | ⟨v, rfl, hdec, hrt⟩ | ⟨rfl, hdec, hrt⟩
  · rcases hrt with hrt | ⟨hrt, h01⟩
    · exact W.iret (v := v) B.exec B.bytes (by rw [B.returns]; exact hrt) (fun t ht hW => ⟨_, h', rfl, hP, by rw [ht]; exact sr_hw_moved hW.alike hw', old t ht⟩) hlc' hdec
    · exact W.zret (v := v) (ty := .boolean) B.exec B.bytes (by rw [B.returns]; exact hrt) (by rcases h01 with rfl | rfl <;> decide +kernel) (fun t ht hW => ⟨_, h', rfl, hP, by rw [ht]; exact sr_hw_moved hW.alike hw', old t ht⟩) hlc' hdec
  · exact W.lret (v := v) B.exec B.bytes (by rw [B.returns]; exact hrt) (fun t ht hW => ⟨_, h', rfl, hP, by rw [ht]; exact sr_hw_moved hW.alike hw', old t ht⟩) hlc' hdec
  · exact W.vret B.exec B.bytes (by rw [B.returns]; exact hrt) (fun t ht hW => ⟨_, h', rfl, hP, by rw [ht]; exact sr_hw_moved hW.alike hw', old t ht⟩) hlc' hdec
theorem sg_invR {r : Nat} (hd : decode md.2.2.1 pc = .ok (.invokevirtual idx, 3)) (hq : (sr_mls md.1).lookup idx = some (0, md')) (hst : st = As.reverse ++ .ref r :: rest) (hn : As.length = md'.2.2.2.2.2.1) (hk : (h.2.1 r).1 = md'.1) (hr : r < 1000000) (hAs : (sr_fl (.ref r :: As)).length ≤ md'.2.2.2.1) (h8 : (rest.map fun v => v.category).sum ≤ 8) (hb1 : md'.2.2.2.2.2.2.1 ≤ b.1) (hb2 : md'.2.2.2.2.2.2.2 ≤ b.2)
    (hc : sr_Call md' d (.ref r :: As) h P') (kk : ∀ v h1, P' v h1 → sr_ag h h1 → sr_Go md (d + 1) (pc + 3) L (v.toList ++ rest) (b.1 - md'.2.2.2.2.2.2.1, b.2 - md'.2.2.2.2.2.2.2) h1 P) : sr_Go md (d + 1) pc L st b h P := by
  intro G p l e R s m args below meth c H locs cells slots Q ls F Rt hw lr hlen hlc hc1 hc2
  obtain ⟨hx, hb, hr_, hml, hown, hts, hlk, hnm, hK, hd1, hd2, ho⟩ := id F
  obtain ⟨hl, hokY, hinst, hsel, h6⟩ : Cond.methodLink (sr_R md.1) idx md'.2.1 ∈ lw_tbl ∧ sr_okV md' := sr_mls_ok ho _ (sr_lookup hq)
  obtain ⟨hcode, hini, hcls, hplain, hmaxL, hdesc⟩ := id hokY
  have hat := (hw.2.2.1 r (by omega) hr).2
  rw [sr_ce_obj hk h6] at hat
  obtain ⟨T9, N9, hT9⟩ := sr_cls h6
  obtain ⟨cellB, cb1, cb2, cb3⟩ := va_recv hK.1 (sr_P1 hat) hT9 (q0 := 0) rfl
  have cw : CallW R s args (sr_R md.1) md'.2.1.cls idx md'.2.1 md'.2.2.1 md'.2.2.2.1 md'.2.2.2.2.1 (sr_ws md') (sr_rm md' d) md'.2.2.2.2.2.2.1 md'.2.2.2.2.2.2.2 md'.2.2.2.2.2.1 := by
    refine cwV _ hts (sr_goodIn ?_) rfl rfl rfl ⟨rfl, hdesc⟩ (sr_roomW hd1 hd2 hmaxL)
    intro w hw
    rcases List.mem_append.mp hw with hw | hw
    · rcases List.mem_cons.mp hw with rfl | hw
      · exact sr_inT hl rfl
      rcases List.mem_cons.mp hw with rfl | hw
      · exact sr_inT hinst rfl
      rcases List.mem_cons.mp hw with rfl | hw
      · exact sr_inT hsel rfl
      rcases List.mem_cons.mp hw with rfl | hw
      · exact sr_inT hini rfl
      · cases hw
    · exact sr_ws_in hokY w hw
  have hM := sr_metR hokY hAs (by omega) hc G l
  have hrun := va_runV (As := As.map (sr_cv G)) (rest := rest.map (sr_cv G)) (b := G.1 + r) (H := H) (g := F0 m pc ls (st.map (sr_cv G))) (locs := locs) (cells := cells) (slots := slots) (below := below) (meth := meth) (e := e) ⟨hx, hb, hml, hown, hts⟩ hM cw ⟨sr_blind G _ h, ⟨cellB, cb1, cb2, by rw [hcls]; exact cb3⟩, fun U hU hW => ⟨by rw [sr_args G hr], by rw [hU]; exact sr_hw_moved hW.alike hw, sr_kn_moved hW hK⟩⟩ rfl (by rw [List.length_map, hn]) (by show ls.size = _; rw [lr.1, hlen]) (by show st.map (sr_cv G) = _; rw [hst, List.map_append, List.map_reverse, sr_args G hr]) (lv_room (sr_wsum h8)) hd ⟨by omega, by omega⟩
  intro T hT X
  obtain ⟨v, st₀, t, T', L9, h0, X', hL, e1, e2, ⟨r', h', hv, hp', hw', old⟩, stp⟩ := hrun T hT X
  have hv : v = r'.map (sr_cv G) := by injection hv
  have hw2 : sr_hw G h' s T'.heap := by
    rw [e1]
    exact sr_hw_moved (by rw [← e2]; exact X'.warmed.alike.symm) hw'
  have ag : sr_ag h h' := sr_ag_hw hw hw2 (fun a ha hG => by
    rw [e1]
    rw [h0] at old
    exact old a ha hG)
  have hl2 : ∀ q ∈ locs ++ L9, G.1 ≤ q.base := fun q hq => (List.mem_append.mp hq).elim (hlc q) (hL q)
  have es : v.toList ++ rest.map (sr_cv G) = (r'.toList ++ rest).map (sr_cv G) := by
    rw [hv, List.map_append]
    cases r' <;> rfl
  obtain ⟨t2, a1, b1⟩ := kk r' h' hp' ag G p l e R s m args below meth c T'.heap (locs ++ L9) (cells + md'.2.2.2.2.2.2.1) (slots + md'.2.2.2.2.2.2.2) Q ls F Rt hw2 lr hlen hl2 (by show cells + _ + (b.1 - _) ≤ _; omega) (by show slots + _ + (b.2 - _) ≤ _; omega) T' rfl X'
  refine ⟨t2, stp t2 ?_, b1⟩
  rw [es]
  exact a1
/-- what comes back is of the method's type -/
theorem sr_Call_ty (k : sr_Call md d As h P) : sr_Call md d As h (fun r h1 => P r h1 ∧ ∃ pc, sr_ri md r pc) := by
  intro G p l e R s m args below meth c H locs cells slots Q ls F Rt hw lr hlen hlc hc1 hc2
  exact k G p l e R s m args below meth c H locs cells slots Q ls F (fun r h H locs cells slots pc ls p1 w1 w2 w3 w4 w5 => Rt r h H locs cells slots pc ls ⟨p1, pc, w5⟩ w1 w2 w3 w4 w5) hw lr hlen hlc hc1 hc2
theorem sr_ri_int {r : Option Value} {pc : Nat} (ht : md.2.2.2.2.1 = some .int) (h : sr_ri md r pc) : ∃ v : Int32, r = some (.int v) := by
  rcases h with ⟨v, e, _⟩ | ⟨v, e, _, q⟩ | ⟨e, _, q⟩
  · exact ⟨v, e⟩
  · rw [ht] at q; cases q
  · rw [ht] at q; cases q
theorem sr_ri_long {r : Option Value} {pc : Nat} (ht : md.2.2.2.2.1 = some .long) (h : sr_ri md r pc) : ∃ v : Int64, r = some (.long v) := by
  rcases h with ⟨v, e, _, q⟩ | ⟨v, e, _⟩ | ⟨e, _, q⟩
  · rcases q with q | q
    · rw [ht] at q; cases q
    · rw [ht] at q; cases q.1
  · exact ⟨v, e⟩
  · rw [ht] at q; cases q
end FR
