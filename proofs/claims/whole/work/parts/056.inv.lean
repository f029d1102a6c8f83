/-! calls, jumps; the condition implies the walk -/
theorem sr_pop_spec {n : Nat} : ∀ {st As Bs rest : List Value}, sr_pop n st As = some (Bs, rest) → ∃ Cs, Cs.length = n ∧ st = Cs ++ rest ∧ Bs = Cs.reverse ++ As := by
  induction n with
  | zero => intro st As Bs rest h; unfold sr_pop at h; cases h; exact ⟨[], rfl, rfl, rfl⟩
  | succ n ih =>
    intro st As Bs rest h
    cases st with
    | nil => simp [sr_pop] at h
    | cons v st =>
      obtain ⟨Cs, h1, h2, h3⟩ := ih (show sr_pop n st (v :: As) = some (Bs, rest) from h)
      exact ⟨v :: Cs, by simp [h1], by simp [h2], by simp [h3]⟩
theorem sr_blind (G : sr_G) (As : List Value) (h : sr_H) : FrameBlind (sr_Pc G As h) := fun a U g mk q => ⟨q.1, sr_hw_moved (s := U) (U := U.calling g mk a) (Vm.Alike.refl U.vm) q.2.1, sr_kn_same (s := U) (U := U.calling g mk a) rfl q.2.2⟩
section SM
variable {md md' : sr_MD} {d d' pc nx tg idx : Nat} {L L' : sr_L} {st st' As rest : List Value} {b : Nat × Nat} {h : sr_H} {P P' : Option Value → sr_H → Prop}
theorem sg_run {G : sr_G} {p : Program} {l : Launch} {e : Env} {R : Room} {s : State} {m : MethodId} {args a : Array Value} {below : List Frame} {meth : Method} {c : Code} {H : Heap} {locs : List Loc} {cells slots : Nat} {Q : State → Prop} {ls : Array Slot} {stk : List Value}
    (hr : va_Run p l e R s m args below meth c H locs cells slots md'.2.2.2.2.2.2.1 md'.2.2.2.2.2.2.2 (F0 m pc ls stk) (rest.map (sr_cv G)) (sr_Qc G P' a) (fun q => G.1 ≤ q))
    (F : sr_Fx G md d p R s m args meth c) (Rt : sr_Rt G md P p l e R s m args below meth c Q) (lr : sr_lr G ls L) (hlen : L.length = md.2.2.2.1) (hlc : ∀ q ∈ locs, G.1 ≤ q.base) (hc1 : cells + b.1 ≤ R.cells) (hc2 : slots + b.2 ≤ R.slots) (hb1 : md'.2.2.2.2.2.2.1 ≤ b.1) (hb2 : md'.2.2.2.2.2.2.2 ≤ b.2)
    (kk : ∀ v h1, P' v h1 → sr_Go md d (pc + 3) L (v.toList ++ rest) (b.1 - md'.2.2.2.2.2.2.1, b.2 - md'.2.2.2.2.2.2.2) h1 P) : W p l e R s m args below meth c H locs cells slots Q (F0 m pc ls stk) := by
  intro T hT X
  obtain ⟨v, st₀, t, T', L9, h0, X', hL, e1, e2, ⟨r, h', hv, hp, hw'⟩, stp⟩ := hr T hT X
  have hv : v = r.map (sr_cv G) := by injection hv
  have hw2 : sr_hw G h' s T'.heap := by
    rw [e1]
    exact sr_hw_moved (by rw [← e2]; exact X'.warmed.alike.symm) hw'
  have hl2 : ∀ q ∈ locs ++ L9, G.1 ≤ q.base := fun q hq => (List.mem_append.mp hq).elim (hlc q) (hL q)
  have es : v.toList ++ rest.map (sr_cv G) = (r.toList ++ rest).map (sr_cv G) := by
    rw [hv, List.map_append]
    cases r <;> rfl
  obtain ⟨t2, a1, b1⟩ := kk r h' hp G p l e R s m args below meth c T'.heap (locs ++ L9) (cells + md'.2.2.2.2.2.2.1) (slots + md'.2.2.2.2.2.2.2) Q ls F Rt hw2 lr hlen hl2 (by show cells + _ + (b.1 - _) ≤ _; omega) (by show slots + _ + (b.2 - _) ≤ _; omega) T' rfl X'
  refine ⟨t2, stp t2 ?_, b1⟩
  rw [es]
  exact a1
theorem sr_cls {ci : Nat} (h : ci < 6) : ∃ (T : u_T) (N : Nat), vwCl[ci]? = some (sr_R ci, T, N) := by
  match ci, h with
  | 0, _ => exact ⟨_, _, rfl⟩
  | 1, _ => exact ⟨_, _, rfl⟩
  | 2, _ => exact ⟨_, _, rfl⟩
  | 3, _ => exact ⟨_, _, rfl⟩
  | 4, _ => exact ⟨_, _, rfl⟩
  | 5, _ => exact ⟨_, _, rfl⟩
theorem sr_ws_in (hok : sr_okY md') : ∀ w ∈ sr_ws md', w ∈ sr_T := by
  intro w hw
  rcases List.mem_cons.mp hw with rfl | hw
  · exact sr_inT hok.1 rfl
  · exact hw
theorem sr_roomW {R : Room} (hd1 : d + 1 ≤ R.frames) (hd2 : 40 * (d + 1) ≤ R.locals) (hm : md'.2.2.2.1 ≤ 20) : (sr_rm md' d).frames + 1 ≤ R.frames ∧ 8 + (md'.2.2.2.1 + 11) + (sr_rm md' d).locals ≤ R.locals := ⟨hd1, by show 8 + _ + 40 * d ≤ _; omega⟩
theorem sr_args (G : sr_G) {r : Nat} (hr : r < 1000000) : (Value.ref r :: As).map (sr_cv G) = .ref (G.1 + r) :: As.map (sr_cv G) := by
  rw [List.map_cons]
  show Value.ref (sr_cr G r) :: _ = _
  rw [sr_cr_lo hr]
theorem sg_invV {r : Nat} (hd : decode md.2.2.1 pc = .ok (.invokevirtual idx, 3)) (hq : (sr_mls md.1).lookup idx = some (0, md')) (hst : st = As.reverse ++ .ref r :: rest) (hn : As.length = md'.2.2.2.2.2.1) (hk : (h.2.1 r).1 = md'.1) (hr : r < 1000000) (hAs : (sr_fl (.ref r :: As)).length ≤ md'.2.2.2.1) (h8 : (rest.map fun v => v.category).sum ≤ 8) (hb1 : md'.2.2.2.2.2.2.1 ≤ b.1) (hb2 : md'.2.2.2.2.2.2.2 ≤ b.2)
    (hc : sr_Call md' d (.ref r :: As) h P') (kk : ∀ v h1, P' v h1 → sr_Go md (d + 1) (pc + 3) L (v.toList ++ rest) (b.1 - md'.2.2.2.2.2.2.1, b.2 - md'.2.2.2.2.2.2.2) h1 P) : sr_Go md (d + 1) pc L st b h P := by
  intro G p l e R s m args below meth c H locs cells slots Q ls F Rt hw lr hlen hlc hc1 hc2
  obtain ⟨hx, hb, hr_, hml, hown, hts, hlk, hnm, hK, hd1, hd2, ho⟩ := id F
  obtain ⟨hl, hokY, hinst, hsel, h6⟩ : Cond.methodLink (sr_R md.1) idx md'.2.1 ∈ lw_tbl ∧ sr_okV md' := sr_mls_ok ho _ (sr_lookup hq)
  obtain ⟨hcode, hini, hcls, hplain, hmaxL, hdesc⟩ := id hokY
  have hat := (hw.2.2.1 r (by omega) hr).2
  rw [sr_ce_obj hk h6] at hat
  obtain ⟨T9, N9, hT9⟩ := sr_cls h6
  obtain ⟨cellB, cb1, cb2, cb3⟩ := va_recv hK.1 (sr_P1 hat) hT9 (q0 := 0) rfl
  have cw : CallW R s args (sr_R md.1) md'.2.1.cls idx md'.2.1 md'.2.2.1 md'.2.2.2.1 md'.2.2.2.2.1 (sr_ws md') (sr_rm md' d) md'.2.2.2.2.2.2.1 md'.2.2.2.2.2.2.2 md'.2.2.2.2.2.1 := by
    refine cwV _ hts (sr_goodIn ?_) rfl rfl rfl ⟨rfl, hdesc⟩ (sr_roomW hd1 hd2 hmaxL)
    intro w hw
    rcases List.mem_append.mp hw with hw | hw
    · rcases List.mem_cons.mp hw with rfl | hw
      · exact sr_inT hl rfl
      rcases List.mem_cons.mp hw with rfl | hw
      · exact sr_inT hinst rfl
      rcases List.mem_cons.mp hw with rfl | hw
      · exact sr_inT hsel rfl
      rcases List.mem_cons.mp hw with rfl | hw
      · exact sr_inT hini rfl
      · cases hw
    · exact sr_ws_in hokY w hw
  have hM := sr_met hokY hAs (by omega) hc G l
  have hrun := va_runV (As := As.map (sr_cv G)) (rest := rest.map (sr_cv G)) (b := G.1 + r) (H := H) (g := F0 m pc ls (st.map (sr_cv G))) (locs := locs) (cells := cells) (slots := slots) (below := below) (meth := meth) (e := e) ⟨hx, hb, hml, hown, hts⟩ hM cw ⟨sr_blind G _ h, ⟨cellB, cb1, cb2, by rw [hcls]; exact cb3⟩, fun U hU hW => ⟨by rw [sr_args G hr], by rw [hU]; exact sr_hw_moved hW.alike hw, sr_kn_moved hW hK⟩⟩ rfl (by rw [List.length_map, hn]) (by show ls.size = _; rw [lr.1, hlen]) (by show st.map (sr_cv G) = _; rw [hst, List.map_append, List.map_reverse, sr_args G hr]) (lv_room (sr_wsum h8)) hd ⟨by omega, by omega⟩
  exact sg_run hrun F Rt lr hlen hlc hc1 hc2 hb1 hb2 kk
theorem sg_invS (hd : decode md.2.2.1 pc = .ok (.invokestatic idx, 3)) (hq : (sr_mls md.1).lookup idx = some (1, md')) (hst : st = As.reverse ++ rest) (hn : As.length = md'.2.2.2.2.2.1) (ho9 : md'.1 < 9) (hAs : (sr_fl As).length ≤ md'.2.2.2.1) (h8 : (rest.map fun v => v.category).sum ≤ 8) (hb1 : md'.2.2.2.2.2.2.1 ≤ b.1) (hb2 : md'.2.2.2.2.2.2.2 ≤ b.2)
    (hc : sr_Call md' d As h P') (kk : ∀ v h1, P' v h1 → sr_Go md (d + 1) (pc + 3) L (v.toList ++ rest) (b.1 - md'.2.2.2.2.2.2.1, b.2 - md'.2.2.2.2.2.2.2) h1 P) : sr_Go md (d + 1) pc L st b h P := by
  intro G p l e R s m args below meth c H locs cells slots Q ls F Rt hw lr hlen hlc hc1 hc2
  obtain ⟨hx, hb, hr_, hml, hown, hts, hlk, hnm, hK, hd1, hd2, ho⟩ := id F
  obtain ⟨hl, hokY, hstat⟩ : Cond.methodLink (sr_R md.1) idx md'.2.1 ∈ lw_tbl ∧ sr_okS md' := sr_mls_ok ho _ (sr_lookup hq)
  obtain ⟨hcode, hini, hcls, hplain, hmaxL, hdesc⟩ := id hokY
  have cw : CallB R s args (sr_R md.1) idx md'.2.1 md'.2.2.1 md'.2.2.2.1 md'.2.2.2.2.1 (sr_ws md') (sr_rm md' d) md'.2.2.2.2.2.2.1 md'.2.2.2.2.2.2.2 md'.2.2.2.2.2.1 ∧ (Cond.static md'.2.1).before args s = true := by
    refine va_cwS _ hts (sr_goodIn ?_) rfl rfl rfl hdesc (sr_roomW hd1 hd2 hmaxL)
    intro w hw
    rcases List.mem_append.mp hw with hw | hw
    · rcases List.mem_cons.mp hw with rfl | hw
      · exact sr_inT hl rfl
      rcases List.mem_cons.mp hw with rfl | hw
      · exact sr_inT hstat rfl
      rcases List.mem_cons.mp hw with rfl | hw
      · exact sr_inT hini rfl
      · cases hw
    · exact sr_ws_in hokY w hw
  have hM := sr_met hokY hAs ho9 hc G l
  have hrun := va_runS (As := As.map (sr_cv G)) (rest := rest.map (sr_cv G)) (H := H) (g := F0 m pc ls (st.map (sr_cv G))) (locs := locs) (cells := cells) (slots := slots) (below := below) (meth := meth) (e := e) ⟨hx, hb, hml, hown, hts⟩ hM cw ⟨sr_blind G _ h, fun U hU hW => ⟨rfl, by rw [hU]; exact sr_hw_moved hW.alike hw, sr_kn_moved hW hK⟩⟩ rfl (by rw [List.length_map, hn]) (by show ls.size = _; rw [lr.1, hlen]) (by show st.map (sr_cv G) = _; rw [hst, List.map_append, List.map_reverse]) (lv_room (sr_wsum h8)) hd ⟨by omega, by omega⟩
  exact sg_run hrun F Rt lr hlen hlc hc1 hc2 hb1 hb2 kk
theorem sg_invI {r kd : Nat} (hd : decode md.2.2.1 pc = .ok (.invokespecial idx, 3)) (hkd : kd = 2 ∨ kd = 5) (hq : (sr_mls md.1).lookup idx = some (kd, md')) (hst : st = As.reverse ++ .ref r :: rest) (hn : As.length = md'.2.2.2.2.2.1) (hr : r < 1000000) (ho9 : md'.1 < 9) (hAs : (sr_fl (.ref r :: As)).length ≤ md'.2.2.2.1) (h8 : (rest.map fun v => v.category).sum ≤ 8) (hb1 : md'.2.2.2.2.2.2.1 ≤ b.1) (hb2 : md'.2.2.2.2.2.2.2 ≤ b.2)
    (hc : sr_Call md' d (.ref r :: As) h P') (kk : ∀ v h1, P' v h1 → sr_Go md (d + 1) (pc + 3) L (v.toList ++ rest) (b.1 - md'.2.2.2.2.2.2.1, b.2 - md'.2.2.2.2.2.2.2) h1 P) : sr_Go md (d + 1) pc L st b h P := by
  intro G p l e R s m args below meth c H locs cells slots Q ls F Rt hw lr hlen hlc hc1 hc2
  obtain ⟨hx, hb, hr_, hml, hown, hts, hlk, hnm, hK, hd1, hd2, ho⟩ := id F
  have hl9 := sr_mls_ok ho _ (sr_lookup hq)
  have hokI : sr_okI md' := by rcases hkd with rfl | rfl <;> exact hl9.2
  obtain ⟨hokY, hinst, hnm9, hret9⟩ := id hokI
  obtain ⟨hcode, hini, hcls, hplain, hmaxL, hdesc⟩ := id hokY
  have hM := sr_met hokY hAs ho9 hc G l
  have hG : GoodIn sr_T (sr_ws md') := sr_goodIn (sr_ws_in hokY)
  have hpre : PreS s H (sr_Pc G (.ref r :: As) h) (.ref (G.1 + r) :: As.map (sr_cv G)) := ⟨sr_blind G _ h, fun U hU hW => ⟨by rw [sr_args G hr], by rw [hU]; exact sr_hw_moved hW.alike hw, sr_kn_moved hW hK⟩⟩
  have hstk : (F0 m pc ls (st.map (sr_cv G))).stack = (As.map (sr_cv G)).reverse ++ .ref (G.1 + r) :: rest.map (sr_cv G) := by show st.map (sr_cv G) = _; rw [hst, List.map_append, List.map_reverse, sr_args G hr]
  have hwn : sr_ws md' = Cond.code md'.2.1 md'.2.2.1 md'.2.2.2.1 none :: sr_T := by rw [← hret9]
  have hrun : va_Run p l e R s m args below meth c H locs cells slots md'.2.2.2.2.2.2.1 md'.2.2.2.2.2.2.2 (F0 m pc ls (st.map (sr_cv G))) (rest.map (sr_cv G)) (sr_Qc G P' (Value.ref (G.1 + r) :: As.map (sr_cv G)).toArray) (fun q => G.1 ≤ q) := by
    rcases hkd with rfl | rfl
    · have hl : Cond.methodLink (sr_R md.1) idx md'.2.1 ∈ lw_tbl := hl9.1
      have cw := cwI (R := R) md'.2.2.2.2.2.1 hts hG hwn (rm := sr_rm md' d) rfl rfl (hts _ (sr_inT hini rfl)) (hts _ (sr_inT hl rfl)) (hts _ (sr_inT hinst rfl)) hnm9 hdesc (sr_roomW hd1 hd2 hmaxL)
      exact va_runI (As := As.map (sr_cv G)) (rest := rest.map (sr_cv G)) (b := G.1 + r) ⟨hx, hb, hml, hown, hts⟩ hM cw hpre rfl (by rw [List.length_map, hn]) (by show ls.size = _; rw [lr.1, hlen]) hstk (lv_room (sr_wsum h8)) hd ⟨by omega, by omega⟩
    · have hl : Cond.methodLinkNest (sr_R md.1) idx md'.2.1 "SecondRoom" ∈ lw_tbl := hl9.1
      have cw := va_cnB (R := R) (own := sr_R md.1) (index := idx) (host := "SecondRoom") md'.2.2.2.2.2.1 hts hG hwn (rm := sr_rm md' d) rfl rfl (hK.2.1 _ (List.mem_filter.mpr ⟨hl, rfl⟩)) (hts _ (sr_inT hini rfl)) hdesc (sr_roomW hd1 hd2 hmaxL)
      exact va_runIN (As := As.map (sr_cv G)) (rest := rest.map (sr_cv G)) (b := G.1 + r) ⟨hx, hb, hml, hown, hts⟩ hM ⟨cw, hnm9, hts _ (sr_inT hinst rfl)⟩ hpre rfl (by rw [List.length_map, hn]) (by show ls.size = _; rw [lr.1, hlen]) hstk (lv_room (sr_wsum h8)) hd ⟨by omega, by omega⟩
  exact sg_run hrun F Rt lr hlen hlc hc1 hc2 hb1 hb2 kk
end SM
