/-! copies, contracts, calls -/
section SL
variable {md : sr_MD} {d pc nx tg : Nat} {L L' : sr_L} {st st' : List Value} {b : Nat × Nat} {h : sr_H} {P : Option Value → sr_H → Prop}
theorem sr_cpyW : Cond.native arraycopyName ∈ lw_tbl ∧ Cond.static arraycopyName ∈ lw_tbl ∧ Cond.initialized "java/lang/System" ∈ lw_tbl := ⟨List.mem_append_right _ (List.mem_of_getElem? (i := 256) (by decide +kernel)), List.mem_append_right _ (List.mem_of_getElem? (i := 255) (by decide +kernel)), List.mem_append_right _ (List.mem_of_getElem? (i := 7) (by decide +kernel))⟩
theorem sg_copy {idx a a0 i j k : Nat} {md' : sr_MD} {sp dp n : Int32} (hd : decode md.2.2.1 pc = .ok (.invokestatic idx, 3)) (hq : (sr_mls md.1).lookup idx = some (4, md')) (ha : (h.2.1 a).1 = 7) (ha0 : (h.2.1 a0).1 = 7) (hr : a < 1000000) (hr0 : a0 < 1000000) (h8 : (st.map fun v => v.category).sum ≤ 8) (hd0 : 0 < d)
    (hsp : sp = nI i) (hdp : dp = nI j) (hn : n = nI k) (h4 : i + k ≤ (h.2.1 a0).2) (h5 : j + k ≤ (h.2.1 a).2)
    (kk : sr_Go md d (pc + 3) L st b (sr_setA h a (va_cpy (h.2.2.1 a0) (h.2.2.1 a) i j k)) P) : sr_Go md d pc L (.int n :: .int dp :: .ref a :: .int sp :: .ref a0 :: st) b h P := by
  intro G p l e R s m args below meth c H locs cells slots Q ls F Rt hw lr hlen hlc hc1 hc2
  obtain ⟨hx, hb, hr_, hml, hown, hts, hlk, hnm, hK, hd1, hd2, ho⟩ := id F
  have hl : Cond.methodLink (sr_R md.1) idx arraycopyName ∈ lw_tbl := sr_mls_ok ho _ (sr_lookup hq)
  subst hsp; subst hdp; subst hn
  have b0 := hw.2.2.2.1 a0
  have b1 := hw.2.2.2.1 a
  have ci : (nI i).toNatClampNeg = i := nI_clamp (by omega)
  have cj : (nI j).toNatClampNeg = j := nI_clamp (by omega)
  have ck : (nI k).toNatClampNeg = k := nI_clamp (by omega)
  have ti : (nI i).toInt = (i : Int) := nI_toInt (by omega)
  have tj : (nI j).toInt = (j : Int) := nI_toInt (by omega)
  have tk : (nI k).toInt = (k : Int) := nI_toInt (by omega)
  have hat := (hw.2.2.1 a (by omega) hr).2
  rw [sr_ce_int ha (by omega) (by omega)] at hat
  have hat0 := (hw.2.2.1 a0 (by omega) hr0).2
  rw [sr_ce_int ha0 (by omega) (by omega)] at hat0
  have hc0 : H[G.1 + a0]? = some (vp_cell (G.2.2.1 7) ((h.2.1 a0).2, .inl (h.2.2.1 a0))) := hat0
  have hc1' : H[G.1 + a]? = some (vp_cell (G.2.2.1 7) ((h.2.1 a).2, .inl (h.2.2.1 a))) := hat
  obtain ⟨-, k0, hk0, cm0, hkk0⟩ := (hK.1.2 1 _ rfl).1 (h.2.1 a0).2 (fun j => .int (h.2.2.1 a0 j))
  obtain ⟨-, k1, hk1, cm1, hkk1⟩ := (hK.1.2 1 _ rfl).1 (h.2.1 a).2 (fun j => .int (h.2.2.1 a j))
  have h9 := sr_wsum (G := G) h8
  have hnf : nativeFrameWords "java/lang/System" "arraycopy" 5 ≤ 21 := by decide +kernel
  show W p l e R s m args below meth c H locs cells slots Q (F0 m pc ls (.int (nI k) :: .int (nI j) :: .ref (sr_cr G a) :: .int (nI i) :: .ref (sr_cr G a0) :: _))
  rw [sr_cr_lo hr, sr_cr_lo hr0]
  intro T hT X
  obtain ⟨vm', X', step⟩ := X.arraycopy hx hown (hts _ (sr_inT hl rfl)) (hts _ (sr_inT sr_cpyW.1 rfl)) (hts _ (sr_inT sr_cpyW.2.1 rfl)) (hts _ (sr_inT sr_cpyW.2.2 rfl)) (src := G.1 + a0) (dst := G.1 + a) (cs := vp_cell (G.2.2.1 7) ((h.2.1 a0).2, .inl (h.2.2.1 a0))) (cd := vp_cell (G.2.2.1 7) ((h.2.1 a).2, .inl (h.2.2.1 a))) (srcPos := nI i) (destPos := nI j) (n := nI k) (by rw [hT]; exact hc0) (by rw [hT]; exact hc1')
    (fun _ h => by cases h) (fun _ h => by cases h) (fun h => by cases h) (fun h => by cases h) hk0 hk1 hkk0 hkk1 (by rfl) (sr_nI_pos (by omega)) (sr_nI_pos (by omega)) (sr_nI_pos (by omega))
    (by rw [ti, tk]; show ¬ _ > ((arrV (G.2.2.1 7) (h.2.1 a0).2 (fun j => .int (h.2.2.1 a0 j))).slots.size : Int); rw [arrV_size]; omega)
    (by rw [tj, tk]; show ¬ _ > ((arrV (G.2.2.1 7) (h.2.1 a).2 (fun j => .int (h.2.2.1 a j))).slots.size : Int); rw [arrV_size]; omega)
    (fun vm₁ _ z hz => by
      rw [ck] at hz
      have e : (vp_cell (G.2.2.1 7) ((h.2.1 a0).2, .inl (h.2.2.1 a0))).slots.getD ((nI i).toNatClampNeg + z) .null = .int (h.2.2.1 a0 (i + z)) := by
        rw [ci]
        show (arrV (G.2.2.1 7) (h.2.1 a0).2 (fun j => .int (h.2.2.1 a0 j))).slots.getD _ _ = _
        rw [Array.getD_eq_getD_getElem?, arrV_read _ _ (by omega)]
        rfl
      refine ⟨?_, ?_⟩
      · rw [e]
        rfl
      · rw [e]
        exact trivial)
    (g := F0 m pc ls (.int (nI k) :: .int (nI j) :: .ref (G.1 + a) :: .int (nI i) :: .ref (G.1 + a0) :: st.map (sr_cv G))) rfl (by rw [hml, ← hlen, ← lr.1]) (rest := st.map (sr_cv G)) rfl (by rw [hb]; exact hd) (by omega) (by show 2 * 0 + _ + _ ≤ _; omega)
  have e1 : copied (vp_cell (G.2.2.1 7) ((h.2.1 a0).2, .inl (h.2.2.1 a0))) (vp_cell (G.2.2.1 7) ((h.2.1 a).2, .inl (h.2.2.1 a))) (nI i) (nI j) (nI k) = vp_cell (G.2.2.1 7) ((h.2.1 a).2, .inl (va_cpy (h.2.2.1 a0) (h.2.2.1 a) i j k)) := by
    have := va_copied (fun z => .int z) (G.2.2.1 7) (G.2.2.1 7) (n0 := (h.2.1 a0).2) (n1 := (h.2.1 a).2) (dp := j) (h.2.2.1 a0) (h.2.2.1 a) h4
    unfold copied
    rw [ci, cj, ck]
    exact this
  rw [e1] at X' step
  have hl9 : G.1 + a < H.size := (Array.getElem?_eq_some_iff.mp hc1').1
  generalize hv : vp_cell (G.2.2.1 7) ((h.2.1 a).2, .inl (va_cpy (h.2.2.1 a0) (h.2.2.1 a) i j k)) = v at X' step
  have hheap : ((T.setVm vm').setCell (G.1 + a) v).heap = H.setIfInBounds (G.1 + a) v := by rw [← hT]; rfl
  have oq : ∀ q : Nat, q ≠ G.1 + a → (H.setIfInBounds (G.1 + a) v)[q]? = H[q]? := fun q hq => by simp [Array.getElem?_setIfInBounds, Ne.symm hq]
  have ea : (sr_setA h a (va_cpy (h.2.2.1 a0) (h.2.2.1 a) i j k)).2.2.1 a = va_cpy (h.2.2.1 a0) (h.2.2.1 a) i j k := by funext z; exact if_pos rfl
  obtain ⟨t, a1, b1⟩ := kk G p l e R s m args below meth c (H.setIfInBounds (G.1 + a) v) _ cells slots Q ls F Rt (sr_hw_set hw rfl rfl hr (fun z hz => by funext y; exact if_neg hz) (fun _ _ => rfl) (fun _ _ => rfl) (by
      rw [sr_ce_int (h := sr_setA h a (va_cpy (h.2.2.1 a0) (h.2.2.1 a) i j k)) ha (by omega) (by omega), ea]
      show (H.setIfInBounds (G.1 + a) v)[G.1 + a]? = some (vp_cell _ _)
      rw [← hv]
      simp [Array.getElem?_setIfInBounds, hl9]
      rfl) (by simp) oq) lr hlen (by
      intro q hq
      rcases List.mem_append.mp hq with h | h
      · exact hlc q h
      · obtain ⟨z, -, hz⟩ := List.mem_map.mp h
        rw [← hz]
        exact Nat.le_add_right _ _) hc1 hc2 _ hheap X'
  exact ⟨t, step t a1, b1⟩
theorem sr_fl_cons (v : Value) (As : List Value) : sr_fl (v :: As) = sr_fl [v] ++ sr_fl As := by simp [sr_fl]
theorem lg_sl_cons (v : Value) (As : List Value) : lg_sl (v :: As) = lg_sl [v] ++ lg_sl As := by simp [lg_sl]
theorem sr_fl_len (G : sr_G) (As : List Value) : (lg_sl (As.map (sr_cv G))).length = (sr_fl As).length := by
  induction As with
  | nil => rfl
  | cons v As ih =>
    rw [List.map_cons, lg_sl_cons, sr_fl_cons, List.length_append, List.length_append, ih]
    cases v <;> rfl
theorem sr_fl_at (G : sr_G) (As : List Value) : ∀ (i : Nat) (v : Value), (sr_fl As)[i]? = some (some v) → (lg_sl (As.map (sr_cv G)))[i]? = some (.val (sr_cv G v)) := by
  induction As with
  | nil => intro i v h; simp [sr_fl] at h
  | cons w As ih =>
    intro i v h
    rw [sr_fl_cons] at h
    rw [List.map_cons, lg_sl_cons]
    have hlen : (lg_sl [sr_cv G w]).length = (sr_fl [w]).length := sr_fl_len G [w]
    by_cases hi : i < (sr_fl [w]).length
    · rw [List.getElem?_append_left hi] at h
      rw [List.getElem?_append_left (by rw [hlen]; exact hi)]
      cases w <;> (first
        | (match i, h with
           | 0, h => cases h; rfl
           | 1, h => simp [sr_fl] at h
           | n + 2, h => simp [sr_fl] at h))
    · rw [List.getElem?_append_right (by omega)] at h
      rw [List.getElem?_append_right (by omega), hlen]
      exact ih _ _ h
abbrev sr_ws (md : sr_MD) : List Cond := Cond.code md.2.1 md.2.2.1 md.2.2.2.1 md.2.2.2.2.1 :: sr_T
abbrev sr_rm (md : sr_MD) (d : Nat) : Room := { frames := d, cells := md.2.2.2.2.2.2.1, slots := md.2.2.2.2.2.2.2, locals := 40 * d }
abbrev sr_Pc (G : sr_G) (As : List Value) (h : sr_H) : Array Value → State → Prop := va_Pc (As.map (sr_cv G)) (fun U => sr_hw G h U U.heap ∧ sr_kn G U)
abbrev sr_Qc (G : sr_G) (P : Option Value → sr_H → Prop) : Array Value → State → Outcome → State → Prop := fun _ _ o t => ∃ (r : Option Value) (h' : sr_H), o = .returned (r.map (sr_cv G)) ∧ P r h' ∧ sr_hw G h' t t.heap
theorem sr_met {As : List Value} (hok : sr_okY md) (hAs : (sr_fl As).length ≤ md.2.2.2.1) (ho : md.1 < 9) (hc : sr_Call md d As h P) (G : sr_G) (l : Launch) : Met l md.2.1 (sr_ws md) (sr_rm md d) (sr_Pc G As h) (sr_Qc G P) md.2.2.2.2.2.2.1 md.2.2.2.2.2.2.2 (fun q => G.1 ≤ q) := by
  obtain ⟨hcode, hini, hcls, hplain, hmaxL, hdesc⟩ := hok
  refine Met.ofW (cc := md.2.2.1) (maxL := md.2.2.2.1) (ret := md.2.2.2.2.1) hplain rfl ?_
  intro p e s m args below meth c s₁ B hml hv
  obtain ⟨rfl, hw, hK⟩ := hv
  have hts := atoms_spec (ws := sr_ws md) B.pre
  have hown : s.vm.findClass (sr_R md.1) = some m.cls := by rw [← hcls]; exact findClass_of_methodNamed B.named
  have hnm : meth.name = md.2.1.name := (name_of_methodNamed B.named B.method).1
  have hlk := B.notSynchronized
  have hlen : (sr_en As md.2.2.2.1).length = md.2.2.2.1 := by
    unfold sr_en
    rw [List.length_append, List.length_replicate]
    omega
  have hle := lv_entry (As.map (sr_cv G)) (n := md.2.2.2.1) (by rw [sr_fl_len]; exact hAs)
  rw [lg_entry_eq]
  have lr : sr_lr G ((lg_sl (As.map (sr_cv G)) ++ List.replicate (md.2.2.2.1 - (lg_sl (As.map (sr_cv G))).length) Slot.unset).toArray) (sr_en As md.2.2.2.1) := by
    refine ⟨by rw [hlen]; exact hle.1, hle.2.1, fun i v hi => ?_⟩
    unfold sr_en at hi
    have hi2 : i < (sr_fl As).length := by
      by_cases h9 : i < (sr_fl As).length
      · exact h9
      · rw [List.getElem?_append_right (by omega)] at hi
        rw [List.getElem?_replicate] at hi
        split at hi <;> cases hi
    rw [List.getElem?_append_left hi2] at hi
    rw [List.getElem?_toArray, List.getElem?_append_left (by rw [sr_fl_len]; exact hi2)]
    exact sr_fl_at G As i v hi
  refine hc G p l e (sr_rm md d) s m _ below meth c s.heap [] 0 0 _ _ ⟨B.exec, B.bytes, B.returns, hml, hown, fun w hw => hts w (List.mem_cons_of_mem _ hw), hlk, hnm, hK, Nat.le_refl _, Nat.le_refl _, ho⟩ ?_ hw lr hlen (fun q hq => by cases hq) (Nat.le_of_eq (Nat.zero_add _)) (Nat.le_of_eq (Nat.zero_add _))
  intro r h' H' locs' cells' slots' pc' ls' hP hw' hlc' hc1' hc2' hri
  refine W.widen (k := md.2.2.2.2.2.2.1) (n := md.2.2.2.2.2.2.2) hc1' hc2' ?_
  rcases hri with ⟨v, rfl, hdec, hrt⟩ | ⟨v, rfl, hdec, hrt⟩ | ⟨rfl, hdec, hrt⟩
  · rcases hrt with hrt | ⟨hrt, h01⟩
    · exact W.iret (v := v) B.exec B.bytes (by rw [B.returns]; exact hrt) (fun t ht hW => ⟨_, h', rfl, hP, by rw [ht]; exact sr_hw_moved hW.alike hw'⟩) hlc' hdec
    · exact W.zret (v := v) (ty := .boolean) B.exec B.bytes (by rw [B.returns]; exact hrt) (by rcases h01 with rfl | rfl <;> decide +kernel) (fun t ht hW => ⟨_, h', rfl, hP, by rw [ht]; exact sr_hw_moved hW.alike hw'⟩) hlc' hdec
  · exact W.lret (v := v) B.exec B.bytes (by rw [B.returns]; exact hrt) (fun t ht hW => ⟨_, h', rfl, hP, by rw [ht]; exact sr_hw_moved hW.alike hw'⟩) hlc' hdec
  · exact W.vret B.exec B.bytes (by rw [B.returns]; exact hrt) (fun t ht hW => ⟨_, h', rfl, hP, by rw [ht]; exact sr_hw_moved hW.alike hw'⟩) hlc' hdec
end SL
