/-! arrays that come, copies, calls, returns -/
section SK
variable {md : sr_MD} {d pc nx tg : Nat} {L L' : sr_L} {st st' : List Value} {b : Nat × Nat} {h : sr_H} {P : Option Value → sr_H → Prop}
theorem sr_nI_pos {N : Nat} (h : N < 2147483648) : ¬ nI N < 0 := nI_pos (by omega)
theorem sr_arrW : Cond.arrayClass .int ∈ lw_tbl ∧ Cond.arrayClass .byte ∈ lw_tbl ∧ Cond.arrayClass .boolean ∈ lw_tbl := by decide +kernel
theorem sg_newa {t : ArrayType} {n : Int32} {N : Nat} (hd : decode md.2.2.1 pc = .ok (.newarray t, 2)) (hn : n = nI N) (hN : N < 100000) (hb1 : 1 ≤ b.1) (hb2 : N ≤ b.2) (hn1 : h.1 < 1000000) (ht : sr_ak t < 10) (kk : sr_Go md d (pc + 2) L (.ref h.1 :: st) (b.1 - 1, b.2 - N) (sr_new h (sr_ak t, N)) P) : sr_Go md d pc L (.int n :: st) b h P := by
  intro G p l e R s m args below meth c H locs cells slots Q ls F Rt hw lr hlen hlc hc1 hc2
  obtain ⟨hx, hb, hr_, hml, hown, hts, hlk, hnm, hK, hd1, hd2, ho⟩ := id F
  subst hn
  have hcl : (nI N).toNatClampNeg = N := nI_clamp (by omega)
  have e2 : sr_cv G (.ref h.1) = .ref (G.1 + h.1) := by
    show Value.ref (sr_cr G h.1) = _
    rw [sr_cr_lo hn1]
  have key : ∀ (H1 : Heap) (cA : ClassId), cA = G.2.2.1 (sr_ak t) → 6 ≤ sr_ak t → sr_ak t < 9 → H1[G.1 + h.1]? = some (arrV cA N (fun _ => .int 0)) → H1.size = G.1 + h.1 + 1 → (∀ q, q < G.1 + h.1 → H1[q]? = H[q]?) → W p l e R s m args below meth c H1 locs (cells + 1) (slots + N) Q (F0 m (pc + 2) ls (.ref (G.1 + h.1) :: st.map (sr_cv G))) := by
    intro H1 cA hcA h6 h9 e1 z1 o1
    have kk := kk G p l e R s m args below meth c H1 locs (cells + 1) (slots + N) Q ls F Rt (sr_hw_new hw hn1 (by show N < 2147483648; omega) ?_ (by rw [z1, hw.1]) (fun q hq => o1 q (by rw [← hw.1]; exact hq))) lr hlen hlc (by show cells + 1 + (b.1 - 1) ≤ _; omega) (by show slots + _ + (b.2 - _) ≤ _; omega)
    · rw [List.map_cons, e2] at kk
      exact kk
    · rw [sr_ce_int (c := sr_ak t) (by rw [sr_new_K]) h6 h9, sr_new_I, sr_new_K, ← hcA]
      show H1[G.1 + h.1]? = some (vp_cell _ _)
      rw [e1, vp_cell_i]
  cases t with
  | int =>
    refine va_newaK (atype := .int) hx hb (hts _ (sr_inT sr_arrW.1 rfl)) rfl hd rfl (sr_nI_pos (by omega)) hcl (by show N * 4 ≤ _; omega) (by omega) (by omega) hw.1 fun H1 cA e1 z1 o1 hAr hNm => ?_
    exact key H1 cA (Option.some.inj (hNm.symm.trans (hK.1.2 1 _ rfl).2)) (by decide) (by decide) e1 z1 o1
  | byte =>
    refine va_newaK (atype := .byte) hx hb (hts _ (sr_inT sr_arrW.2.1 rfl)) rfl hd rfl (sr_nI_pos (by omega)) hcl (by show N * 1 ≤ _; omega) (by omega) (by omega) hw.1 fun H1 cA e1 z1 o1 hAr hNm => ?_
    exact key H1 cA (Option.some.inj (hNm.symm.trans (hK.1.2 0 _ rfl).2)) (by decide) (by decide) e1 z1 o1
  | boolean =>
    refine va_newaK (atype := .boolean) hx hb (hts _ (sr_inT sr_arrW.2.2 rfl)) rfl hd rfl (sr_nI_pos (by omega)) hcl (by show N * 1 ≤ _; omega) (by omega) (by omega) hw.1 fun H1 cA e1 z1 o1 hAr hNm => ?_
    exact key H1 cA (Option.some.inj (hNm.symm.trans (hK.1.2 2 _ rfl).2)) (by decide) (by decide) e1 z1 o1
  | _ => exact absurd ht (by decide)
theorem sg_anew {idx : Nat} {n : Int32} {N : Nat} (hd : decode md.2.2.1 pc = .ok (.anewarray idx, 3)) (hq : (sr_nls md.1).lookup idx = some 1) (hn : n = nI N) (hN : N < 100000) (hb1 : 1 ≤ b.1) (hb2 : N ≤ b.2) (hn1 : h.1 < 1000000) (kk : sr_Go md d (pc + 3) L (.ref h.1 :: st) (b.1 - 1, b.2 - N) (sr_new h (9, N)) P) : sr_Go md d pc L (.int n :: st) b h P := by
  intro G p l e R s m args below meth c H locs cells slots Q ls F Rt hw lr hlen hlc hc1 hc2
  obtain ⟨hx, hb, hr_, hml, hown, hts, hlk, hnm, hK, hd1, hd2, ho⟩ := id F
  obtain ⟨C, T, N9, hc, hl1, hl2, hl3⟩ := sr_nls_ok ho _ (sr_lookup hq)
  cases hc
  subst hn
  have hcl : (nI N).toNatClampNeg = N := nI_clamp (by omega)
  have e2 : sr_cv G (.ref h.1) = .ref (G.1 + h.1) := by
    show Value.ref (sr_cr G h.1) = _
    rw [sr_cr_lo hn1]
  refine W.anew hx hb hown (hts _ (sr_inT hl1 rfl)) (va_AO.use hK.2.2) rfl hd rfl (sr_nI_pos (by omega)) (by rw [hcl]; omega) (by omega) (by rw [hcl]; omega) fun cA kA comp f1 f2 f3 f4 => ?_
  rw [hcl]
  generalize hH1 : H.push ({ cls := cA, slots := Array.replicate N .null, vm := .none } : Cell) = H1
  have z1 : H1.size = H.size + 1 := by rw [← hH1, Array.size_push]
  have e1 : H1[H.size]? = some (arrV cA N (fun _ => .null)) := by rw [← hH1, Array.getElem?_push_size, ← arrV_new]
  have o1 : ∀ q : Nat, q < H.size → H1[q]? = H[q]? := fun q hq => by rw [← hH1, Array.getElem?_push, if_neg (Nat.ne_of_lt hq)]
  obtain ⟨kA', comp', k1, k2, k3, k4⟩ := (hK.1.2 3 _ rfl).2
  have hcA : cA = G.2.2.1 9 := Option.some.inj (f1.symm.trans k4)
  have kk := kk G p l e R s m args below meth c H1 locs (cells + 1) (slots + N) Q ls F Rt (sr_hw_new hw hn1 (by show N < 2147483648; omega) ?_ z1 o1) lr hlen hlc (by show cells + 1 + (b.1 - 1) ≤ _; omega) (by show slots + _ + (b.2 - _) ≤ _; omega)
  · rw [List.map_cons, e2] at kk
    rw [hw.1]
    exact kk
  · rw [sr_ce_ref (by rw [sr_new_K]), sr_new_R, sr_new_K, ← hcA]
    show H1[G.1 + h.1]? = some (vp_cell _ _)
    rw [hw.1] at e1
    rw [e1, vp_cell_q]
    rfl
theorem sr_objW : Cond.instanceMethod objectInit ∈ lw_tbl ∧ Cond.code objectInit ⟨#[0xb1]⟩ 1 none ∈ lw_tbl := ⟨List.mem_append_right _ (List.mem_of_getElem? (i := 16) (by decide +kernel)), List.mem_append_right _ (List.mem_of_getElem? (i := 17) (by decide +kernel))⟩
theorem sr_wsum {G : sr_G} {rest : List Value} (h : (rest.map fun v => v.category).sum ≤ 8) : ((rest.map (sr_cv G)).map fun v => v.category).sum ≤ 8 := by rw [sr_cat_map]; exact h
theorem sg_obj {idx r : Nat} {md' : sr_MD} (hd : decode md.2.2.1 pc = .ok (.invokespecial idx, 3)) (hq : (sr_mls md.1).lookup idx = some (3, md')) (h8 : (st.map fun v => v.category).sum ≤ 8) (hd0 : 0 < d) (kk : sr_Go md d (pc + 3) L st b h P) : sr_Go md d pc L (.ref r :: st) b h P := by
  intro G p l e R s m args below meth c H locs cells slots Q ls F Rt hw lr hlen hlc hc1 hc2
  obtain ⟨hx, hb, hr_, hml, hown, hts, hlk, hnm, hK, hd1, hd2, ho⟩ := id F
  have hl : Cond.methodLink (sr_R md.1) idx objectInit ∈ lw_tbl := sr_mls_ok ho _ (sr_lookup hq)
  refine W.objInit hx hb hown (hts _ (sr_inT hl rfl)) (hts _ (sr_inT sr_objW.1 rfl)) (hts _ (sr_inT sr_objW.2 rfl)) rfl ?_ rfl hd (by omega) ?_ (kk G p l e R s m args below meth c H locs cells slots Q ls F Rt hw lr hlen hlc hc1 hc2)
  · show ls.size = _; rw [lr.1, hlen, hml]
  · have := sr_wsum (G := G) h8
    show 2 * 0 + _ + 12 ≤ _
    omega
theorem sr_maxW : Cond.static Lib.Math.max.name ∈ lw_tbl ∧ Cond.initialized "java/lang/Math" ∈ lw_tbl ∧ Cond.code Lib.Math.max.name Lib.Math.max.code 2 (some .int) ∈ lw_tbl := ⟨by decide +kernel, by decide +kernel, by decide +kernel⟩
theorem sg_max {idx : Nat} {md' : sr_MD} {x y : Int32} (hd : decode md.2.2.1 pc = .ok (.invokestatic idx, 3)) (hq : (sr_mls md.1).lookup idx = some (6, md')) (h8 : (st.map fun v => v.category).sum ≤ 8) (hd0 : 0 < d) (kk : sr_Go md d (pc + 3) L (.int (if x < y then y else x) :: st) b h P) : sr_Go md d pc L (.int y :: .int x :: st) b h P := by
  intro G p l e R s m args below meth c H locs cells slots Q ls F Rt hw lr hlen hlc hc1 hc2
  obtain ⟨hx, hb, hr_, hml, hown, hts, hlk, hnm, hK, hd1, hd2, ho⟩ := id F
  have hl : Cond.methodLink (sr_R md.1) idx yJ9_max_7cf53 ∈ lw_tbl := sr_mls_ok ho _ (sr_lookup hq)
  have h9 := sr_wsum (G := G) h8
  refine va_mmax hx hb (by rw [hml, ← hlen, lr.1]) hown (hts _ (sr_inT hl rfl)) (hts _ (sr_inT sr_maxW.1 rfl)) (hts _ (sr_inT sr_maxW.2.1 rfl)) (hts _ (sr_inT sr_maxW.2.2 rfl)) (by omega) (by omega) (by omega) (by omega) hd (kk G p l e R s m args below meth c H locs cells slots Q ls F Rt hw lr hlen hlc hc1 hc2)
end SK
