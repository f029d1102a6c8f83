/-! the rows of the abstract machine -/
theorem sr_lkF {own idx : Nat} {q : Nat × Nat} (ho : own < 9) (h : (sr_fls own).lookup idx = some q) : sr_okF own idx q.1 q.2 := sr_fls_ok ho _ (sr_lookup h)
theorem sr_P1 {D : va_G} {x : Nat × va_E} {H : Heap} (h : va_at D vwCl x H) : va_P D vwCl [x] H := by
  intro k q hq
  match k, hq with
  | 0, hq => cases hq; exact h
  | k + 1, hq => simp at hq
section SI
variable {md : sr_MD} {d pc nx tg : Nat} {L L' : sr_L} {st st' : List Value} {b : Nat × Nat} {h : sr_H} {P : Option Value → sr_H → Prop}
theorem sg_get {idx r : Nat} {q : Nat × Nat} (hd : decode md.2.2.1 pc = .ok (.getfield idx, 3)) (hq : (sr_fls md.1).lookup idx = some q) (hk : (h.2.1 r).1 = q.1) (hr : r < 1000000) (k : sr_Go md d (pc + 3) L (sr_av h r q.2 ((sr_ts q.1).getD q.2 0) :: st) b h P) : sr_Go md d pc L (.ref r :: st) b h P := by
  intro G p l e R s m args below meth c H locs cells slots Q ls F Rt hw lr hlen hlc hc1 hc2
  obtain ⟨hx, hb, hr_, hml, hown, hts, hlk, hnm, hK, hd1, hd2, ho⟩ := id F
  obtain ⟨C, T, N, hc, hkN, hl⟩ := sr_lkF ho hq
  obtain ⟨hc6, hCR, hin, hN, hT1, ty, hty, hnd, htc⟩ := sr_cl hc
  have hat := (hw.2.2.1 r (by rw [hk]; omega) hr).2
  rw [sr_ce_obj hk hc6] at hat
  have kk := k G p l e R s m args below meth c H locs cells slots Q ls F Rt hw lr hlen hlc hc1 hc2
  rw [List.map_cons, sr_cv_av] at kk
  rw [List.map_cons]
  show W p l e R s m args below meth c H locs cells slots Q (F0 m pc ls (.ref (sr_cr G r) :: _))
  rw [sr_cr_lo hr]
  exact va_get hx hb hts hin hown hK.1 (sr_P1 hat) 0 rfl hc q.2 hkN (hts _ (sr_inT hl rfl)) (fun _ h9 => h9) (sr_fs_at G h r q.1 (by rw [← hN]; exact hkN)) hd kk
theorem sr_fs_set {G : sr_G} {h h' : sr_H} {r c k : Nat} {v : Value} (hk : k < (sr_ts c).length) (hv : sr_fv G h' r k ((sr_ts c).getD k 0) = v) (ho : ∀ j t, j ≠ k → sr_fv G h' r j t = sr_fv G h r j t) : (sr_fs G h r c).set k v = sr_fs G h' r c := by
  apply List.ext_getElem?
  intro j
  by_cases hjk : k = j
  · subst hjk
    rw [List.getElem?_set_self (by rw [sr_fs_len]; exact hk), sr_fs_at G h' r c hk, hv]
  · rw [List.getElem?_set_ne hjk]
    by_cases hj : j < (sr_ts c).length
    · rw [sr_fs_at G h r c hj, sr_fs_at G h' r c hj, ho j _ (fun e => hjk e.symm)]
    · rw [List.getElem?_eq_none (by rw [sr_fs_len]; omega), List.getElem?_eq_none (by rw [sr_fs_len]; omega)]
theorem sr_locs {G : sr_G} {locs : List Loc} {a z : Nat} (h : ∀ q ∈ locs, G.1 ≤ q.base) (ha : G.1 ≤ a) : ∀ q ∈ locs ++ [⟨a, z⟩], G.1 ≤ q.base := by
  intro q hq
  rcases List.mem_append.mp hq with h1 | h1
  · exact h q h1
  · rw [List.mem_singleton.mp h1]; exact ha
theorem sg_put {h' : sr_H} {idx r : Nat} {q : Nat × Nat} {v : Value} (hd : decode md.2.2.1 pc = .ok (.putfield idx, 3)) (hq : (sr_fls md.1).lookup idx = some q) (hk : (h.2.1 r).1 = q.1) (hr : r < 1000000) (hfin : sr_fin q.1 q.2 = false ∨ (md.2.1.name = "<init>" ∧ md.1 = q.1))
    (hty : ∀ t : FieldType, sr_tyc t = (sr_ts q.1).getD q.2 0 → ∀ G : sr_G, narrow t (sr_cv G v) = sr_cv G v ∧ fits t (sr_cv G v) = true)
    (h1 : h'.1 = h.1) (h2 : h'.2.1 = h.2.1) (ho2 : ∀ z, z ≠ r → h'.2.2.1 z = h.2.2.1 z) (ho3 : ∀ z, z ≠ r → h'.2.2.2.1 z = h.2.2.2.1 z) (ho4 : ∀ z, z ≠ r → h'.2.2.2.2 z = h.2.2.2.2 z)
    (hv : ∀ G : sr_G, sr_fv G h' r q.2 ((sr_ts q.1).getD q.2 0) = sr_cv G v) (hv2 : ∀ (G : sr_G) (j t : Nat), j ≠ q.2 → sr_fv G h' r j t = sr_fv G h r j t)
    (k : sr_Go md d (pc + 3) L st b h' P) : sr_Go md d pc L (v :: .ref r :: st) b h P := by
  intro G p l e R s m args below meth c H locs cells slots Q ls F Rt hw lr hlen hlc hc1 hc2
  obtain ⟨hx, hb, hr_, hml, hown, hts, hlk, hnm, hK, hd1, hd2, ho⟩ := id F
  obtain ⟨C, T, N, hc, hkN, hl⟩ := sr_lkF ho hq
  obtain ⟨hc6, hCR, hin, hN, hT1, ty, hty', hnd, htc⟩ := sr_cl hc
  have hat := (hw.2.2.1 r (by rw [hk]; omega) hr).2
  rw [sr_ce_obj hk hc6] at hat
  rw [List.map_cons, List.map_cons]
  show W p l e R s m args below meth c H locs cells slots Q (F0 m pc ls (sr_cv G v :: .ref (sr_cr G r) :: _))
  rw [sr_cr_lo hr]
  obtain ⟨hn1, hn2⟩ := hty _ (htc q.2 hkN) G
  refine sr_put hx hb hts hin ty hty' hnd hown hK.1 hat hc q.2 hkN (hts _ (sr_inT hl rfl)) ?_ hn1 hn2 (by rw [sr_fs_len, ← hN]; exact hkN) hd (fun H1 z e1 e2 e3 => ?_)
  · rcases hfin with hf | ⟨hf1, hf2⟩
    · refine Or.inl ?_
      unfold sr_fin at hf
      rw [hc] at hf
      exact hf
    · refine Or.inr ⟨by rw [hnm]; exact hf1, by rw [hT1 q.2 hkN, hf2]⟩
  · rw [sr_fs_set (by rw [← hN]; exact hkN) (hv G) (hv2 G)] at e1
    have hk' : (h'.2.1 r).1 = q.1 := by rw [h2]; exact hk
    rw [← sr_ce_obj hk' hc6] at e1
    exact k G p l e R s m args below meth c H1 _ cells slots Q ls F Rt (sr_hw_set hw h1 h2 hr ho2 ho3 ho4 e1 e2 e3) lr hlen (sr_locs hlc (by omega)) hc1 hc2
theorem sr_u_same {α : Type} (f : Nat → Nat → α) (r k : Nat) (v : α) : sr_u f r k v r k = v := if_pos ⟨rfl, rfl⟩
theorem sr_u_ne {α : Type} (f : Nat → Nat → α) {r k j : Nat} (v : α) (h : j ≠ k) : sr_u f r k v r j = f r j := if_neg (fun e => h e.2)
theorem sr_u_row {α : Type} (f : Nat → Nat → α) {r k z : Nat} (v : α) (h : z ≠ r) : sr_u f r k v z = f z := by funext j; exact if_neg (fun e => h e.1)
theorem sg_putI {idx r : Nat} {q : Nat × Nat} {x : Int32} (hd : decode md.2.2.1 pc = .ok (.putfield idx, 3)) (hq : (sr_fls md.1).lookup idx = some q) (hk : (h.2.1 r).1 = q.1) (hr : r < 1000000) (hfin : sr_fin q.1 q.2 = false ∨ (md.2.1.name = "<init>" ∧ md.1 = q.1)) (ht : (sr_ts q.1).getD q.2 0 = 0) (k : sr_Go md d (pc + 3) L st b (sr_setI h r q.2 x) P) : sr_Go md d pc L (.int x :: .ref r :: st) b h P := by
  refine sg_put (h' := sr_setI h r q.2 x) hd hq hk hr hfin ?_ rfl rfl (fun z hz => sr_u_row _ _ hz) (fun _ _ => rfl) (fun _ _ => rfl) ?_ ?_ k
  · intro t ht2 G
    rw [ht] at ht2
    cases t <;> first | exact ⟨rfl, rfl⟩ | (simp [sr_tyc] at ht2; done)
  · intro G
    rw [ht]
    show Value.int (sr_u h.2.2.1 r q.2 x r q.2) = _
    rw [sr_u_same]; rfl
  · intro G j t hj
    unfold sr_fv sr_setI
    split
    · show Value.int (sr_u h.2.2.1 r q.2 x r j) = _
      rw [sr_u_ne _ _ hj]
    · rfl
    · rfl
theorem sg_putJ {idx r : Nat} {q : Nat × Nat} {x : Int64} (hd : decode md.2.2.1 pc = .ok (.putfield idx, 3)) (hq : (sr_fls md.1).lookup idx = some q) (hk : (h.2.1 r).1 = q.1) (hr : r < 1000000) (hfin : sr_fin q.1 q.2 = false ∨ (md.2.1.name = "<init>" ∧ md.1 = q.1)) (ht : (sr_ts q.1).getD q.2 0 = 1) (k : sr_Go md d (pc + 3) L st b (sr_setJ h r q.2 x) P) : sr_Go md d pc L (.long x :: .ref r :: st) b h P := by
  refine sg_put (h' := sr_setJ h r q.2 x) hd hq hk hr hfin ?_ rfl rfl (fun _ _ => rfl) (fun z hz => sr_u_row _ _ hz) (fun _ _ => rfl) ?_ ?_ k
  · intro t ht2 G
    rw [ht] at ht2
    cases t <;> first | exact ⟨rfl, rfl⟩ | (simp [sr_tyc] at ht2; done)
  · intro G
    rw [ht]
    show Value.long (sr_u h.2.2.2.1 r q.2 x r q.2) = _
    rw [sr_u_same]; rfl
  · intro G j t hj
    unfold sr_fv sr_setJ
    split
    · rfl
    · show Value.long (sr_u h.2.2.2.1 r q.2 x r j) = _
      rw [sr_u_ne _ _ hj]
    · rfl
theorem sg_putR {idx r : Nat} {q : Nat × Nat} {x : Option Nat} (hd : decode md.2.2.1 pc = .ok (.putfield idx, 3)) (hq : (sr_fls md.1).lookup idx = some q) (hk : (h.2.1 r).1 = q.1) (hr : r < 1000000) (hfin : sr_fin q.1 q.2 = false ∨ (md.2.1.name = "<init>" ∧ md.1 = q.1)) (ht : (sr_ts q.1).getD q.2 0 = 2) (k : sr_Go md d (pc + 3) L st b (sr_setR h r q.2 x) P) : sr_Go md d pc L (va_rf x :: .ref r :: st) b h P := by
  refine sg_put (h' := sr_setR h r q.2 x) hd hq hk hr hfin ?_ rfl rfl (fun _ _ => rfl) (fun _ _ => rfl) (fun z hz => sr_u_row _ _ hz) ?_ ?_ k
  · intro t ht2 G
    rw [ht] at ht2
    cases x <;> cases t <;> first | exact ⟨rfl, rfl⟩ | (simp [sr_tyc] at ht2; done)
  · intro G
    rw [ht]
    show va_rf ((sr_u h.2.2.2.2 r q.2 x r q.2).map (sr_cr G)) = _
    rw [sr_u_same]
    cases x <;> rfl
  · intro G j t hj
    unfold sr_fv sr_setR
    split
    · rfl
    · rfl
    · show va_rf ((sr_u h.2.2.2.2 r q.2 x r j).map (sr_cr G)) = _
      rw [sr_u_ne _ _ hj]
theorem sg_gets {idx j : Nat} (hd : decode md.2.2.1 pc = .ok (.getstatic idx, 3)) (hq : (sr_sls md.1).lookup idx = some j) (k : sr_Go md d (pc + 3) L (.ref (1000000 + j) :: st) b h P) : sr_Go md d pc L st b h P := by
  intro G p l e R s m args below meth c H locs cells slots Q ls F Rt hw lr hlen hlc hc1 hc2
  obtain ⟨hx, hb, hr_, hml, hown, hts, hlk, hnm, hK, hd1, hd2, ho⟩ := id F
  have hl := sr_sls_ok ho _ (sr_lookup hq)
  have hj : j < 2 := by
    have h1 := sr_lookup hq
    have h2 : ∀ own, own < 9 → ∀ q ∈ sr_sls own, q.2 < 2 := by decide +kernel
    exact h2 _ ho _ h1
  have kk := k G p l e R s m args below meth c H locs cells slots Q ls F Rt hw lr hlen hlc hc1 hc2
  have e1 : sr_cr G (1000000 + j) = G.2.2.2 j := by
    unfold sr_cr
    rw [if_neg (by omega), Nat.add_sub_cancel_left]
  obtain ⟨cf, kf, fi, f, a, cell, z1, z2, z3, z4, z5, z6, z7, z8⟩ := hw.2.2.2.2.2 j hj
  rw [List.map_cons] at kk
  have kk : W p l e R s m args below meth c H locs cells slots Q (F0 m (pc + 3) ls (.ref (G.2.2.2 j) :: st.map (sr_cv G))) := by rw [← e1]; exact kk
  exact va_WgetsN hx hb hown (va_Nw.use rfl (hK.2.1 _ (List.mem_filter.mpr ⟨hl, rfl⟩))) z1 z2 z3 z4 z5 (fun e => by rw [e] at z6; cases z6) z7 rfl hd kk
theorem sr_ix {k n : Nat} (hk : k < n) (hn : n < 2147483648) : (nI k).toNatClampNeg = k ∧ vp_in (nI k) n := ⟨nI_clamp (by omega), vp_in_nI hk (by omega)⟩
theorem sr_ty {G : sr_G} {s : State} (hK : sr_kn G s) : ∀ c : Nat, 6 ≤ c → c < 10 → ∃ (t : Nat) (ty : FieldType), (sr_tys G)[t]? = some (G.2.2.1 c, ty) := by
  intro c h1 h2
  match c, h1, h2 with
  | 6, _, _ => exact ⟨0, _, rfl⟩
  | 7, _, _ => exact ⟨1, _, rfl⟩
  | 8, _, _ => exact ⟨2, _, rfl⟩
  | 9, _, _ => exact ⟨3, _, rfl⟩
theorem sg_alen {r : Nat} (hd : decode md.2.2.1 pc = .ok (.arraylength, 1)) (h1 : 6 ≤ (h.2.1 r).1) (h2 : (h.2.1 r).1 < 10) (k : sr_Go md d (pc + 1) L (.int (nI (h.2.1 r).2) :: st) b h P) : sr_Go md d pc L (.ref r :: st) b h P := by
  intro G p l e R s m args below meth c H locs cells slots Q ls F Rt hw lr hlen hlc hc1 hc2
  obtain ⟨hx, hb, hr_, hml, hown, hts, hlk, hnm, hK, hd1, hd2, ho⟩ := id F
  have kk := k G p l e R s m args below meth c H locs cells slots Q ls F Rt hw lr hlen hlc hc1 hc2
  rw [List.map_cons] at kk ⊢
  show W p l e R s m args below meth c H locs cells slots Q (F0 m pc ls (.ref (sr_cr G r) :: _))
  by_cases hr : r < 1000000
  · have hat := (hw.2.2.1 r h2 hr).2
    rw [sr_cr_lo hr]
    obtain ⟨t, ty, ht⟩ := sr_ty hK _ h1 h2
    by_cases h9 : (h.2.1 r).1 = 9
    · rw [sr_ce_ref h9] at hat
      rw [h9] at ht
      exact va_alen hx hb hK.1 (sr_P1 hat) 0 t rfl ht rfl hd kk
    · rw [sr_ce_int rfl h1 (by omega)] at hat
      exact va_alen hx hb hK.1 (sr_P1 hat) 0 t rfl ht rfl hd kk
  · obtain ⟨-, cell, z1, z2, z3, z4, z5, z6, z7⟩ := hw.2.2.2.2.1 r h2 hr
    exact W.alen (n := nI (h.2.1 r).2) hx hb z1 z2 z5 rfl rfl hd kk
theorem sg_iald {r k : Nat} {i : Int32} (hd : decode md.2.2.1 pc = .ok (.iaload, 1)) (h1 : (h.2.1 r).1 = 7) (hi : i = nI k) (hk : k < (h.2.1 r).2) (kk : sr_Go md d (pc + 1) L (.int (h.2.2.1 r k) :: st) b h P) : sr_Go md d pc L (.int i :: .ref r :: st) b h P := by
  intro G p l e R s m args below meth c H locs cells slots Q ls F Rt hw lr hlen hlc hc1 hc2
  obtain ⟨hx, hb, hr_, hml, hown, hts, hlk, hnm, hK, hd1, hd2, ho⟩ := id F
  have kk := kk G p l e R s m args below meth c H locs cells slots Q ls F Rt hw lr hlen hlc hc1 hc2
  obtain ⟨ic, iv⟩ := sr_ix hk (hw.2.2.2.1 r)
  subst hi
  rw [List.map_cons] at kk ⊢
  rw [List.map_cons]
  show W p l e R s m args below meth c H locs cells slots Q (F0 m pc ls (.int (nI k) :: .ref (sr_cr G r) :: _))
  by_cases hr : r < 1000000
  · have hat := (hw.2.2.1 r (by omega) hr).2
    rw [sr_cr_lo hr]
    rw [sr_ce_int h1 (by omega) (by omega)] at hat
    exact va_iald hx hb hK.1 (sr_P1 hat) 0 1 rfl rfl iv hd (by rw [ic]; exact kk)
  · obtain ⟨-, cell, z1, z2, z3, z4, z5, z6, z7⟩ := hw.2.2.2.2.1 r (by omega) hr
    exact W.iald (v := .int (h.2.2.1 r k)) hx hb z1 z2 z3 (by rw [ic]; exact fun q => q.elim (fun q => iv (Or.inl q)) (fun q => by omega)) (by rw [ic]; exact z6 k hk) rfl rfl hd kk
theorem sg_bald {r k : Nat} {i : Int32} (hd : decode md.2.2.1 pc = .ok (.baload, 1)) (h1 : (h.2.1 r).1 = 6 ∨ (h.2.1 r).1 = 8) (hr : r < 1000000) (hi : i = nI k) (hk : k < (h.2.1 r).2) (kk : sr_Go md d (pc + 1) L (.int (h.2.2.1 r k) :: st) b h P) : sr_Go md d pc L (.int i :: .ref r :: st) b h P := by
  intro G p l e R s m args below meth c H locs cells slots Q ls F Rt hw lr hlen hlc hc1 hc2
  obtain ⟨hx, hb, hr_, hml, hown, hts, hlk, hnm, hK, hd1, hd2, ho⟩ := id F
  have kk := kk G p l e R s m args below meth c H locs cells slots Q ls F Rt hw lr hlen hlc hc1 hc2
  obtain ⟨ic, iv⟩ := sr_ix hk (hw.2.2.2.1 r)
  subst hi
  rw [List.map_cons] at kk ⊢
  rw [List.map_cons]
  show W p l e R s m args below meth c H locs cells slots Q (F0 m pc ls (.int (nI k) :: .ref (sr_cr G r) :: _))
  have hat := (hw.2.2.1 r (by omega) hr).2
  rw [sr_cr_lo hr]
  have hin : ∀ cA n f, n = (h.2.1 r).2 → ¬ (nI k < 0 ∨ (arrV cA n f).slots.size ≤ (nI k).toNatClampNeg) := fun cA n f hn => by rw [arrV_size, hn]; exact iv
  rcases h1 with h1 | h1
  · rw [sr_ce_int h1 (by omega) (by omega)] at hat
    exact W.bald (v := .int (h.2.2.1 r k)) hx hb hat ((hK.1.2 0 _ rfl).1 _ _) (fun q => by cases q) (hin _ _ _ rfl) (by rw [ic]; exact arrV_read _ _ hk) rfl rfl hd kk
  · rw [sr_ce_int h1 (by omega) (by omega)] at hat
    exact W.zald (v := .int (h.2.2.1 r k)) hx hb hat ((hK.1.2 2 _ rfl).1 _ _) (fun q => by cases q) (hin _ _ _ rfl) (by rw [ic]; exact arrV_read _ _ hk) rfl rfl hd kk
theorem sg_aald {r k : Nat} {i : Int32} (hd : decode md.2.2.1 pc = .ok (.aaload, 1)) (h1 : (h.2.1 r).1 = 9) (hr : r < 1000000) (hi : i = nI k) (hk : k < (h.2.1 r).2) (kk : sr_Go md d (pc + 1) L (va_rf (h.2.2.2.2 r k) :: st) b h P) : sr_Go md d pc L (.int i :: .ref r :: st) b h P := by
  intro G p l e R s m args below meth c H locs cells slots Q ls F Rt hw lr hlen hlc hc1 hc2
  obtain ⟨hx, hb, hr_, hml, hown, hts, hlk, hnm, hK, hd1, hd2, ho⟩ := id F
  have kk := kk G p l e R s m args below meth c H locs cells slots Q ls F Rt hw lr hlen hlc hc1 hc2
  obtain ⟨ic, iv⟩ := sr_ix hk (hw.2.2.2.1 r)
  subst hi
  rw [List.map_cons] at kk ⊢
  rw [List.map_cons]
  show W p l e R s m args below meth c H locs cells slots Q (F0 m pc ls (.int (nI k) :: .ref (sr_cr G r) :: _))
  have hat := (hw.2.2.1 r (by omega) hr).2
  rw [sr_cr_lo hr]
  rw [sr_ce_ref h1] at hat
  have e1 : sr_cv G (va_rf (h.2.2.2.2 r k)) = va_rf ((h.2.2.2.2 r k).map (sr_cr G)) := by cases h.2.2.2.2 r k <;> rfl
  rw [e1] at kk
  exact va_aldq hx hb hK.1 (sr_P1 hat) 0 3 rfl rfl iv hd (by rw [ic]; exact kk)
end SI
