/-! stores, new cells -/
section SJ
variable {md : sr_MD} {d pc nx tg : Nat} {L L' : sr_L} {st st' : List Value} {b : Nat × Nat} {h : sr_H} {P : Option Value → sr_H → Prop}
theorem sr_ceI {G : sr_G} {r k : Nat} {x : Int32} {c : Nat} (h1 : (h.2.1 r).1 = c) (hc : 6 ≤ c) (hc2 : c < 9) : sr_ce G (sr_setI h r k x) r = .inl (G.2.2.1 c, (h.2.1 r).2, .inl (upd (h.2.2.1 r) k x)) := by
  rw [sr_ce_int (h := sr_setI h r k x) h1 hc hc2]
  have e1 : (sr_setI h r k x).2.2.1 r = upd (h.2.2.1 r) k x := by
    funext j
    show sr_u h.2.2.1 r k x r j = _
    by_cases hj : j = k
    · subst hj; rw [sr_u_same]; exact (if_pos rfl).symm
    · rw [sr_u_ne _ _ hj]; exact (if_neg hj).symm
  rw [e1]; rfl
theorem sr_updI {f : Nat → Int32} {k : Nat} {x : Int32} : updV (fun j => .int (f j)) k (.int x) = fun j => .int (upd f k x j) := by
  funext j
  by_cases hj : j = k
  · subst hj; simp [updV, upd]
  · simp [updV, upd, hj]
theorem sg_iast {r k : Nat} {i x : Int32} (hd : decode md.2.2.1 pc = .ok (.iastore, 1)) (h1 : (h.2.1 r).1 = 7) (hr : r < 1000000) (hi : i = nI k) (hk : k < (h.2.1 r).2) (kk : sr_Go md d (pc + 1) L st b (sr_setI h r k x) P) : sr_Go md d pc L (.int x :: .int i :: .ref r :: st) b h P := by
  intro G p l e R s m args below meth c H locs cells slots Q ls F Rt hw lr hlen hlc hc1 hc2
  obtain ⟨hx, hb, hr_, hml, hown, hts, hlk, hnm, hK, hd1, hd2, ho⟩ := id F
  obtain ⟨ic, iv⟩ := sr_ix hk (hw.2.2.2.1 r)
  subst hi
  have hat := (hw.2.2.1 r (by omega) hr).2
  rw [sr_ce_int h1 (by omega) (by omega)] at hat
  show W p l e R s m args below meth c H locs cells slots Q (F0 m pc ls (.int x :: .int (nI k) :: .ref (sr_cr G r) :: _))
  rw [sr_cr_lo hr]
  refine W.iast hx hb hat ((hK.1.2 1 _ rfl).1 _ _) (fun q => by cases q) (by show ¬ (nI k < 0 ∨ (arrV _ _ _).slots.size ≤ _); rw [arrV_size]; exact iv) rfl rfl hd fun H1 e z oq => ?_
  refine kk G p l _ R s m args below meth c H1 _ cells slots Q ls F Rt (sr_hw_set hw rfl rfl hr (fun z hz => sr_u_row _ _ hz) (fun _ _ => rfl) (fun _ _ => rfl) ?_ z oq) lr hlen (sr_locs hlc (by omega)) hc1 hc2
  rw [sr_ceI h1 (by omega) (by omega)]
  show H1[G.1 + r]? = some (vp_cell _ _)
  rw [e, vp_cell_i, vp_cell_i, arrV_store, ic, sr_updI]
theorem sg_bast {r k : Nat} {i x : Int32} (hd : decode md.2.2.1 pc = .ok (.bastore, 1)) (h1 : (h.2.1 r).1 = 6) (hr : r < 1000000) (hi : i = nI k) (hk : k < (h.2.1 r).2) (kk : sr_Go md d (pc + 1) L st b (sr_setI h r k x.toInt8.toInt32) P) : sr_Go md d pc L (.int x :: .int i :: .ref r :: st) b h P := by
  intro G p l e R s m args below meth c H locs cells slots Q ls F Rt hw lr hlen hlc hc1 hc2
  obtain ⟨hx, hb, hr_, hml, hown, hts, hlk, hnm, hK, hd1, hd2, ho⟩ := id F
  obtain ⟨ic, iv⟩ := sr_ix hk (hw.2.2.2.1 r)
  subst hi
  have hat := (hw.2.2.1 r (by omega) hr).2
  rw [sr_ce_int h1 (by omega) (by omega)] at hat
  show W p l e R s m args below meth c H locs cells slots Q (F0 m pc ls (.int x :: .int (nI k) :: .ref (sr_cr G r) :: _))
  rw [sr_cr_lo hr]
  refine W.bast hx hb hat ((hK.1.2 0 _ rfl).1 _ _) (fun q => by cases q) (by show ¬ (nI k < 0 ∨ (arrV _ _ _).slots.size ≤ _); rw [arrV_size]; exact iv) rfl rfl hd fun H1 e z oq => ?_
  refine kk G p l _ R s m args below meth c H1 _ cells slots Q ls F Rt (sr_hw_set hw rfl rfl hr (fun z hz => sr_u_row _ _ hz) (fun _ _ => rfl) (fun _ _ => rfl) ?_ z oq) lr hlen (sr_locs hlc (by omega)) hc1 hc2
  rw [sr_ceI h1 (by omega) (by omega)]
  show H1[G.1 + r]? = some (vp_cell _ _)
  rw [e, vp_cell_i, vp_cell_i, arrV_store, ic, narrow_byte, sr_updI]
theorem sg_zast {r k : Nat} {i x : Int32} (hd : decode md.2.2.1 pc = .ok (.bastore, 1)) (h1 : (h.2.1 r).1 = 8) (hr : r < 1000000) (hi : i = nI k) (hk : k < (h.2.1 r).2) (hx01 : x = 0 ∨ x = 1) (kk : sr_Go md d (pc + 1) L st b (sr_setI h r k x) P) : sr_Go md d pc L (.int x :: .int i :: .ref r :: st) b h P := by
  intro G p l e R s m args below meth c H locs cells slots Q ls F Rt hw lr hlen hlc hc1 hc2
  obtain ⟨hx, hb, hr_, hml, hown, hts, hlk, hnm, hK, hd1, hd2, ho⟩ := id F
  obtain ⟨ic, iv⟩ := sr_ix hk (hw.2.2.2.1 r)
  subst hi
  have hat := (hw.2.2.1 r (by omega) hr).2
  rw [sr_ce_int h1 (by omega) (by omega)] at hat
  show W p l e R s m args below meth c H locs cells slots Q (F0 m pc ls (.int x :: .int (nI k) :: .ref (sr_cr G r) :: _))
  rw [sr_cr_lo hr]
  refine W.zast hx hb hat ((hK.1.2 2 _ rfl).1 _ _) (fun q => by cases q) (by show ¬ (nI k < 0 ∨ (arrV _ _ _).slots.size ≤ _); rw [arrV_size]; exact iv) rfl rfl hd fun H1 e z oq => ?_
  refine kk G p l _ R s m args below meth c H1 _ cells slots Q ls F Rt (sr_hw_set hw rfl rfl hr (fun z hz => sr_u_row _ _ hz) (fun _ _ => rfl) (fun _ _ => rfl) ?_ z oq) lr hlen (sr_locs hlc (by omega)) hc1 hc2
  rw [sr_ceI h1 (by omega) (by omega)]
  show H1[G.1 + r]? = some (vp_cell _ _)
  have en : narrow .boolean (.int x) = .int x := by rcases hx01 with rfl | rfl <;> decide +kernel
  rw [e, vp_cell_i, vp_cell_i, arrV_store, ic, en, sr_updI]
theorem sg_aast {r k v : Nat} {i : Int32} (hd : decode md.2.2.1 pc = .ok (.aastore, 1)) (h1 : (h.2.1 r).1 = 9) (hr : r < 1000000) (hv1 : (h.2.1 v).1 = 1) (hv : v < 1000000) (hi : i = nI k) (hk : k < (h.2.1 r).2) (kk : sr_Go md d (pc + 1) L st b (sr_setR h r k (some v)) P) : sr_Go md d pc L (.ref v :: .int i :: .ref r :: st) b h P := by
  intro G p l e R s m args below meth c H locs cells slots Q ls F Rt hw lr hlen hlc hc1 hc2
  obtain ⟨hx, hb, hr_, hml, hown, hts, hlk, hnm, hK, hd1, hd2, ho⟩ := id F
  obtain ⟨ic, iv⟩ := sr_ix hk (hw.2.2.2.1 r)
  subst hi
  have hat := (hw.2.2.1 r (by omega) hr).2
  rw [sr_ce_ref h1] at hat
  have hatv := (hw.2.2.1 v (by omega) hv).2
  rw [sr_ce_obj hv1 (by omega)] at hatv
  show W p l e R s m args below meth c H locs cells slots Q (F0 m pc ls (.ref (sr_cr G v) :: .int (nI k) :: .ref (sr_cr G r) :: _))
  rw [sr_cr_lo hr, sr_cr_lo hv]
  have hlt : (nI k).toNatClampNeg < (h.2.1 r).2 := by rw [ic]; exact hk
  have h0 : ¬ nI k < 0 := fun q => iv (Or.inl q)
  obtain ⟨r', hr', cellV, g1, g2, g3, -⟩ := hatv
  have hcls := (hK.1.1 1 (RX1, TX1, 7) rfl).2
  obtain ⟨kA, comp, k1, k2, k3, -⟩ := (hK.1.2 3 _ rfl).2
  have hcomp : comp = G.2.1.1 1 := Option.some.inj (k3.symm.trans hcls.1)
  subst hcomp
  obtain ⟨kC, hkC, -⟩ := hcls.2
  refine W.aast hx hb hat (fun q h => by cases h) (fun h => by cases h) k1 k2 rfl hkC ⟨h0, by show _ < (arrV _ _ _).slots.size; rw [arrV_size]; exact hlt⟩ g1 (fun q h => by rw [g3] at h; cases h) (by rw [g2]; exact hkC) (by rw [g2]; exact va_assign hcls) rfl rfl hd fun H1 e z oq => ?_
  refine kk G p l _ R s m args below meth c H1 _ cells slots Q ls F Rt (sr_hw_set hw rfl rfl hr (fun _ _ => rfl) (fun _ _ => rfl) (fun z hz => sr_u_row _ _ hz) ?_ z oq) lr hlen (sr_locs hlc (by omega)) hc1 hc2
  rw [sr_ce_ref (h := sr_setR h r k (some v)) h1]
  show H1[G.1 + r]? = some (vp_cell _ _)
  rw [e, vp_cell_q, vp_cell_q, arrV_store, ic]
  congr 2
  funext j
  show updV _ k (.ref (G.1 + v)) j = va_rf ((sr_u h.2.2.2.2 r k (some v) r j).map (sr_cr G))
  by_cases hj : j = k
  · subst hj
    rw [sr_u_same]
    simp [updV, va_rf, sr_cr_lo hv]
  · rw [sr_u_ne _ _ hj]
    simp [updV, hj]
theorem sr_new_K (h : sr_H) (kd : Nat × Nat) : (sr_new h kd).2.1 h.1 = kd := if_pos rfl
theorem sr_new_I (h : sr_H) (kd : Nat × Nat) : (sr_new h kd).2.2.1 h.1 = fun _ => 0 := by funext k; exact if_pos rfl
theorem sr_new_J (h : sr_H) (kd : Nat × Nat) : (sr_new h kd).2.2.2.1 h.1 = fun _ => 0 := by funext k; exact if_pos rfl
theorem sr_new_R (h : sr_H) (kd : Nat × Nat) : (sr_new h kd).2.2.2.2 h.1 = fun _ => none := by funext k; exact if_pos rfl
theorem sr_ts_lt (c k : Nat) : (sr_ts c).getD k 0 < 3 := by
  by_cases hc : c < 6
  · by_cases hk : k < 40
    · have : ∀ c, c < 6 → ∀ k, k < 40 → (sr_ts c).getD k 0 < 3 := by decide +kernel
      exact this c hc k hk
    · have : ∀ c, c < 6 → (sr_ts c).length ≤ 40 := by decide +kernel
      rw [List.getD_eq_getElem?_getD, List.getElem?_eq_none (by have := this c hc; omega)]; decide
  · have e : sr_ts c = [] := by
      unfold sr_ts
      rw [List.getD_eq_getElem?_getD, List.getElem?_eq_none (by show 6 ≤ c; omega)]; rfl
    simp [e]
theorem sg_new {idx cn : Nat} (hd : decode md.2.2.1 pc = .ok (.new idx, 3)) (hq : (sr_nls md.1).lookup idx = some cn) (hb1 : 1 ≤ b.1) (hb2 : (sr_ts cn).length ≤ b.2) (hn : h.1 < 1000000) (kk : sr_Go md d (pc + 3) L (.ref h.1 :: st) (b.1 - 1, b.2 - (sr_ts cn).length) (sr_new h (cn, 0)) P) : sr_Go md d pc L st b h P := by
  intro G p l e R s m args below meth c H locs cells slots Q ls F Rt hw lr hlen hlc hc1 hc2
  obtain ⟨hx, hb, hr_, hml, hown, hts, hlk, hnm, hK, hd1, hd2, ho⟩ := id F
  obtain ⟨C, T, N, hc, hl1, hl2, hl3⟩ := sr_nls_ok ho _ (sr_lookup hq)
  dsimp only at hc hl1
  obtain ⟨hc6, hCR, hin, hN, hT1, ty, hty, hnd, htc⟩ := sr_cl hc
  have hKn := hK.1.1 cn _ hc
  subst hN
  refine W.newcK hx hb hown (hts _ (sr_inT hl1 rfl)) (hts _ (sr_inT hl2 rfl)) (hts _ (sr_inT hl3 rfl)) rfl hd (by omega) (by omega) hKn.2.1 rfl fun H1 kC hkC e1 z1 o1 => ?_
  rw [hw.1]
  have kk := kk G p l e R s m args below meth c H1 locs (cells + 1) (slots + (sr_ts cn).length) Q ls F Rt (sr_hw_new hw hn (by show 0 < 2147483648; omega) ?_ z1 o1) lr hlen hlc (by show cells + 1 + (b.1 - 1) ≤ _; omega) (by show slots + _ + (b.2 - _) ≤ _; omega)
  · have e2 : sr_cv G (.ref h.1) = .ref (G.1 + h.1) := by
      show Value.ref (sr_cr G h.1) = _
      rw [sr_cr_lo hn]
    rw [List.map_cons, e2] at kk
    exact kk
  · rw [sr_ce_obj (c := cn) (by rw [sr_new_K]) hc6]
    rw [hw.1] at e1
    refine ⟨_, hc, (u_born ty hts hin hKn hkC e1 hty).to ?_⟩
    intro j hj
    have hj : j < (sr_ts cn).length := hj
    unfold vp_V
    rw [List.getD_eq_getElem?_getD, sr_fs_at G _ h.1 cn hj]
    show defaultValue (ty j) = sr_fv G _ h.1 j _
    have ht := htc j hj
    unfold sr_fv
    rw [sr_new_I, sr_new_J, sr_new_R, ← ht]
    cases hty9 : ty j <;> first | rfl | exact absurd (sr_ts_lt cn j) (by rw [← ht, hty9]; decide)
end SJ
