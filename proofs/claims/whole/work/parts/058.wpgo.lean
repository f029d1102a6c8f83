theorem sr_bif {c : Bool} {A : Prop} (w : bif c then A else False) : c = true ∧ A := by
  cases c with
  | false => exact w.elim
  | true => exact ⟨rfl, w⟩
theorem sr_beq {a b : Nat} (h : Nat.beq a b = true) : a = b := Nat.eq_of_beq_eq_true h
theorem sr_blt {a b : Nat} (h : Nat.blt a b = true) : a < b := Nat.le_of_ble_eq_true h
theorem sr_ble {a b : Nat} (h : Nat.ble a b = true) : a ≤ b := Nat.le_of_ble_eq_true h
theorem sr_own (md : sr_MD) {own idx k : Nat} (ho : own < 9) (hq : (sr_mls own).lookup idx = some (k, md)) : md.1 < 9 := by
  have h2 : ∀ own, own < 9 → ∀ q ∈ sr_mls own, q.2.2.1 < 9 := by decide +kernel
  exact h2 own ho _ (sr_lookup hq)
set_option maxHeartbeats 4000000 in
theorem sr_wq_go {md : sr_MD} {d : Nat} {J : Nat → sr_L → List Value → Nat × Nat → sr_H → (Option Value → sr_H → Prop) → Prop} (hJ : ∀ tg L st b h P, J tg L st b h P → sr_Go md d tg L st b h P) : ∀ {is : List (Instr × Nat × Nat)} {pc : Nat} {L : sr_L} {st : List Value} {b : Nat × Nat} {h : sr_H} {P : Option Value → sr_H → Prop}, sr_is md.2.2.1 pc is = true → sr_wq md d J is pc L st b h P → sr_Go md d pc L st b h P := by
  intro is
  induction is with
  | nil => intro pc L st b h P _ w; exact hJ _ _ _ _ _ _ w
  | cons a is ih =>
    intro pc L st b h P hc w
    obtain ⟨i, nx, tg⟩ := a
    simp only [sr_is, Bool.and_eq_true, decide_eq_true_eq] at hc
    obtain ⟨⟨⟨hn, hd⟩, ht⟩, hrest⟩ := hc
    unfold sr_wq at w
    cases hs : sr_sim md.1 i L st with
    | some q => rw [hs] at w; exact sg_sim hn hd hs (ih hrest w)
    | none =>
      rw [hs] at w
      dsimp only at w
      generalize nx - pc = z at hn hd
      cases i with
      | goto o => exact sg_goto hd (of_decide_eq_true ht) (hJ _ _ _ _ _ _ w)
      | ifCond c o =>
        subst hn
        dsimp only at w
        split at w
        · refine sg_if hd (of_decide_eq_true ht) ?_
          cases c with
          | eq => exact sr_ite (fun c9 => hJ _ _ _ _ _ _ (sr_iteT w c9)) (fun c9 => ih hrest (sr_iteF w c9))
          | ne => exact sr_ite (fun c9 => ih hrest (sr_iteT w c9)) (fun c9 => hJ _ _ _ _ _ _ (sr_iteF w c9))
          | lt => exact sr_ite (fun c9 => hJ _ _ _ _ _ _ (sr_iteT w c9)) (fun c9 => ih hrest (sr_iteF w c9))
          | ge => exact sr_ite (fun c9 => ih hrest (sr_iteT w c9)) (fun c9 => hJ _ _ _ _ _ _ (sr_iteF w c9))
          | gt => exact sr_ite (fun c9 => hJ _ _ _ _ _ _ (sr_iteT w c9)) (fun c9 => ih hrest (sr_iteF w c9))
          | le => exact sr_ite (fun c9 => ih hrest (sr_iteT w c9)) (fun c9 => hJ _ _ _ _ _ _ (sr_iteF w c9))
        · exact w.elim
      | if_icmp c o =>
        subst hn
        dsimp only at w
        split at w
        · refine sg_icmp hd (of_decide_eq_true ht) ?_
          cases c with
          | eq => exact sr_ite (fun c9 => hJ _ _ _ _ _ _ (sr_iteT w c9)) (fun c9 => ih hrest (sr_iteF w c9))
          | ne => exact sr_ite (fun c9 => ih hrest (sr_iteT w c9)) (fun c9 => hJ _ _ _ _ _ _ (sr_iteF w c9))
          | lt => exact sr_ite (fun c9 => hJ _ _ _ _ _ _ (sr_iteT w c9)) (fun c9 => ih hrest (sr_iteF w c9))
          | ge => exact sr_ite (fun c9 => ih hrest (sr_iteT w c9)) (fun c9 => hJ _ _ _ _ _ _ (sr_iteF w c9))
          | gt => exact sr_ite (fun c9 => hJ _ _ _ _ _ _ (sr_iteT w c9)) (fun c9 => ih hrest (sr_iteF w c9))
          | le => exact sr_ite (fun c9 => ih hrest (sr_iteT w c9)) (fun c9 => hJ _ _ _ _ _ _ (sr_iteF w c9))
        · exact w.elim
      | ifnull o =>
        subst hn
        dsimp only at w
        split at w
        · exact sg_nullR hd (ih hrest w)
        · exact sg_nullN hd (of_decide_eq_true ht) (hJ _ _ _ _ _ _ w)
        · exact w.elim
      | ifnonnull o =>
        subst hn
        dsimp only at w
        split at w
        · exact sg_nonnR hd (of_decide_eq_true ht) (hJ _ _ _ _ _ _ w)
        · exact sg_nonnN hd (ih hrest w)
        · exact w.elim
      | tableswitch dflt lo hi offs =>
        dsimp only at w
        split at w
        · simp only [sr_tgs, Bool.and_eq_true, decide_eq_true_eq, List.all_eq_true] at ht
          exact sg_sw hd ht.1.1.1.1 ht.1.1.1.2 ht.1.1.2 ht.1.2 ht.2 hJ w
        · exact w.elim
      | lookupswitch dflt ps =>
        dsimp only at w
        split at w
        · simp only [sr_tgs, Bool.and_eq_true] at ht
          refine sg_lsw hd (of_decide_eq_true ht.1.1) ?_ ht.2 hJ w
          intro q hq
          have := List.all_eq_true.mp ht.1.2 q hq
          simp only [Bool.and_eq_true, decide_eq_true_eq] at this
          exact ⟨this.1.1, this.1.2, this.2⟩
        · exact w.elim
      | idiv => subst hn; dsimp only at w; split at w; exact sg_idiv hd w.1 (ih hrest w.2); exact w.elim
      | irem => subst hn; dsimp only at w; split at w; exact sg_irem hd w.1 (ih hrest w.2); exact w.elim
      | ldiv => subst hn; dsimp only at w; split at w; exact sg_ldiv hd w.1 (ih hrest w.2); exact w.elim
      | lrem => subst hn; dsimp only at w; split at w; exact sg_lrem hd w.1 (ih hrest w.2); exact w.elim
      | getfield idx =>
        subst hn
        dsimp only at w
        split at w
        · split at w
          · next q hq =>
            obtain ⟨hb, w⟩ := sr_bif w
            simp only [Bool.and_eq_true] at hb
            exact sg_get hd hq (sr_beq hb.1) (sr_blt hb.2) (ih hrest w)
          · exact w.elim
        · exact w.elim
      | putfield idx =>
        subst hn
        dsimp only at w
        split at w
        · split at w
          · next q hq =>
            obtain ⟨hb, w⟩ := sr_bif w
            simp only [Bool.and_eq_true, Bool.or_eq_true, Bool.not_eq_true', decide_eq_true_eq] at hb
            obtain ⟨⟨hb1, hb2⟩, hb3⟩ := hb
            have hfin : sr_fin q.1 q.2 = false ∨ (md.2.1.name = "<init>" ∧ md.1 = q.1) := hb3.imp id (fun x => ⟨x.1, sr_beq x.2⟩)
            split at w
            · exact sg_putI hd hq (sr_beq hb1) (sr_blt hb2) hfin (by assumption) (ih hrest w)
            · exact sg_putJ hd hq (sr_beq hb1) (sr_blt hb2) hfin (by assumption) (ih hrest w)
            · exact sg_putR (x := some _) hd hq (sr_beq hb1) (sr_blt hb2) hfin (by assumption) (ih hrest w)
            · exact sg_putR (x := none) hd hq (sr_beq hb1) (sr_blt hb2) hfin (by assumption) (ih hrest w)
            · exact w.elim
          · exact w.elim
        · exact w.elim
      | getstatic idx =>
        subst hn
        dsimp only at w
        split at w
        · next j hq => exact sg_gets hd hq (ih hrest w)
        · exact w.elim
      | arraylength =>
        subst hn
        dsimp only at w
        split at w
        · obtain ⟨hb, w⟩ := sr_bif w
          simp only [Bool.and_eq_true] at hb
          exact sg_alen hd (sr_ble hb.1) (sr_blt hb.2) (ih hrest w)
        · exact w.elim
      | iaload =>
        subst hn
        dsimp only at w
        split at w
        · obtain ⟨hb, k, ⟨h1, h2⟩, w⟩ := sr_bif w
          exact sg_iald hd (sr_beq hb) h1 h2 (ih hrest w)
        · exact w.elim
      | baload =>
        subst hn
        dsimp only at w
        split at w
        · obtain ⟨hb, k, ⟨h1, h2⟩, w⟩ := sr_bif w
          simp only [Bool.and_eq_true, Bool.or_eq_true] at hb
          exact sg_bald hd (hb.1.imp sr_beq sr_beq) (sr_blt hb.2) h1 h2 (ih hrest w)
        · exact w.elim
      | aaload =>
        subst hn
        dsimp only at w
        split at w
        · obtain ⟨hb, k, ⟨h1, h2⟩, w⟩ := sr_bif w
          simp only [Bool.and_eq_true] at hb
          exact sg_aald hd (sr_beq hb.1) (sr_blt hb.2) h1 h2 (ih hrest w)
        · exact w.elim
      | iastore =>
        subst hn
        dsimp only at w
        split at w
        · obtain ⟨hb, k, ⟨h1, h2⟩, w⟩ := sr_bif w
          simp only [Bool.and_eq_true] at hb
          exact sg_iast hd (sr_beq hb.1) (sr_blt hb.2) h1 h2 (ih hrest w)
        · exact w.elim
      | bastore =>
        subst hn
        dsimp only at w
        split at w
        · next x i9 r st9 =>
          cases hb6 : (Nat.beq (h.2.1 r).1 6 && Nat.blt r 1000000) with
          | true =>
            rw [hb6] at w
            obtain ⟨k, ⟨h1, h2⟩, w⟩ := w
            simp only [Bool.and_eq_true] at hb6
            exact sg_bast hd (sr_beq hb6.1) (sr_blt hb6.2) h1 h2 (ih hrest w)
          | false =>
            rw [hb6] at w
            obtain ⟨hb, k, ⟨h1, h2, h3⟩, w⟩ := sr_bif w
            simp only [Bool.and_eq_true] at hb
            exact sg_zast hd (sr_beq hb.1) (sr_blt hb.2) h1 h2 h3 (ih hrest w)
        · exact w.elim
      | aastore =>
        subst hn
        dsimp only at w
        split at w
        · obtain ⟨hb, k, ⟨h1, h2⟩, w⟩ := sr_bif w
          simp only [Bool.and_eq_true] at hb
          exact sg_aast hd (sr_beq hb.1.1) (sr_blt hb.1.2) (sr_beq hb.2.1) (sr_blt hb.2.2) h1 h2 (ih hrest w)
        · exact w.elim
      | new idx =>
        subst hn
        dsimp only at w
        split at w
        · next c hq => exact sg_new hd hq w.1.1 w.1.2.1 w.1.2.2 (ih hrest w.2)
        · exact w.elim
      | newarray t =>
        subst hn
        dsimp only at w
        split at w
        · obtain ⟨N, ⟨h1, h2, h3, h4, h5, h6⟩, w⟩ := w
          exact sg_newa hd h1 h2 h3 h4 h5 h6 (ih hrest w)
        · exact w.elim
      | anewarray idx =>
        subst hn
        dsimp only at w
        split at w
        · obtain ⟨hq, N, ⟨h1, h2, h3, h4, h5⟩, w⟩ := w
          exact sg_anew hd hq h1 h2 h3 h4 h5 (ih hrest w)
        · exact w.elim
      | ireturn =>
        subst hn
        dsimp only at w
        split at w
        · split at w
          · next hr => exact sg_ret (Or.inl ⟨_, rfl, hd, Or.inl hr⟩) w
          · next hr => exact sg_ret (Or.inl ⟨_, rfl, hd, Or.inr ⟨hr, w.1⟩⟩) w.2
          · exact w.elim
        · exact w.elim
      | lreturn =>
        subst hn
        dsimp only at w
        split at w
        · split at w
          · next hr => exact sg_ret (Or.inr (Or.inl ⟨_, rfl, hd, hr⟩)) w
          · exact w.elim
        · exact w.elim
      | return_ =>
        subst hn
        dsimp only at w
        split at w
        · split at w
          · next hr => exact sg_ret (r := none) (Or.inr (Or.inr ⟨rfl, hd, hr⟩)) w
          · exact w.elim
        · exact w.elim
      | invokevirtual idx =>
        subst hn
        dsimp only at w
        split at w
        · next md' hq =>
          split at w
          · next As r rest hp =>
            obtain ⟨hb, w⟩ := sr_bif w
            simp only [Bool.and_eq_true] at hb
            obtain ⟨⟨⟨⟨b1, b2⟩, b3⟩, b4⟩, b5, b6⟩ := hb
            obtain ⟨Cs, c1, c2, c3⟩ := sr_pop_spec hp
            cases d with
            | zero => exact w.elim
            | succ d' =>
              refine sg_invV hd hq (As := As) (r := r) (rest := rest) ?_ ?_ (sr_beq b1) (sr_blt b2) (sr_ble b3) (sr_ble b4) (sr_ble b5) (sr_ble b6) w (fun v h1 w1 => ih hrest w1)
              · rw [c2, c3, List.append_nil, List.reverse_reverse]
              · rw [c3, List.append_nil, List.length_reverse, c1]
          · exact w.elim
        · exact w.elim
      | invokestatic idx =>
        subst hn
        dsimp only at w
        split at w
        · next md' hq =>
          split at w
          · next As rest hp =>
            obtain ⟨hb, w⟩ := sr_bif w
            simp only [Bool.and_eq_true] at hb
            obtain ⟨⟨b3, b4⟩, b5, b6⟩ := hb
            obtain ⟨Cs, c1, c2, c3⟩ := sr_pop_spec hp
            cases d with
            | zero => exact w.elim
            | succ d' =>
              intro G p l e R s m args below meth c H locs cells slots Q ls F
              refine sg_invS hd hq (As := As) (rest := rest) ?_ ?_ (sr_own _ F.2.2.2.2.2.2.2.2.2.2.2 hq) (sr_ble b3) (sr_ble b4) (sr_ble b5) (sr_ble b6) w (fun v h1 w1 => ih hrest w1) G p l e R s m args below meth c H locs cells slots Q ls F
              · rw [c2, c3, List.append_nil, List.reverse_reverse]
              · rw [c3, List.append_nil, List.length_reverse, c1]
          · exact w.elim
        · next hq =>
          split at w
          · obtain ⟨hb, i, j, k, ⟨h1, h2, h3, h4, h5⟩, w⟩ := sr_bif w
            simp only [Bool.and_eq_true] at hb
            exact sg_copy hd hq (sr_beq hb.1.1.1.1.1) (sr_beq hb.1.1.1.1.2) (sr_blt hb.1.1.1.2) (sr_blt hb.1.1.2) (sr_ble hb.1.2) (sr_blt hb.2) h1 h2 h3 h4 h5 (ih hrest w)
          · exact w.elim
        · next hq =>
          split at w
          · obtain ⟨hb, w⟩ := sr_bif w
            simp only [Bool.and_eq_true] at hb
            exact sg_max hd hq (sr_ble hb.1) (sr_blt hb.2) (ih hrest w)
          · exact w.elim
        · exact w.elim
      | invokespecial idx =>
        subst hn
        dsimp only at w
        split at w
        · next hq =>
          split at w
          · obtain ⟨hb, w⟩ := sr_bif w
            simp only [Bool.and_eq_true] at hb
            exact sg_obj hd hq (sr_ble hb.1) (sr_blt hb.2) (ih hrest w)
          · exact w.elim
        · next k md' hne hq =>
          split at w
          · next As r rest hp =>
            obtain ⟨hb, w⟩ := sr_bif w
            simp only [Bool.and_eq_true, Bool.or_eq_true] at hb
            obtain ⟨⟨⟨⟨b1, b2⟩, b3⟩, b4⟩, b5, b6⟩ := hb
            obtain ⟨Cs, c1, c2, c3⟩ := sr_pop_spec hp
            cases d with
            | zero => exact w.elim
            | succ d' =>
              intro G p l e R s m args below meth c H locs cells slots Q ls F
              refine sg_invI hd (b1.imp sr_beq sr_beq) hq (As := As) (r := r) (rest := rest) ?_ ?_ (sr_blt b2) (sr_own _ F.2.2.2.2.2.2.2.2.2.2.2 hq) (sr_ble b3) (sr_ble b4) (sr_ble b5) (sr_ble b6) w (fun v h1 w1 => ih hrest w1) G p l e R s m args below meth c H locs cells slots Q ls F
              · rw [c2, c3, List.append_nil, List.reverse_reverse]
              · rw [c3, List.append_nil, List.length_reverse, c1]
          · exact w.elim
        · exact w.elim
      | _ => exact w.elim
theorem sr_wp_go {md : sr_MD} {d : Nat} {is : List (Instr × Nat × Nat)} {pc : Nat} {L : sr_L} {st : List Value} {b : Nat × Nat} {h : sr_H} {P : Option Value → sr_H → Prop} (hc : sr_is md.2.2.1 pc is = true) (w : sr_wp md d is pc L st b h P) : sr_Go md d pc L st b h P := sr_wq_go (fun _ _ _ _ _ _ k => k) hc w
