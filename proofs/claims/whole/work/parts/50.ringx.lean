/-! ring: the class -/
theorem nb_gj : ∀ g, g < 6 → ∀ s, s < 32 → s < 2 ^ g → ∀ j, j < 5 → sp_bit s j = 1 → j < g := by decide +kernel
theorem nb_p5 {g : Nat} (h : g ≤ 5) : 2 ^ g ≤ 32 := nb_powle (T := 5) h
section RX
variable {Ls nz d T g o D n c i j k s : Nat} {E : Nat → Nat → Prop} {kd lf th tn : Nat → Nat} {xs : Nat → Int32} {FI F F' : Nat → Nat → Int32} {FJ : Nat → Nat → Int64} {kp : Nat → Option Nat} {P : Option Value → sr_H → Prop} {h9 : sr_H}
theorem c4_leadsOn {e t : Nat} {x y : Int32} (hD : sp_HD T g o kd lf th) (hX : sp_XH F T g o kd lf th) (hXT : sp_XT F g tn) (hTd : sp_TD T g tn) (hx : x = nI e) (he : e < 256) (hy : y = nI t) (ht : t < g) (h1 : ∀ p, p < g → sp_bit e p = 1 → lf t = sp_sec T kd lf tn p → ∀ z, z = 1 → P (some (.int z)) (hp Ls nz F FJ kp)) (h0 : (∀ p, p < g → sp_bit e p = 1 → lf t ≠ sp_sec T kd lf tn p) → ∀ z, z = 0 → P (some (.int z)) (hp Ls nz F FJ kp)) : sr_Call mX4_leadsOn (d + 4) [.ref 0, .int x, .int y] (hp Ls nz F FJ kp) P := by
  have hg := hD.1
  subst hx; subst hy
  have l1 : ∀ p, p ≤ g → ∀ z : Int32, z = nI p → (∀ q, q < p → sp_bit e q = 1 → lf t ≠ sp_sec T kd lf tn q) → sr_Go mX4_leadsOn (d + 4) 2 [some (.ref 0), some (.int (nI e)), some (.int (nI t)), some (.int z)] [] (0, 0) (hp Ls nz F FJ kp) P := by
    refine sp_for (fun z hz hq => ?_) (fun p hp' ih z hz hq => ?_)
    · refine eX4_leadsOn [2] ?_
      refine sr_ite (c := z < F 8 1) (fun q => absurd q (by rw [hz, hX.2.1]; exact nI_nlt (Nat.le_refl _) (by omega))) (fun _ => ?_)
      exact ⟨Or.inl rfl, h0 hq 0 rfl⟩
    · have eb : (nI e >>> (z &&& 31)) &&& nI 1 = nI (sp_bit e p) := by rw [hz]; exact nb_shr e he p (by omega)
      have b01 := nb_b01 e p
      refine eX4_leadsOn [2] ?_
      refine sr_ite (c := z < F 8 1) (fun _ => ?_) (fun q => absurd (by rw [hz, hX.2.1]; exact nI_lt hp' (by omega)) q)
      refine sr_ite (c := (nI e >>> (z &&& 31)) &&& nI 1 = nI 1) (fun c1 => ?_) (fun c1 => ?_)
      · rw [eb] at c1
        have c1 := nI_inj (by omega) (by omega) c1
        refine c4_isSecondOf' hD hX hXT hTd rfl ht hz hp' (fun c2 w hw => ?_) (fun c2 w hw => ?_)
        · refine sr_n1 hw ?_
          exact ⟨Or.inr rfl, h1 p hp' c1 c2 1 rfl⟩
        · refine sr_n0 hw ?_
          refine ih _ (by rw [hz]; exact nI_1 p) (fun q hq1 hq2 => ?_)
          by_cases e1 : q = p
          · rw [e1]; exact c2
          · exact hq q (by omega) hq2
      · rw [eb] at c1
        refine ih _ (by rw [hz]; exact nI_1 p) (fun q hq1 hq2 => ?_)
        by_cases e1 : q = p
        · rw [e1] at hq2; exact absurd (by rw [hq2]) c1
        · exact hq q (by omega) hq2
  refine eX4_leadsOn [2] ?_
  exact l1 0 (by omega) _ rfl (fun q hq => absurd hq (by omega))
theorem c4_endsOfWalk {x : Int32} (hD : sp_HD T g o kd lf th) (hX : sp_XH F T g o kd lf th) (hXT : sp_XT F g tn) (hTd : sp_TD T g tn) (hE : ∀ a b, E a b ↔ a ≠ b ∧ lf a = sp_sec T kd lf tn b) (hx : x = nI s) (hs0 : 0 < s) (hsg : s < 2 ^ g) (hW : ∀ s', 0 < s' → s' < s → ∃ e, e < 32 ∧ F 28 s' = nI e ∧ ∀ l, l < 5 → (sp_bit e l = 1 ↔ sp_PE E g s' l)) (h : ∀ e, e < 32 → (∀ l, l < 5 → (sp_bit e l = 1 ↔ sp_PE E g s l)) → P (some (.int (nI e))) (hp Ls nz F FJ kp)) : sr_Call mX4_endsOfWalk (d + 5) [.ref 0, .int x] (hp Ls nz F FJ kp) P := by
  have hg := hD.1
  have h32 := nb_p5 hg
  have hs : s < 32 := by omega
  have lo := nb_lo s hs hs0
  have hp5 := nb_pop5 s hs
  have flow : sp_lowI s = nI (sp_low s 8) := by unfold sp_lowI; rw [if_neg (by omega)]
  have hfg := nb_gj g (by omega) s hs hsg _ lo.1 lo.2.1
  subst hx
  refine eX4_endsOfWalk [22] ?_
  refine c4_firstBit (l := s) rfl (by omega) ?_
  refine c6_bitCount (l := s) rfl (by omega) ?_
  refine sr_ite (c := nI (sp_pop s) = nI 1) (fun c => ?_) (fun c => ?_)
  · have c := nI_inj (by omega) (by omega) c
    exact h s hs (fun l hl => sp_PE_one hg hs hs0 hsg c hl)
  · have c : sp_pop s ≠ 1 := fun q => c (by rw [q])
    have l1 : ∀ i, i ≤ g → sp_low s 8 < i → ∀ w z : Int32, z = nI i → (∃ e, e < 32 ∧ w = nI e ∧ ∀ l, l < 5 → (sp_bit e l = 1 ↔ (l < i ∧ sp_PE E g s l))) → sr_Go mX4_endsOfWalk (d + 5) 22 [some (.ref 0), some (.int (nI s)), some (.int (sp_lowI s)), some (.int w), some (.int z)] [] (0, 0) (hp Ls nz F FJ kp) P := by
      refine sp_for (fun _ w z hz hq => ?_) (fun i hi ih hlo w z hz hq => ?_)
      · obtain ⟨e, he, e1, e2⟩ := hq
        refine eX4_endsOfWalk [22] ?_
        refine sr_ite (c := z < F 8 1) (fun q => absurd q (by rw [hz, hX.2.1]; exact nI_nlt (Nat.le_refl _) (by omega))) (fun _ => ?_)
        have := h e he (fun l hl => (e2 l hl).trans ⟨fun q => q.2, fun q => ⟨(sp_PE_in hg hs0 c q).1, q⟩⟩)
        rw [← e1] at this
        exact this
      · obtain ⟨e, he, e1, e2⟩ := hq
        have eb : (nI s >>> (z &&& 31)) &&& nI 1 = nI (sp_bit s i) := by rw [hz]; exact nb_shr s (by omega) i (by omega)
        have b01 := nb_b01 s i
        have skip : ¬ sp_PE E g s i → ∃ e, e < 32 ∧ w = nI e ∧ ∀ l, l < 5 → (sp_bit e l = 1 ↔ (l < i + 1 ∧ sp_PE E g s l)) := fun no => ⟨e, he, e1, fun l hl => (e2 l hl).trans ⟨fun q => ⟨by omega, q.2⟩, fun q => ⟨by
          rcases Nat.lt_or_ge l i with a | a
          · exact a
          · have : l = i := by omega
            rw [this] at q
            exact absurd q.2 no, q.2⟩⟩⟩
        refine eX4_endsOfWalk [22] ?_
        refine sr_ite (c := z < F 8 1) (fun _ => ?_) (fun q => absurd (by rw [hz, hX.2.1]; exact nI_lt hi (by omega)) q)
        refine sr_ite (c := (nI s >>> (z &&& 31)) &&& nI 1 = nI 1) (fun c1 => ?_) (fun c1 => ?_)
        · rw [eb] at c1
          have c1 := nI_inj (by omega) (by omega) c1
          have hlx := nb_lox s hs i (by omega) c1 hlo
          have hxb := nb_xb s hs i (by omega) c1
          obtain ⟨e', he', f1, f2⟩ := hW _ hlx.2.1 hlx.1
          have more := sp_PE_more (E := E) hg hs (by omega) c1 hlo hi
          have hsh : (nI 1 <<< (z &&& 31)) = nI (2 ^ i) := by rw [hz]; exact nI_shl1 i (by omega)
          refine ⟨s ^^^ 2 ^ i, ⟨show nI s ^^^ (nI 1 <<< (z &&& 31)) = _ by rw [hsh, nI_xor], show s ^^^ 2 ^ i < 32 by omega⟩, ?_⟩
          refine c4_leadsOn (e := e') hD hX hXT hTd f1 (by omega) hz hi (fun p hpg hb2 hse y hy => ?_) (fun no y hy => ?_)
          · refine sr_n1 hy ?_
            have yes : sp_PE E g s i := more.mpr ⟨p, hpg, (f2 p (by omega)).mp hb2, (hE i p).mpr ⟨fun q => ?_, hse⟩⟩
            · have ob := nb_orl e he i (by omega)
              refine ih (by omega) _ _ (by rw [hz]; exact nI_1 i) ⟨e ||| 2 ^ i, ob.1, ?_, fun l hl => (ob.2 l hl).trans ⟨fun q => ?_, fun q => ?_⟩⟩
              · show w ||| (nI 1 <<< (z &&& 31)) = _
                rw [hsh, e1, nI_or]
              · rcases q with q | q
                · have := (e2 l hl).mp q
                  exact ⟨by omega, this.2⟩
                · rw [q]; exact ⟨by omega, yes⟩
              · by_cases a : l = i
                · exact Or.inr a
                · exact Or.inl ((e2 l hl).mpr ⟨by omega, q.2⟩)
            · obtain ⟨n', v', hp', hS', _, hn'⟩ := (f2 p (by omega)).mp hb2
              have := (sp_ws_in hg hp' hS' (Nat.le_refl n')).2
              rw [hn', ← q, hxb i (by omega), if_pos rfl] at this
              exact absurd this (by decide)
          · refine sr_n0 hy ?_
            refine ih (by omega) _ _ (by rw [hz]; exact nI_1 i) (skip (fun q => ?_))
            obtain ⟨p, hpg, h5, h6⟩ := more.mp q
            exact no p hpg ((f2 p (by omega)).mpr h5) ((hE i p).mp h6).2
        · rw [eb] at c1
          refine ih (by omega) _ _ (by rw [hz]; exact nI_1 i) (skip (fun q => ?_))
          exact c1 (by rw [(sp_PE_in hg hs0 c q).2.1])
    refine l1 (sp_low s 8 + 1) (by omega) (by omega) _ _ (show sp_lowI s + nI 1 = _ by rw [flow]; exact nI_1 _) ⟨0, by omega, rfl, fun l hl => ⟨fun q => ?_, fun q => ?_⟩⟩
    · unfold sp_bit at q; rw [Nat.zero_div] at q; exact absurd q (by decide)
    · have := (sp_PE_in hg hs0 c q.2).2.2; omega
end RX
