/-! pairs of calls: marks -/
section MK
variable {Ls nz d T g o D n c i j k : Nat} {S L : Nat → Nat} {R : Nat → Nat → Prop} {W : Nat → Prop} {kd lf th tn : Nat → Nat} {xs : Nat → Int32} {FI F F' : Nat → Nat → Int32} {FJ : Nat → Nat → Int64} {kp : Nat → Option Nat} {P : Option Value → sr_H → Prop} {h9 : sr_H}
/-- all lives of the hotel, in their order -/
def sp_al (T : Nat) (kd lf tn : Nat → Nat) (e : Nat) : Nat := if e % 2 = 0 then lf (e / 2) else sp_sec T kd lf tn (e / 2)
theorem sp_al_lt (hD : sp_HD T g o kd lf th) (hTd : sp_TD T g tn) {e : Nat} (he : e < 2 * g) : sp_al T kd lf tn e < 2 ^ T := by
  unfold sp_al
  split
  · exact (hD.2.2.2.2.1 _ (by omega)).2
  · exact sp_sec_lt hD hTd (by omega)
/-- the reference's two loops over pairs, and what follows -/
theorem c5_marks48 {u v w : Option Value} {Q : Option Value → sr_H → Prop} (hD : sp_HD T g o kd lf th) (hM : sp_MH F T g o kd lf th) (hMT : sp_MT F g tn) (hTd : sp_TD T g tn) (hL : ∀ e, L e = sp_al T kd lf tn e) (hSL : ∀ e, S e = sp_things th (L e) o) (hS : ∀ e, e < 2 * g → F 50 e = nI (S e)) (hbad : ∀ i j, i < 2 * g → j < i → L i ≠ L j → S i = S j → Q (some (.int (sr_k (-9)))) (hp Ls nz F FJ kp)) (hok : (∀ i, i < 2 * g → ∀ j, j < i → L i = L j ∨ S i ≠ S j) → ∀ k, sp_ch (sp_told S (2 * g)) (2 ^ o) k → Q (some (.int (nI (sp_pop k)))) (hp Ls nz (sr_u F 30 2 (nI k)) FJ kp)) : ∀ z : Int32, z = 0 → sr_Go mX5_marks (d + 4) 48 [some (.ref 30), some (.int z), u, v, w] [] (0, 0) (hp Ls nz F FJ kp) Q := by
  have hg := hD.1
  have ho := hD.2.1
  have hT6 := hD.2.2.1
  have h64 := sp_pow_le hT6
  have hSo : ∀ e, S e < 2 ^ o := fun e => by rw [hSL]; exact sp_things_lt _ _ _
  have hS8 : ∀ e, S e < 256 := fun e => Nat.lt_of_lt_of_le (hSo e) (nb_p8 ho)
  have hL2 : ∀ e, e < 2 * g → L e < 2 ^ T := fun e he => by rw [hL]; exact sp_al_lt hD hTd he
  have inner : ∀ i, i < 2 * g → (∀ (z : Int32) u v w, z = nI (i + 1) → (∀ i', i' < i + 1 → ∀ j, j < i' → L i' = L j ∨ S i' ≠ S j) → sr_Go mX5_marks (d + 4) 48 [some (.ref 30), some (.int z), u, v, w] [] (0, 0) (hp Ls nz F FJ kp) Q) → (∀ i', i' < i → ∀ j, j < i' → L i' = L j ∨ S i' ≠ S j) → ∀ j, j ≤ i → ∀ (z y : Int32) v w, z = nI i → y = nI j → (∀ j', j' < j → L i = L j' ∨ S i ≠ S j') → sr_Go mX5_marks (d + 4) 60 [some (.ref 30), some (.int z), some (.int y), v, w] [] (0, 0) (hp Ls nz F FJ kp) Q := by
    intro i hi out hall
    refine sp_for (fun z y v w hz hy hd => ?_) (fun j hj ih z y v w hz hy hd => ?_)
    · refine eX5_marks [48, 60] ?_
      refine sr_ite (c := y < z) (fun q => absurd q (by rw [hz, hy]; exact nI_nlt (Nat.le_refl _) (by omega))) (fun _ => ?_)
      refine out _ _ _ _ (by rw [hz]; exact nI_1 i) (fun i' hi' => ?_)
      by_cases e : i' = i
      · rw [e]; exact hd
      · exact hall i' (by omega)
    · -- the last part, with both lives known
      have eL : ∀ e, e < 2 * g → e % 2 = 0 → F 38 (e / 2) = nI (L e) := fun e he h0 => by
        rw [(hM.2.2.2.1 (e / 2) (by omega)).2, hL]; unfold sp_al; rw [if_pos h0]
      have eS : ∀ e, e < 2 * g → ¬ e % 2 = 0 → sp_sec T kd lf tn (e / 2) = L e := fun e he h0 => by
        rw [hL]; unfold sp_al; rw [if_neg h0]
      have last : ∀ a b : Int32, a = nI (L i) → b = nI (L j) → sr_Go mX5_marks (d + 4) 114 [some (.ref 30), some (.int z), some (.int y), some (.int a), w] [.int b] (0, 0) (hp Ls nz F FJ kp) Q := by
        intro a b ha hb
        have b1 := hL2 i hi
        have b2 := hL2 j (by omega)
        have b3 := hS8 i
        have b4 := hS8 j
        refine eX5_marks [48, 60] ?_
        refine sr_ite (c := a = b) (fun q => ?_) (fun q => ?_)
        · rw [ha, hb] at q
          have q := nI_inj (by omega) (by omega) q
          refine ih _ _ _ _ hz (by rw [hy]; exact nI_1 j) (fun j' hj' => ?_)
          by_cases e : j' = j
          · rw [e]; exact Or.inl q
          · exact hd j' (by omega)
        · refine ⟨i, ⟨hz, show i < 10 by omega⟩, ⟨j, ⟨hy, show j < 10 by omega⟩, ?_⟩⟩
          refine sr_ite (c := F 50 i = F 50 j) (fun q2 => ?_) (fun q2 => ?_)
          · rw [hS i hi, hS j (by omega)] at q2
            exact hbad i j hi hj (fun e => q (by rw [ha, hb, e])) (nI_inj (by omega) (by omega) q2)
          · refine ih _ _ _ _ hz (by rw [hy]; exact nI_1 j) (fun j' hj' => ?_)
            by_cases e : j' = j
            · rw [e]; exact Or.inr (fun e2 => q2 (by rw [hS i hi, hS j (by omega), e2]))
            · exact hd j' (by omega)
      have mid : ∀ a : Int32, a = nI (L i) → sr_Go mX5_marks (d + 4) 89 [some (.ref 30), some (.int z), some (.int y), v, w] [.int a] (0, 0) (hp Ls nz F FJ kp) Q := by
        intro a ha
        have ej : y - y / nI 2 * nI 2 = nI (j % 2) := by rw [hy]; exact pk_rem (by omega) (by omega) (by omega)
        have dj : y / nI 2 = nI (j / 2) := by rw [hy]; exact nb_half j (by omega)
        refine eX5_marks [48, 60, 114] ?_
        refine ⟨by decide, ?_⟩
        refine sr_ite (c := y - y / nI 2 * nI 2 = 0) (fun q => ?_) (fun q => ?_)
        · rw [ej] at q
          have q := nI_inj (by omega) (by omega) (q.trans nI_0.symm)
          refine ⟨by decide, ⟨j / 2, ⟨dj, show j / 2 < 5 by omega⟩, ?_⟩⟩
          exact last a _ ha (eL j (by omega) q)
        · rw [ej] at q
          refine ⟨by decide, ?_⟩
          refine c5_second (i := j / 2) hD hM hMT hTd dj (by omega) ?_
          exact last a _ ha (by rw [eS j (by omega) (fun e => q (by rw [e]; exact nI_0))])
      have ei : z - z / nI 2 * nI 2 = nI (i % 2) := by rw [hz]; exact pk_rem (by omega) (by omega) (by omega)
      have di : z / nI 2 = nI (i / 2) := by rw [hz]; exact nb_half i (by omega)
      refine eX5_marks [48, 60, 89] ?_
      refine sr_ite (c := y < z) (fun _ => ?_) (fun q => absurd (by rw [hz, hy]; exact nI_lt hj (by omega)) q)
      refine ⟨by decide, ?_⟩
      refine sr_ite (c := z - z / nI 2 * nI 2 = 0) (fun q => ?_) (fun q => ?_)
      · rw [ei] at q
        have q := nI_inj (by omega) (by omega) (q.trans nI_0.symm)
        refine ⟨by decide, ⟨i / 2, ⟨di, show i / 2 < 5 by omega⟩, ?_⟩⟩
        exact mid _ (eL i hi q)
      · rw [ei] at q
        refine ⟨by decide, ?_⟩
        refine c5_second (i := i / 2) hD hM hMT hTd di (by omega) ?_
        exact mid _ (by rw [eS i hi (fun e => q (by rw [e]; exact nI_0))])
  have outer : ∀ i, i ≤ 2 * g → ∀ (z : Int32) u v w, z = nI i → (∀ i', i' < i → ∀ j, j < i' → L i' = L j ∨ S i' ≠ S j) → sr_Go mX5_marks (d + 4) 48 [some (.ref 30), some (.int z), u, v, w] [] (0, 0) (hp Ls nz F FJ kp) Q := by
    refine sp_for (fun z u v w hz hall => ?_) (fun i hi ih z u v w hz hall => ?_)
    · refine eX5_marks [48, 60] ?_
      refine sr_ite (c := z < nI 2 * F 30 10) (fun q => absurd q (by rw [hz, hM.2.1, nI_mul]; exact nI_nlt (Nat.le_refl _) (by omega))) (fun _ => ?_)
      refine c5_fewestBy (n := 2 * g) (S := S) ho hM.2.2.1 hS (fun t _ => hS8 t) (by omega) (show nI 2 * F 30 10 = _ by rw [hM.2.1, nI_mul]) (sp_full (fun t _ => hSo t)) (fun k hk => ?_)
      have h256 := nb_p8 ho
      have hk1 := hk.1
      refine c5_bits (l := k) rfl (by omega) ?_
      refine c5_tells ?_
      exact hok hall k hk
    · refine eX5_marks [48, 60] ?_
      refine sr_ite (c := z < nI 2 * F 30 10) (fun _ => ?_) (fun q => absurd (by rw [hz, hM.2.1, nI_mul]; exact nI_lt hi (by omega)) q)
      exact inner i hi ih hall 0 (by omega) z _ v w hz rfl (fun j' hj' => absurd hj' (by omega))
  intro z hz
  exact outer 0 (by omega) z u v w hz (fun i' hi' => absurd hi' (by omega))
/-- the reference, to the pairs -/
theorem c5_marks {Q : Option Value → sr_H → Prop} (hD : sp_HD T g o kd lf th) (hM : sp_MH F T g o kd lf th) (hMT : sp_MT F g tn) (hTd : sp_TD T g tn) (hL : ∀ e, L e = sp_al T kd lf tn e) (hSL : ∀ e, S e = sp_things th (L e) o) (hbad : ∀ F2 i j, (∀ r, r ≠ 50 → F2 r = F r) → i < 2 * g → j < i → L i ≠ L j → S i = S j → Q (some (.int (sr_k (-9)))) (hp Ls nz F2 FJ kp)) (hok : ∀ F2, (∀ r, r ≠ 50 → F2 r = F r) → (∀ i, i < 2 * g → ∀ j, j < i → L i = L j ∨ S i ≠ S j) → ∀ k, sp_ch (sp_told S (2 * g)) (2 ^ o) k → Q (some (.int (nI (sp_pop k)))) (hp Ls nz (sr_u F2 30 2 (nI k)) FJ kp)) : sr_Call mX5_marks (d + 4) [.ref 30] (hp Ls nz F FJ kp) Q := by
  have hg := hD.1
  have mt : ∀ F2, (∀ r, r ≠ 50 → F2 r = F r) → sp_MT F2 g tn := fun F2 fr => by unfold sp_MT at hMT ⊢; rw [fr 39 (by omega)]; exact hMT
  have mh : ∀ F2, (∀ r, r ≠ 50 → F2 r = F r) → sp_MH F2 T g o kd lf th := fun F2 fr => sp_MH_fr (fun r h1 h2 => fr r (by omega)) (fun q h1 h2 => by rw [fr 30 (by omega)]) hM
  have l1 : ∀ i, i ≤ g → ∀ (z : Int32) F2 u v w, z = nI i → (∀ r, r ≠ 50 → F2 r = F r) → (∀ e, e < 2 * i → F2 50 e = nI (S e)) → sr_Go mX5_marks (d + 4) 2 [some (.ref 30), some (.int z), u, v, w] [] (0, 0) (hp Ls nz F2 FJ kp) Q := by
    refine sp_for (fun z F2 u v w hz fr hs => ?_) (fun i hi ih z F2 u v w hz fr hs => ?_)
    · have hM2 := mh F2 fr
      refine eX5_marks [2, 48] ?_
      refine sr_ite (c := z < F2 30 10) (fun q => absurd q (by rw [hz, hM2.2.1]; exact nI_nlt (Nat.le_refl _) (by omega))) (fun _ => ?_)
      exact c5_marks48 hD hM2 (mt F2 fr) hTd hL hSL hs (fun i j => hbad F2 i j fr) (hok F2 fr) _ rfl
    · have hM2 := mh F2 fr
      refine eX5_marks [2, 48] ?_
      refine sr_ite (c := z < F2 30 10) (fun _ => ?_) (fun q => absurd (by rw [hz, hM2.2.1]; exact nI_lt hi (by omega)) q)
      refine c5_roomOf0 (i := i) hD hM2 hz hi rfl ?_
      refine ⟨2 * i, ⟨show nI 2 * z = _ by rw [hz, nI_mul], show 2 * i < 10 by omega⟩, ?_⟩
      have fr3 : ∀ r, r ≠ 50 → sr_u F2 50 (2 * i) (nI (sp_things th (lf i) o)) r = F r := fun r hr => by rw [sr_u_row _ _ hr]; exact fr r hr
      refine c5_roomOf1 (FI := sr_u F2 50 (2 * i) (nI (sp_things th (lf i) o))) (i := i) hD (mh _ fr3) (mt _ fr3) hTd hz hi rfl ?_
      refine ⟨2 * i + 1, ⟨show nI 2 * z + nI 1 = _ by rw [hz, nI_mul, nI_add], show 2 * i + 1 < 10 by omega⟩, ?_⟩
      refine ih _ (sr_u (sr_u F2 50 (2 * i) (nI (sp_things th (lf i) o))) 50 (2 * i + 1) (nI (sp_things th (sp_sec T kd lf tn i) o))) _ _ _ (by rw [hz]; exact nI_1 i) (fun r hr => ?_) (fun e he => ?_)
      · rw [sr_u_row _ _ hr]; exact fr3 r hr
      · by_cases c1 : e = 2 * i + 1
        · rw [c1, sr_u_same, hSL, hL]; unfold sp_al
          rw [if_neg (by omega), show (2 * i + 1) / 2 = i by omega]
        · rw [sr_u_ne _ _ c1]
          by_cases c2 : e = 2 * i
          · rw [c2, sr_u_same, hSL, hL]; unfold sp_al
            rw [if_pos (by omega), show 2 * i / 2 = i by omega]
          · rw [sr_u_ne _ _ c2]; exact hs e (by omega)
  refine eX5_marks [2] ?_
  exact l1 0 (by omega) _ F _ _ _ rfl (fun r _ => rfl) (fun e he => absurd he (by omega))
theorem q_marks (hI : sp_Inv xs nz FI FJ kp) : sp_two (sp_I Ls xs) mX4_marks mX5_marks (d + 4) [] (hp Ls nz FI FJ kp) := by
  obtain ⟨hS, hO, hA, hB, hC, T, g, o, kd, lf, th, tn, D, vs, ac, gs, hD, hX, hM, hTd, hXT, hMT, hLG, hXL, hML, hRK⟩ := id hI
  have hg := hD.1
  have ho := hD.2.1
  have hT6 := hD.2.2.1
  have h64 := sp_pow_le hT6
  obtain ⟨L, hL⟩ : ∃ L : Nat → Nat, ∀ e, L e = sp_al T kd lf tn e := ⟨_, fun _ => rfl⟩
  obtain ⟨S, hSL⟩ : ∃ S : Nat → Nat, ∀ e, S e = sp_things th (L e) o := ⟨_, fun _ => rfl⟩
  have hSo : ∀ t, S t < 2 ^ o := fun t => by rw [hSL]; exact sp_things_lt _ _ _
  have hS8 : ∀ t, S t < 256 := fun t => Nat.lt_of_lt_of_le (hSo t) (nb_p8 ho)
  have hL2 : ∀ e, e < 2 * g → L e < 2 ^ T := fun e he => by rw [hL]; exact sp_al_lt hD hTd he
  -- behind the lives
  have tail : ∀ F, (∀ r, r ≠ 27 → F r = FI r) → (∀ e, e < 2 * g → F 27 e = nI (L e)) → ∀ w, sr_Go mX4_marks (d + 4) 58 [some (.ref 0), some (.int (nI 1)), w] [] (0, 0) (hp Ls nz (sr_u F 0 8 (nI 0)) FJ kp) (fun v h1 => sp_mc h1 (sr_Call mX5_marks (d + 4) [.ref 30] h1 (fun v2 h2 => v2 = v ∧ sp_I Ls xs h2))) := by
    intro F fF h27
    have fX : ∀ F2 i j, sp_dl F F2 S (fun a b => L a ≠ L b) i j → sp_XH F2 T g o kd lf th := fun F2 i j hd => sp_XH_fr (fun r h1 h2 => by rw [hd.1 r (by omega) (by omega)]; exact fF r (by omega)) hX
    have fM : ∀ F2 i j, sp_dl F F2 S (fun a b => L a ≠ L b) i j → sp_MH F2 T g o kd lf th := fun F2 i j hd => sp_MH_fr (fun r h1 h2 => by rw [hd.1 r (by omega) (by omega)]; exact fF r (by omega)) (fun q h1 h2 => by rw [hd.1 30 (by omega) (by omega), fF 30 (by omega)]) hM
    have fT : ∀ F2 i j, sp_dl F F2 S (fun a b => L a ≠ L b) i j → sp_MT F2 g tn := fun F2 i j hd => by unfold sp_MT at hMT ⊢; rw [hd.1 39 (by omega) (by omega), fF 39 (by omega)]; exact hMT
    have f27 : ∀ F2 i j, sp_dl F F2 S (fun a b => L a ≠ L b) i j → ∀ e, e < 2 * g → F2 27 e = nI (L e) := fun F2 i j hd e he => by rw [hd.1 27 (by omega) (by omega)]; exact h27 e he
    have endd : ∀ F2 i, 1 ≤ i → 2 * g ≤ i → i ≤ 2 * g + 1 → i ≤ 10 → sp_dl F F2 S (fun a b => L a ≠ L b) i 0 → (i = 2 * g ∨ g = 0) → ∀ (w : Int32) v, sr_Go mX4_marks (d + 4) 136 [some (.ref 0), some (.int w), v] [] (0, 0) (hp Ls nz F2 FJ kp) (fun v h1 => sp_mc h1 (sr_Call mX5_marks (d + 4) [.ref 30] h1 (fun v2 h2 => v2 = v ∧ sp_I Ls xs h2))) := by
      intro F2 i hi1 hi2 hi3 hi4 hd hi5 w v
      have hX2 := fX F2 i 0 hd
      obtain ⟨h1, h2, c, hc, h3, h4⟩ := id hd
      have tri : sp_tri i ≤ 45 := by
        have : ∀ i, i < 11 → sp_tri i ≤ 45 := by decide
        exact this i (by omega)
      have Wiff : ∀ k, sp_df S (fun a b => L a ≠ L b) i 0 k ↔ ∀ a, a < 2 * g → ∀ b, b < a → L a ≠ L b → (S a &&& k) ≠ (S b &&& k) := fun k => ⟨fun q a ha b hb => q a b hb (Or.inl (by omega)), fun q a b hb h9 => q a (by omega) b hb⟩
      refine eX4_marks [136] ?_
      refine c4_fewest (W := sp_df S (fun a b => L a ≠ L b) i 0) ho hX2.2.2.1 h3 (by omega) (fun k hk => h4 k (Nat.lt_of_lt_of_le hk (nb_p8 ho))) (fun no => ?_) (fun k hk => ?_)
      · refine c5_marks hD (fM F2 i 0 hd) (fT F2 i 0 hd) hTd hL hSL (fun F3 a b fr _ _ _ _ => ?_) (fun F3 fr hall k hk => ?_)
        · refine ⟨rfl, .of (sp_Inv_few hI (fun r a1 a2 a3 a4 => ?_) (fun q a1 a2 => ?_) (fun q a1 a2 => ?_) ?_)⟩
          · rw [fr r a4, h1 r a1 (by omega), fF r (by omega)]
          · rw [fr 0 (by omega), h2 q a1, fF 0 (by omega)]
          · rw [fr 30 (by omega), h1 30 (by omega) (by omega), fF 30 (by omega)]
          · rw [fr 0 (by omega), h2 11 (by omega), fF 0 (by omega), fr 30 (by omega), h1 30 (by omega) (by omega), fF 30 (by omega)]; exact hA.1
        · refine absurd ((Wiff _).mpr (fun a ha b hb hab => ?_)) (no (2 ^ o - 1) (Nat.sub_lt (Nat.two_pow_pos o) (by decide)))
          rw [Nat.and_two_pow_sub_one_eq_mod, Nat.and_two_pow_sub_one_eq_mod, Nat.mod_eq_of_lt (hSo a), Nat.mod_eq_of_lt (hSo b)]
          rcases hall a ha b hb with q | q
          · exact absurd q hab
          · exact q
      · have hk256 := Nat.lt_of_lt_of_le hk.1 (nb_p8 ho)
        refine sr_ite (c := nI k = sr_k (-9)) (fun q => absurd q (sp_oI_ne (by omega))) (fun _ => ?_)
        refine c6_bitCount (l := k) rfl hk256 ?_
        refine c4_tell ?_
        have fr9 : ∀ r, r ≠ 0 → sr_u F2 0 11 (nI k) r = F2 r := fun r hr => sr_u_row _ _ hr
        have hW := (Wiff k).mp hk.2.1
        refine c5_marks (F := sr_u F2 0 11 (nI k)) hD (fM F2 i 0 hd) (fT F2 i 0 hd) hTd hL hSL (fun F3 a b fr h5 h6 h7 h8 => ?_) (fun F3 fr hall k2 hk2 => ?_)
        · exact absurd (by rw [h8]) (hW a h5 b h6 h7)
        · have same : ∀ q, q < 2 ^ o → (sp_told S (2 * g) q ↔ sp_df S (fun a b => L a ≠ L b) i 0 q) := fun q _ => by
            rw [Wiff]
            constructor
            · intro t a ha b hb hab
              rcases t a ha b hb with q1 | q1
              · rcases hall a ha b hb with q2 | q2
                · exact absurd q2 hab
                · exact absurd q1 q2
              · exact q1
            · intro t a ha b hb
              by_cases e : L a = L b
              · refine Or.inl ?_
                rw [hSL, hSL, e]
              · exact Or.inr (t a ha b hb e)
          have ek := sp_ch_inj (sp_ch_iff same hk2) hk
          subst ek
          refine ⟨rfl, .of (sp_Inv_few hI (fun r a1 a2 a3 a4 => ?_) (fun q a1 a2 => ?_) (fun q a1 a2 => ?_) ?_)⟩
          · rw [sr_u_row _ _ a3, fr r a4, sr_u_row _ _ a1, h1 r a1 (by omega), fF r (by omega)]
          · rw [sr_u_row _ _ (by omega), fr 0 (by omega), sr_u_ne _ _ a2, h2 q a1, fF 0 (by omega)]
          · rw [sr_u_ne _ _ a1, fr 30 (by omega), sr_u_row _ _ (by omega), h1 30 (by omega) (by omega), fF 30 (by omega)]
          · rw [sr_u_row _ _ (by omega), fr 0 (by omega), sr_u_same, sr_u_same]
    have inner : ∀ i, i < 2 * g → (∀ (z : Int32) F2 v, z = nI (i + 1) → sp_dl F F2 S (fun a b => L a ≠ L b) (i + 1) 0 → sr_Go mX4_marks (d + 4) 58 [some (.ref 0), some (.int z), v] [] (0, 0) (hp Ls nz F2 FJ kp) (fun v h1 => sp_mc h1 (sr_Call mX5_marks (d + 4) [.ref 30] h1 (fun v2 h2 => v2 = v ∧ sp_I Ls xs h2)))) → ∀ j, j ≤ i → ∀ (z y : Int32) F2, z = nI i → y = nI j → sp_dl F F2 S (fun a b => L a ≠ L b) i j → sr_Go mX4_marks (d + 4) 73 [some (.ref 0), some (.int z), some (.int y)] [] (0, 0) (hp Ls nz F2 FJ kp) (fun v h1 => sp_mc h1 (sr_Call mX5_marks (d + 4) [.ref 30] h1 (fun v2 h2 => v2 = v ∧ sp_I Ls xs h2))) := by
      intro i hi out
      refine sp_for (fun z y F2 hz hy hd => ?_) (fun j hj ih z y F2 hz hy hd => ?_)
      · refine eX4_marks [58, 73] ?_
        refine sr_ite (c := y < z) (fun q => absurd q (by rw [hz, hy]; exact nI_nlt (Nat.le_refl _) (by omega))) (fun _ => ?_)
        exact out _ F2 _ (by rw [hz]; exact nI_1 i) (sp_dl_next hd)
      · have hX2 := fX F2 i j hd
        have b1 := hL2 i hi
        have b2 := hL2 j (by omega)
        have e1 := f27 F2 i j hd i hi
        have e2 := f27 F2 i j hd j (by omega)
        refine eX4_marks [58, 73] ?_
        refine sr_ite (c := y < z) (fun _ => ?_) (fun q => absurd (by rw [hz, hy]; exact nI_lt hj (by omega)) q)
        refine ⟨i, ⟨hz, show i < 10 by omega⟩, ⟨j, ⟨hy, show j < 10 by omega⟩, ?_⟩⟩
        refine sr_ite (c := F2 27 i = F2 27 j) (fun q => ?_) (fun q => ?_)
        · rw [e1, e2] at q
          have q := nI_inj (by omega) (by omega) q
          exact ih _ _ F2 hz (by rw [hy]; exact nI_1 j) (sp_dl_skip hd (fun w => w q))
        · refine ⟨i, ⟨hz, show i < 10 by omega⟩, ?_⟩
          refine c0_thingsOfLife (l := L i) hD hX2 e1 b1 ?_
          refine ⟨j, ⟨hy, show j < 10 by omega⟩, ?_⟩
          refine c0_thingsOfLife (l := L j) hD hX2 e2 b2 ?_
          refine c4_addDifference hd (by omega) hj (fun w => q (by rw [e1, e2, w])) (by rw [hSL, hSL]; exact nI_xor _ _) (hS8 i) (hS8 j) (fun F3 hd3 => ?_)
          exact ih _ _ F3 hz (by rw [hy]; exact nI_1 j) hd3
    by_cases hg0 : g = 0
    · intro w
      have hd0 := sp_dl_0 (F := F) (S := S) (R := fun a b => L a ≠ L b)
      have hX2 := fX _ 1 0 hd0
      refine eX4_marks [58, 73, 136] ?_
      refine sr_ite (c := nI 1 < nI 2 * F 8 1) (fun q => absurd q (by rw [show F 8 1 = nI g from hX2.2.1, hg0]; decide)) (fun _ => ?_)
      exact endd _ 1 (by omega) (by omega) (by omega) (by omega) hd0 (Or.inr hg0) _ _
    · have outer : ∀ i, i ≤ 2 * g → 1 ≤ i → ∀ (z : Int32) F2 v, z = nI i → sp_dl F F2 S (fun a b => L a ≠ L b) i 0 → sr_Go mX4_marks (d + 4) 58 [some (.ref 0), some (.int z), v] [] (0, 0) (hp Ls nz F2 FJ kp) (fun v h1 => sp_mc h1 (sr_Call mX5_marks (d + 4) [.ref 30] h1 (fun v2 h2 => v2 = v ∧ sp_I Ls xs h2))) := by
        refine sp_for (fun _ z F2 v hz hd => ?_) (fun i hi ih h1 z F2 v hz hd => ?_)
        · have hX2 := fX F2 _ 0 hd
          refine eX4_marks [58, 73, 136] ?_
          refine sr_ite (c := z < nI 2 * F2 8 1) (fun q => absurd q (by rw [hz, hX2.2.1, nI_mul]; exact nI_nlt (Nat.le_refl _) (by omega))) (fun _ => ?_)
          exact endd F2 (2 * g) (by omega) (by omega) (by omega) (by omega) hd (Or.inl rfl) _ _
        · have hX2 := fX F2 _ 0 hd
          refine eX4_marks [58, 73, 136] ?_
          refine sr_ite (c := z < nI 2 * F2 8 1) (fun _ => ?_) (fun q => absurd (by rw [hz, hX2.2.1, nI_mul]; exact nI_lt hi (by omega)) q)
          exact inner i hi (ih (by omega)) 0 (by omega) z _ F2 hz rfl hd
      intro w
      exact outer 1 (by omega) (by omega) _ _ _ rfl sp_dl_0
  have l1 : ∀ i, i ≤ g → ∀ (z : Int32) F2 v, z = nI i → (∀ r, r ≠ 27 → F2 r = FI r) → (∀ e, e < 2 * i → F2 27 e = nI (L e)) → sr_Go mX4_marks (d + 4) 2 [some (.ref 0), some (.int z), v] [] (0, 0) (hp Ls nz F2 FJ kp) (fun v h1 => sp_mc h1 (sr_Call mX5_marks (d + 4) [.ref 30] h1 (fun v2 h2 => v2 = v ∧ sp_I Ls xs h2))) := by
    refine sp_for (fun z F2 v hz fr hs => ?_) (fun i hi ih z F2 v hz fr hs => ?_)
    · have hX2 : sp_XH F2 T g o kd lf th := sp_XH_fr (fun r h1 h2 => fr r (by omega)) hX
      refine eX4_marks [2, 58] ?_
      refine sr_ite (c := z < F2 8 1) (fun q => absurd q (by rw [hz, hX2.2.1]; exact nI_nlt (Nat.le_refl _) (by omega))) (fun _ => ?_)
      exact tail F2 fr hs _
    · have hX2 : sp_XH F2 T g o kd lf th := sp_XH_fr (fun r h1 h2 => fr r (by omega)) hX
      refine eX4_marks [2, 58] ?_
      refine sr_ite (c := z < F2 8 1) (fun _ => ?_) (fun q => absurd (by rw [hz, hX2.2.1]; exact nI_lt hi (by omega)) q)
      refine ⟨i, ⟨hz, show i < 5 by omega⟩, ⟨2 * i, ⟨show nI 2 * z = _ by rw [hz, nI_mul], show 2 * i < 10 by omega⟩, ?_⟩⟩
      have fr3 : ∀ r, r ≠ 27 → sr_u F2 27 (2 * i) (F2 10 i) r = FI r := fun r hr => by rw [sr_u_row _ _ hr]; exact fr r hr
      refine c4_secondLife (FI := sr_u F2 27 (2 * i) (F2 10 i)) (tn := tn) (i := i) hD (sp_XH_fr (fun r h1 h2 => fr3 r (by omega)) hX) (by unfold sp_XT at hXT ⊢; rw [fr3 21 (by omega)]; exact hXT) hTd hz hi ?_
      refine ⟨2 * i + 1, ⟨show nI 2 * z + nI 1 = _ by rw [hz, nI_mul, nI_add], show 2 * i + 1 < 10 by omega⟩, ?_⟩
      refine ih _ (sr_u (sr_u F2 27 (2 * i) (F2 10 i)) 27 (2 * i + 1) (nI (sp_sec T kd lf tn i))) _ (by rw [hz]; exact nI_1 i) (fun r hr => ?_) (fun e he => ?_)
      · rw [sr_u_row _ _ hr]; exact fr3 r hr
      · by_cases c1 : e = 2 * i + 1
        · rw [c1, sr_u_same, hL]; unfold sp_al
          rw [if_neg (by omega), show (2 * i + 1) / 2 = i by omega]
        · rw [sr_u_ne _ _ c1]
          by_cases c2 : e = 2 * i
          · rw [c2, sr_u_same, hL]; unfold sp_al
            rw [if_pos (by omega), show 2 * i / 2 = i by omega]
            exact (hX2.2.2.2.1 i hi).2
          · rw [sr_u_ne _ _ c2]; exact hs e (by omega)
  refine eX4_marks [2] ?_
  exact l1 0 (by omega) _ FI _ rfl (fun r _ => rfl) (fun e he => absurd he (by omega))
end MK
