/-! pairs of calls: looks -/
section LK
variable {Ls nz d T g o D n c i j k : Nat} {S L : Nat → Nat} {R : Nat → Nat → Prop} {W : Nat → Prop} {kd lf th tn : Nat → Nat} {xs : Nat → Int32} {FI F F' : Nat → Nat → Int32} {FJ : Nat → Nat → Int64} {kp : Nat → Option Nat} {P : Option Value → sr_H → Prop} {h9 : sr_H}
theorem sp_dl_XH (h : sp_dl F F' S R i j) (hX : sp_XH F T g o kd lf th) : sp_XH F' T g o kd lf th := sp_XH_fr (fun r h1 h2 => h.1 r (by omega) (by omega)) hX
theorem sp_df_told : sp_df S (fun a b => S a ≠ S b) n 0 k ↔ sp_told S n k := by
  constructor
  · intro h i hi j hj
    by_cases e : S i = S j
    · exact Or.inl e
    · exact Or.inr (h i j hj (Or.inl hi) e)
  · intro h i j h1 h2 h3
    rcases h i (by omega) j h1 with q | q
    · exact absurd q h3
    · exact q
theorem q_looks {a : Int32} (hI : sp_Inv xs nz FI FJ kp) : sp_two (sp_I Ls xs) mX4_looks mX5_looks (d + 4) [.int a] (hp Ls nz FI FJ kp) := by
  obtain ⟨hS, hO, hA, hB, hC, T, g, o, kd, lf, th, tn, D, vs, ac, gs, hD, hX, hM, hTd, hXT, hMT, hLG, hXL, hML, hRK⟩ := id hI
  have ho := hD.2.1
  have hT6 := hD.2.2.1
  refine eX4_looks [17] ?_
  refine c4_isGuest' hD hX (fun i hi e z hz => ?_) (fun c z hz => ?_)
  · refine sr_n1 hz ?_
    subst e
    obtain ⟨S, hSd⟩ : ∃ S : Nat → Nat, S = fun t => sp_things th (sp_second (kd i) (lf i) T t) o := ⟨_, rfl⟩
    have hSv : ∀ t, S t = sp_things th (sp_second (kd i) (lf i) T t) o := fun t => by rw [hSd]
    have hSo : ∀ t, S t < 2 ^ o := fun t => by rw [hSv]; exact sp_things_lt _ _ _
    have hS8 : ∀ t, S t < 256 := fun t => Nat.lt_of_lt_of_le (hSo t) (nb_p8 ho)
    have hsl : ∀ t, t < T → sp_second (kd i) (lf i) T t < 2 ^ T := fun t ht => sp_second_lt (hD.2.2.2.2.1 i hi).1 (by omega) ht (hD.2.2.2.2.1 i hi).2
    -- the reference, from the heap that the class leaves
    have mref : ∀ F c k, sp_dl FI F S (fun a b => S a ≠ S b) T c → sp_ch (sp_told S T) (2 ^ o) k → sr_Call mX5_looks (d + 4) [.ref 30, .int (nI i)] (hp Ls nz (sr_u F 0 11 (nI k)) FJ kp) (fun v2 h2 => v2 = some (.int (nI (sp_pop k))) ∧ sp_I Ls xs h2) := by
      intro F c k hd hk
      have f1 := hd.1
      have f2 := hd.2.1
      have hMb : ∀ F2, (∀ r, r ≠ 50 → F2 r = sr_u F 0 11 (nI k) r) → sp_MH F2 T g o kd lf th := fun F2 fr => sp_MH_fr (fun r h1 h2 => by rw [fr r (by omega), sr_u_row _ _ (by omega)]; exact f1 r (by omega) (by omega)) (fun q h1 h2 => by rw [fr 30 (by omega), sr_u_row _ _ (by omega), f1 30 (by omega) (by omega)]) hM
      have l1 : ∀ t, t ≤ T → ∀ (z : Int32) F2, z = nI t → (∀ r, r ≠ 50 → F2 r = sr_u F 0 11 (nI k) r) → (∀ e, e < t → F2 50 e = nI (S e)) → sr_Go mX5_looks (d + 4) 12 [some (.ref 30), some (.int (nI i)), some (.int z)] [] (0, 0) (hp Ls nz F2 FJ kp) (fun v2 h2 => v2 = some (.int (nI (sp_pop k))) ∧ sp_I Ls xs h2) := by
        refine sp_for (fun z F2 hz fr hs => ?_) (fun t ht ih z F2 hz fr hs => ?_)
        · have hM2 := hMb F2 fr
          refine eX5_looks [12] ?_
          refine sr_ite (c := z < F2 30 11) (fun q => absurd q (by rw [hz, hM2.1]; exact nI_nlt (Nat.le_refl _) (by omega))) (fun _ => ?_)
          refine c5_fewestBy (n := T) (S := S) ho hM2.2.2.1 hs (fun t _ => hS8 t) (by omega) hM2.1 (sp_full (fun t _ => hSo t)) (fun k' hk' => ?_)
          have ek := sp_ch_inj hk' hk
          subst ek
          have h256 := nb_p8 ho
          have hk1 := hk.1
          refine c5_bits (l := k') rfl (by omega) ?_
          refine c5_tells ?_
          refine ⟨rfl, .of (sp_Inv_few hI (fun r a1 a2 a3 a4 => ?_) (fun q a1 a2 => ?_) (fun q a1 a2 => ?_) ?_)⟩
          · rw [sr_u_row _ _ a3, fr r a4, sr_u_row _ _ a1]; exact f1 r a1 (by omega)
          · rw [sr_u_row _ _ (by omega), fr 0 (by omega), sr_u_ne _ _ a2]; exact f2 q a1
          · rw [sr_u_ne _ _ a1, fr 30 (by omega), sr_u_row _ _ (by omega), f1 30 (by omega) (by omega)]
          · rw [sr_u_row _ _ (by omega), fr 0 (by omega), sr_u_same, sr_u_same]
        · have hM2 := hMb F2 fr
          refine eX5_looks [12] ?_
          refine sr_ite (c := z < F2 30 11) (fun _ => ?_) (fun q => absurd (by rw [hz, hM2.1]; exact nI_lt ht (by omega)) q)
          refine c5_secondBy (i := i) (t := t) hD hM2 rfl hi hz ht ?_
          refine c5_thingsOf hD hM2 rfl (hsl t ht) ?_
          refine ⟨t, ⟨hz, show t < 10 by omega⟩, ?_⟩
          refine ih _ (sr_u F2 50 t (nI (sp_things th (sp_second (kd i) (lf i) T t) o))) (by rw [hz]; exact nI_1 t) (fun r hr => ?_) (fun e he => ?_)
          · rw [sr_u_row _ _ hr]; exact fr r hr
          · by_cases c1 : e = t
            · rw [c1, sr_u_same, hSv]
            · rw [sr_u_ne _ _ c1]; exact hs e (by omega)
      refine eX5_looks [12] ?_
      refine c5_isGuest' hD (hMb _ (fun r _ => rfl)) (fun i2 hi2 e2 z hz => ?_) (fun c3 => absurd rfl (c3 i hi))
      refine sr_n1 hz ?_
      exact l1 0 (by omega) _ _ rfl (fun r _ => rfl) (fun e he => absurd he (by omega))
    -- the class
    have inner : ∀ t, t < T → (∀ (z : Int32) F2 u v, z = nI (t + 1) → sp_dl FI F2 S (fun a b => S a ≠ S b) (t + 1) 0 → sr_Go mX4_looks (d + 4) 17 [some (.ref 0), some (.int (nI i)), some (.int z), u, v] [] (0, 0) (hp Ls nz F2 FJ kp) (fun v h1 => sp_mc h1 (sr_Call mX5_looks (d + 4) [.ref 30, .int (nI i)] h1 (fun v2 h2 => v2 = v ∧ sp_I Ls xs h2)))) → ∀ s, s ≤ t → ∀ (z y : Int32) F2 v, z = nI t → y = nI s → sp_dl FI F2 S (fun a b => S a ≠ S b) t s → sr_Go mX4_looks (d + 4) 30 [some (.ref 0), some (.int (nI i)), some (.int z), some (.int y), v] [] (0, 0) (hp Ls nz F2 FJ kp) (fun v h1 => sp_mc h1 (sr_Call mX5_looks (d + 4) [.ref 30, .int (nI i)] h1 (fun v2 h2 => v2 = v ∧ sp_I Ls xs h2))) := by
      intro t ht out
      refine sp_for (fun z y F2 v hz hy hd => ?_) (fun s hs ih z y F2 v hz hy hd => ?_)
      · refine eX4_looks [17, 30] ?_
        refine sr_ite (c := y < z) (fun q => absurd q (by rw [hz, hy]; exact nI_nlt (Nat.le_refl _) (by omega))) (fun _ => ?_)
        exact out _ F2 _ _ (by rw [hz]; exact nI_1 t) (sp_dl_next hd)
      · have hX2 := sp_dl_XH hd hX
        refine eX4_looks [17, 30] ?_
        refine sr_ite (c := y < z) (fun _ => ?_) (fun q => absurd (by rw [hz, hy]; exact nI_lt hs (by omega)) q)
        refine c4_thingsByTurn (i := i) (t := t) hD hX2 rfl hi hz ht ?_
        refine c4_thingsByTurn (i := i) (t := s) hD hX2 rfl hi hy (by omega) ?_
        rw [← hSv, ← hSv]
        refine sr_ite (c := nI (S t) ^^^ nI (S s) = 0) (fun q => ?_) (fun q => ?_)
        · refine ih _ _ F2 _ hz (by rw [hy]; exact nI_1 s) (sp_dl_skip hd (fun w => w ?_))
          rw [nI_xor] at q
          have q := nI_inj (Nat.lt_of_lt_of_le (Nat.xor_lt_two_pow (n := 8) (hS8 t) (hS8 s)) (by decide)) (by decide) (q.trans nI_0.symm)
          have := (nb_xa (S t) (S s) 255).mp (by rw [q]; rfl)
          rw [Nat.and_two_pow_sub_one_eq_mod (S t) 8, Nat.and_two_pow_sub_one_eq_mod (S s) 8, Nat.mod_eq_of_lt (hS8 t), Nat.mod_eq_of_lt (hS8 s)] at this
          exact this
        · refine c4_addDifference hd (by omega) hs (fun w => q ?_) (nI_xor _ _) (hS8 t) (hS8 s) (fun F3 hd3 => ?_)
          · rw [w, nI_xor, Nat.xor_self]; exact nI_0
          · exact ih _ _ F3 _ hz (by rw [hy]; exact nI_1 s) hd3
    have outer : ∀ t, t ≤ T → 1 ≤ t → ∀ (z : Int32) F2 u v, z = nI t → sp_dl FI F2 S (fun a b => S a ≠ S b) t 0 → sr_Go mX4_looks (d + 4) 17 [some (.ref 0), some (.int (nI i)), some (.int z), u, v] [] (0, 0) (hp Ls nz F2 FJ kp) (fun v h1 => sp_mc h1 (sr_Call mX5_looks (d + 4) [.ref 30, .int (nI i)] h1 (fun v2 h2 => v2 = v ∧ sp_I Ls xs h2))) := by
      refine sp_for (fun _ z F2 u v hz hd => ?_) (fun t ht ih h1 z F2 u v hz hd => ?_)
      · have hX2 := sp_dl_XH hd hX
        refine eX4_looks [17, 30] ?_
        refine sr_ite (c := z < F2 8 0) (fun q => absurd q (by rw [hz, hX2.1]; exact nI_nlt (Nat.le_refl _) (by omega))) (fun _ => ?_)
        obtain ⟨h1, h2, c, hc, h3, h4⟩ := id hd
        have := sp_tri_le T (by omega)
        refine c4_fewest (W := sp_told S T) ho hX2.2.2.1 h3 (by omega) (fun k hk => (h4 k (Nat.lt_of_lt_of_le hk (nb_p8 ho))).trans sp_df_told) (fun no => ?_) (fun k hk => ?_)
        · exact absurd (sp_full (fun t _ => hSo t)) (no _ (Nat.sub_lt (Nat.two_pow_pos o) (by decide)))
        · refine c6_bitCount (l := k) rfl (Nat.lt_of_lt_of_le hk.1 (nb_p8 ho)) ?_
          refine c4_tell ?_
          exact mref F2 0 k hd hk
      · have hX2 := sp_dl_XH hd hX
        refine eX4_looks [17, 30] ?_
        refine sr_ite (c := z < F2 8 0) (fun _ => ?_) (fun q => absurd (by rw [hz, hX2.1]; exact nI_lt ht (by omega)) q)
        exact inner t ht (ih (by omega)) 0 (by omega) z _ F2 v hz rfl hd
    have hT2 := (hD.2.2.2.1 (by omega)).1
    exact outer 1 (by omega) (by omega) _ _ _ _ rfl sp_dl_0
  · refine sr_n0 hz ?_
    refine eX5_looks [12] ?_
    refine c5_isGuest' hD hM (fun i2 hi2 e2 => absurd e2 (c i2 hi2)) (fun c3 z hz => ?_)
    refine sr_n0 hz ?_
    exact ⟨rfl, .of hI⟩
end LK
