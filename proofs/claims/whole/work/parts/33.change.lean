/-! pairs of calls: change, lock, use, undo -/
section CG
variable {Ls nz d T g o D : Nat} {kd lf th tn v : Nat → Nat} {vs : Nat → Nat → Nat} {ac gs : Nat → Nat} {xs : Nat → Int32} {FI : Nat → Nat → Int32} {FJ : Nat → Nat → Int64} {kp : Nat → Option Nat} {P : Option Value → sr_H → Prop} {h9 : sr_H}
theorem sp_Inv_deed2 {F1 F2 : Nat → Nat → Int32} {D' : Nat} {vs' : Nat → Nat → Nat} {ac' gs' : Nat → Nat} (hI : sp_Inv xs nz FI FJ kp) (hD : sp_HD T g o kd lf th) (hX : sp_XH FI T g o kd lf th) (hM : sp_MH FI T g o kd lf th) (hTd : sp_TD T g tn) (hXT : sp_XT FI g tn) (hMT : sp_MT FI g tn) (hRK : sp_RK FI kp nz T g) (fr1 : ∀ r, r ≠ 20 → r ≠ 22 → r ≠ 23 → r ≠ 24 → F1 r = FI r) (hXL' : sp_XL F1 20 D' vs' ac' gs') (fr2 : ∀ r, r ≠ 30 → r ≠ 43 → r ≠ 44 → F2 r = F1 r) (fr3 : ∀ k, k ≠ 24 → F2 30 k = F1 30 k) (hLG' : sp_LG g D' vs' ac' gs') (hML' : sp_ML F2 D' vs') : sp_Inv xs nz F2 FJ kp := by
  refine sp_Inv_deed hI hD hX hM hTd hXT hMT hRK ⟨fun r r1 r2 r3 r4 r5 r6 r7 => ?_, fun k hk => ?_⟩ hLG' ?_ hML'
  · rw [fr2 r r5 r6 r7, fr1 r r1 r2 r3 r4]
  · rw [fr3 k hk, fr1 30 (by decide) (by decide) (by decide) (by decide)]
  · unfold sp_XL at hXL' ⊢
    rw [fr2 20 (by decide) (by decide) (by decide), fr2 (20 + 2) (by decide) (by decide) (by decide), fr2 (20 + 3) (by decide) (by decide) (by decide), fr2 (20 + 4) (by decide) (by decide) (by decide)]
    exact hXL'
theorem sp_frA {F1 : Nat → Nat → Int32} (fr1 : ∀ r, r ≠ 20 → r ≠ 22 → r ≠ 23 → r ≠ 24 → F1 r = FI r) : sp_fr FI F1 := ⟨fun r r1 r2 r3 r4 _ _ _ => fr1 r r1 r2 r3 r4, fun k _ => by rw [fr1 30 (by decide) (by decide) (by decide) (by decide)]⟩
theorem sp_frA_ML {F1 : Nat → Nat → Int32} (fr1 : ∀ r, r ≠ 20 → r ≠ 22 → r ≠ 23 → r ≠ 24 → F1 r = FI r) (h : sp_ML FI D vs) : sp_ML F1 D vs := by
  unfold sp_ML at h ⊢
  rw [fr1 30 (by decide) (by decide) (by decide) (by decide), fr1 43 (by decide) (by decide) (by decide) (by decide), fr1 44 (by decide) (by decide) (by decide) (by decide)]
  exact h
theorem sp_ML_ext {F : Nat → Nat → Int32} {w : Nat → Nat} {p q : Nat} {u : Int32} (h24 : F 30 24 = nI (D + 1)) (hlog : ∀ e, e < D + 1 → ∀ k, k < 12 → F 44 (12 * e + k) = nI (sp_ve vs D w e k)) (hnow : ∀ k, k < 12 → F 43 k = nI (vs D k)) (hw : ∀ k, k < 12 → w k = if k = p then q else vs D k) (hu : u = nI q) : sp_ML (sr_u F 43 p u) (D + 1) (sp_ve vs D w) := by
  refine ⟨h24, fun k hk => ?_, hlog⟩
  rw [sp_ve_s, hw k hk]
  by_cases c : k = p
  · subst c
    rw [sr_u_same, if_pos rfl, hu]
  · rw [sr_u_ne _ _ c, if_neg c]; exact hnow k hk
theorem c5_holds' {x y : Int32} {l k : Nat} (hx : x = nI l) (hl : l < 256) (hy : y = nI k) (hk : k < 9) (h1 : sp_bit l k = 1 → ∀ z, z = 1 → P (some (.int z)) h9) (h0 : sp_bit l k = 0 → ∀ z, z = 0 → P (some (.int z)) h9) : sr_Call mX5_holds d [.int x, .int y] h9 P := c5_holds hx hl hy hk (fun c => h1 c 1 rfl) (fun c => h0 c 0 rfl)
theorem c5_uses {F : Nat → Nat → Int32} {i : Nat} {x : Int32} (hN : ∀ k, k < 12 → F 43 k = nI (v k)) (hv0 : v 0 < 32) (hx : x = nI i) (hi : i < 5) (h : P (some (.int (nI (v (if sp_bit (v 0) i = 1 then 7 + i else 2 + i)) + nI 1))) (hp Ls nz (sr_u F 43 (if sp_bit (v 0) i = 1 then 7 + i else 2 + i) (nI (v (if sp_bit (v 0) i = 1 then 7 + i else 2 + i)) + nI 1)) FJ kp)) : sr_Call mX5_uses (d + 1) [.ref 30, .int x] (hp Ls nz F FJ kp) P := by
  refine eX5_uses [] ?_
  refine ⟨0, ⟨rfl, show 0 < 12 by omega⟩, ?_⟩
  have fin : ∀ j, j < 12 → (P (some (.int (nI (v j) + nI 1))) (hp Ls nz (sr_u F 43 j (nI (v j) + nI 1)) FJ kp)) → P (some (.int (sr_u F 43 j (F 43 j + nI 1) 43 j))) (hp Ls nz (sr_u F 43 j (F 43 j + nI 1)) FJ kp) := by
    intro j hj h
    rw [sr_u_same, hN j hj]; exact h
  refine c5_holds (l := v 0) (hN 0 (by omega)) (by omega) hx (by omega) (fun c => ?_) (fun c => ?_)
  · rw [if_pos c] at h
    have e : nI 7 + x = nI (7 + i) := by rw [hx, nI_add]
    exact ⟨7 + i, ⟨e, show 7 + i < 12 by omega⟩, ⟨7 + i, ⟨e, show 7 + i < 12 by omega⟩, ⟨7 + i, ⟨e, show 7 + i < 12 by omega⟩, fin (7 + i) (by omega) h⟩⟩⟩
  · rw [if_neg (by omega)] at h
    have e : nI 2 + x = nI (2 + i) := by rw [hx, nI_add]
    exact ⟨2 + i, ⟨e, show 2 + i < 12 by omega⟩, ⟨2 + i, ⟨e, show 2 + i < 12 by omega⟩, ⟨2 + i, ⟨e, show 2 + i < 12 by omega⟩, fin (2 + i) (by omega) h⟩⟩⟩
theorem q_change {a : Int32} (hI : sp_Inv xs nz FI FJ kp) : sp_two (sp_I Ls xs) mX4_change mX5_change (d + 4) [.int a] (hp Ls nz FI FJ kp) := by
  obtain ⟨hS, hO, hA, hB, hC, T, g, o, kd, lf, th, tn, D, vs, ac, gs, hD, hX, hM, hTd, hXT, hMT, hLG, hXL, hML, hRK⟩ := id hI
  have hg := hD.1
  have hV := sp_NVof hLG
  have hv0 := hV.1
  have hv1 := hV.2.1
  have hD60 := hLG.1
  refine eX4_change [] ?_
  refine c4_isGuest' hD hX (fun i hi e z hz => ?_) (fun c z hz => ?_)
  · refine sr_n1 hz ?_
    have hb : sp_bit (vs D 1) i < 2 := Nat.mod_lt _ (by decide)
    refine c1_lockedOf (sp_XNof hXL) hV e (by omega) ?_
    refine sr_ite (c := nI (sp_bit (vs D 1) i) = nI 1) (fun c => ?_) (fun c => ?_)
    · have c := nI_inj (by omega) (by omega) c
      refine eX5_change [] ?_
      refine c5_isGuest' hD hM (fun i2 hi2 e2 z hz => ?_) (fun c3 => absurd e (c3 i hi))
      refine sr_n1 hz ?_
      refine ⟨1, ⟨rfl, show 1 < 12 by omega⟩, ?_⟩
      refine c5_holds' (l := vs D 1) (hML.2.1 1 (by omega)) (by omega) e (by omega) (fun c2 z hz => ?_) (fun c2 => by omega)
      refine sr_n1 hz ?_
      exact ⟨rfl, .of hI⟩
    have c0 : sp_bit (vs D 1) i = 0 := by
      have : sp_bit (vs D 1) i ≠ 1 := fun q => c (by rw [q])
      omega
    refine sr_ite (c := FI 20 0 < nI 60) (fun c2 => ?_) (fun c2 => ?_)
    · rw [hXL.1] at c2
      have hD6 := (nI_ltI (by omega) (by omega)).mp c2
      refine c1_act (a := 0) rfl (by omega) e (by omega) hD6 hXL hv0 (fun F1 fr1 hXL1 => ?_)
      have hLG1 := sp_LG_ext hLG hD6 (a := 0) (by omega) hi hg
      have hfr := sp_frA fr1
      have hM1 := sp_fr_MH hfr hM
      have hML1 := sp_frA_ML fr1 hML
      refine c1_roomOf (sp_XNof hXL1) (sp_NVof hLG1) e (by omega) ?_
      refine eX5_change [] ?_
      refine c5_isGuest' hD hM1 (fun i2 hi2 e2 z hz => ?_) (fun c3 => absurd e (c3 i hi))
      refine sr_n1 hz ?_
      refine ⟨1, ⟨rfl, show 1 < 12 by omega⟩, ?_⟩
      refine c5_holds' (l := vs D 1) (hML1.2.1 1 (by omega)) (by omega) e (by omega) (fun c2 => by omega) (fun c2 z hz => ?_)
      refine sr_n0 hz ?_
      refine sr_ite (c := F1 30 24 = nI 60) (fun c4 => ?_) (fun c4 => ?_)
      · rw [hML1.1] at c4
        have := nI_inj (by omega) (by omega) c4
        omega
      refine c5_remember hML1 hD6 (sp_app (vs D) 0 i) (fun F2 fr2 fr3 f24 flog => ?_)
      have now2 : ∀ k, k < 12 → F2 43 k = nI (vs D k) := by
        intro k hk
        rw [fr2 43 (by decide) (by decide)]; exact hML1.2.1 k hk
      refine ⟨0, ⟨rfl, show 0 < 12 by omega⟩, ⟨0, ⟨rfl, show 0 < 12 by omega⟩, ⟨0, ⟨rfl, show 0 < 12 by omega⟩, ?_⟩⟩⟩
      have hu : F2 43 0 ^^^ (nI 1 <<< (a &&& 31)) = nI (vs D 0 ^^^ 2 ^ i) := by rw [e, nb_xpow (now2 0 (by omega)) (by omega)]
      have hML3 := sp_ML_ext (p := 0) f24 flog now2 (fun k hk => rfl) hu
      refine ⟨?_, .of (sp_Inv_deed2 hI hD hX hM hTd hXT hMT hRK fr1 hXL1 (fun r r1 r2 r3 => ?_) (fun k hk => fr3 k hk) hLG1 hML3)⟩
      · show some (Value.int (((F2 43 0 ^^^ (nI 1 <<< (a &&& 31))) >>> (a &&& 31)) &&& nI 1)) = _
        have h5 := (sp_NVof hLG1).1
        rw [sp_ve_s] at h5 ⊢
        rw [hu, e, nb_shr _ (by have : sp_app (vs D) 0 i 0 = vs D 0 ^^^ 2 ^ i := rfl
                                omega) _ (by omega)]
        rfl
      · exact (sp_fr22 (FI := F2) (q := 43) r r2).trans (fr2 r r1 r3)
    · have hD6 : D = 60 := by
        by_cases q : D < 60
        · exact absurd (by rw [hXL.1]; exact nI_lt q (by omega)) c2
        · omega
      refine eX5_change [] ?_
      refine c5_isGuest' hD hM (fun i2 hi2 e2 z hz => ?_) (fun c3 => absurd e (c3 i hi))
      refine sr_n1 hz ?_
      refine ⟨1, ⟨rfl, show 1 < 12 by omega⟩, ?_⟩
      refine c5_holds' (l := vs D 1) (hML.2.1 1 (by omega)) (by omega) e (by omega) (fun c2 => by omega) (fun c2 z hz => ?_)
      refine sr_n0 hz ?_
      refine sr_ite (c := FI 30 24 = nI 60) (fun c4 => ?_) (fun c4 => absurd (by rw [hML.1, hD6]) c4)
      exact ⟨rfl, .of hI⟩
  · refine sr_n0 hz ?_
    refine eX5_change [] ?_
    refine c5_isGuest' hD hM (fun i2 hi2 e2 => absurd e2 (c i2 hi2)) (fun c3 z hz => ?_)
    refine sr_n0 hz ?_
    exact ⟨rfl, .of hI⟩
theorem q_lock {a b : Int32} (hI : sp_Inv xs nz FI FJ kp) : sp_two (sp_I Ls xs) mX4_lock mX5_lock (d + 4) [.int a, .int b] (hp Ls nz FI FJ kp) := by
  obtain ⟨hS, hO, hA, hB, hC, T, g, o, kd, lf, th, tn, D, vs, ac, gs, hD, hX, hM, hTd, hXT, hMT, hLG, hXL, hML, hRK⟩ := id hI
  have hg := hD.1
  have hV := sp_NVof hLG
  have hv0 := hV.1
  have hv1 := hV.2.1
  have hD60 := hLG.1
  have bad : ((∀ i, i < g → a ≠ nI i) ∨ b < 0 ∨ nI 1 < b) → sr_Call mX5_lock (d + 4) [.ref 30, .int a, .int b] (hp Ls nz FI FJ kp) (fun v2 h2 => v2 = some (.int (sr_k (-1))) ∧ sp_I Ls xs h2) := by
    intro hb
    refine eX5_lock [] ?_
    refine c5_isGuest' hD hM (fun i hi e z hz => ?_) (fun c z hz => ?_)
    · refine sr_n1 hz ?_
      refine c5_in' (fun c1 c2 => ?_) (fun c z hz => ?_)
      · rcases hb with hb | hb | hb
        · exact absurd e (hb i hi)
        · exact absurd hb c1
        · exact absurd hb c2
      · refine sr_n0 hz ?_
        exact ⟨rfl, .of hI⟩
    · refine sr_n0 hz ?_
      exact ⟨rfl, .of hI⟩
  refine eX4_lock [] ?_
  refine c4_isGuest' hD hX (fun i hi e z hz => ?_) (fun c z hz => ?_)
  · refine sr_n1 hz ?_
    refine sr_ite (c := b < 0) (fun c => ?_) (fun n1 => ?_)
    · exact bad (Or.inr (Or.inl c))
    refine sr_ite (c := nI 1 < b) (fun c => ?_) (fun n2 => ?_)
    · exact bad (Or.inr (Or.inr c))
    have hb : sp_bit (vs D 1) i < 2 := Nat.mod_lt _ (by decide)
    refine c1_lockedOf (sp_XNof hXL) hV e (by omega) ?_
    refine sr_ite (c := nI (sp_bit (vs D 1) i) = b) (fun c => ?_) (fun c => ?_)
    · refine eX5_lock [] ?_
      refine c5_isGuest' hD hM (fun i2 hi2 e2 z hz => ?_) (fun c3 => absurd e (c3 i hi))
      refine sr_n1 hz ?_
      refine c5_in' (fun _ _ z hz => ?_) (fun c => ?_)
      · refine sr_n1 hz ?_
        refine ⟨1, ⟨rfl, show 1 < 12 by omega⟩, ?_⟩
        refine sr_ite (c := (FI 43 1 >>> (a &&& 31)) &&& nI 1 = b) (fun c2 => ?_) (fun c2 => ?_)
        · exact ⟨rfl, .of hI⟩
        · exfalso
          rw [hML.2.1 1 (by omega), e, nb_shr _ (by omega) _ (by omega)] at c2
          exact c2 c
      · rcases c with c | c
        · exact absurd c n1
        · exact absurd c n2
    refine sr_ite (c := FI 20 0 < nI 60) (fun c2 => ?_) (fun c2 => ?_)
    · rw [hXL.1] at c2
      have hD6 := (nI_ltI (by omega) (by omega)).mp c2
      refine c1_act (a := 1) rfl (by omega) e (by omega) hD6 hXL hv0 (fun F1 fr1 hXL1 => ?_)
      have hLG1 := sp_LG_ext hLG hD6 (a := 1) (by omega) hi hg
      have hfr := sp_frA fr1
      have hM1 := sp_fr_MH hfr hM
      have hML1 := sp_frA_ML fr1 hML
      have h5 := (sp_NVof hLG1).2.1
      refine c6_bitCount hXL1.2.2.1 (by omega) ?_
      refine eX5_lock [] ?_
      refine c5_isGuest' hD hM1 (fun i2 hi2 e2 z hz => ?_) (fun c3 => absurd e (c3 i hi))
      refine sr_n1 hz ?_
      refine c5_in' (fun _ _ z hz => ?_) (fun c => ?_)
      · refine sr_n1 hz ?_
        refine ⟨1, ⟨rfl, show 1 < 12 by omega⟩, ?_⟩
        refine sr_ite (c := (F1 43 1 >>> (a &&& 31)) &&& nI 1 = b) (fun c2 => ?_) (fun _ => ?_)
        · exfalso
          rw [hML1.2.1 1 (by omega), e, nb_shr _ (by omega) _ (by omega)] at c2
          exact c c2
        refine sr_ite (c := F1 30 24 = nI 60) (fun c4 => ?_) (fun c4 => ?_)
        · rw [hML1.1] at c4
          have := nI_inj (by omega) (by omega) c4
          omega
        refine c5_remember hML1 hD6 (sp_app (vs D) 1 i) (fun F2 fr2 fr3 f24 flog => ?_)
        have now2 : ∀ k, k < 12 → F2 43 k = nI (vs D k) := by
          intro k hk
          rw [fr2 43 (by decide) (by decide)]; exact hML1.2.1 k hk
        refine ⟨1, ⟨rfl, show 1 < 12 by omega⟩, ⟨1, ⟨rfl, show 1 < 12 by omega⟩, ⟨1, ⟨rfl, show 1 < 12 by omega⟩, ?_⟩⟩⟩
        have hu : F2 43 1 ^^^ (nI 1 <<< (a &&& 31)) = nI (vs D 1 ^^^ 2 ^ i) := by rw [e, nb_xpow (now2 1 (by omega)) (by omega)]
        have hML3 := sp_ML_ext (p := 1) f24 flog now2 (fun k hk => rfl) hu
        refine c5_bits (l := sp_ve vs D (sp_app (vs D) 1 i) (D + 1) 1) (by rw [sp_ve_s]; exact hu) (by omega) ?_
        refine ⟨rfl, .of (sp_Inv_deed2 hI hD hX hM hTd hXT hMT hRK fr1 hXL1 (fun r r1 r2 r3 => ?_) (fun k hk => fr3 k hk) hLG1 hML3)⟩
        exact (sp_fr22 (FI := F2) (q := 43) r r2).trans (fr2 r r1 r3)
      · rcases c with c | c
        · exact absurd c n1
        · exact absurd c n2
    · have hD6 : D = 60 := by
        by_cases q : D < 60
        · exact absurd (by rw [hXL.1]; exact nI_lt q (by omega)) c2
        · omega
      refine eX5_lock [] ?_
      refine c5_isGuest' hD hM (fun i2 hi2 e2 z hz => ?_) (fun c3 => absurd e (c3 i hi))
      refine sr_n1 hz ?_
      refine c5_in' (fun _ _ z hz => ?_) (fun c => ?_)
      · refine sr_n1 hz ?_
        refine ⟨1, ⟨rfl, show 1 < 12 by omega⟩, ?_⟩
        refine sr_ite (c := (FI 43 1 >>> (a &&& 31)) &&& nI 1 = b) (fun c2 => ?_) (fun _ => ?_)
        · exfalso
          rw [hML.2.1 1 (by omega), e, nb_shr _ (by omega) _ (by omega)] at c2
          exact c c2
        refine sr_ite (c := FI 30 24 = nI 60) (fun c4 => ?_) (fun c4 => absurd (by rw [hML.1, hD6]) c4)
        exact ⟨rfl, .of hI⟩
      · rcases c with c | c
        · exact absurd c n1
        · exact absurd c n2
  · refine sr_n0 hz ?_
    exact bad (Or.inl c)
theorem q_use {a : Int32} (hI : sp_Inv xs nz FI FJ kp) : sp_two (sp_I Ls xs) mX4_use mX5_use (d + 4) [.int a] (hp Ls nz FI FJ kp) := by
  obtain ⟨hS, hO, hA, hB, hC, T, g, o, kd, lf, th, tn, D, vs, ac, gs, hD, hX, hM, hTd, hXT, hMT, hLG, hXL, hML, hRK⟩ := id hI
  have hg := hD.1
  have hV := sp_NVof hLG
  have hv0 := hV.1
  have hD60 := hLG.1
  refine eX4_use [] ?_
  refine c4_isGuest' hD hX (fun i hi e z hz => ?_) (fun c z hz => ?_)
  · refine sr_n1 hz ?_
    refine sr_ite (c := FI 20 0 < nI 60) (fun c2 => ?_) (fun c2 => ?_)
    · rw [hXL.1] at c2
      have hD6 := (nI_ltI (by omega) (by omega)).mp c2
      refine c1_act (a := 2) rfl (by omega) e (by omega) hD6 hXL hv0 (fun F1 fr1 hXL1 => ?_)
      have hLG1 := sp_LG_ext hLG hD6 (a := 2) (by omega) hi hg
      have hfr := sp_frA fr1
      have hM1 := sp_fr_MH hfr hM
      have hML1 := sp_frA_ML fr1 hML
      have hN1 := sp_XNof hXL1
      have hV1 := sp_NVof hLG1
      rw [sp_ve_s] at hN1 hV1
      have hw0 : sp_app (vs D) 2 i 0 = vs D 0 := by rw [sp_app2, if_neg (by split <;> omega)]
      have hwi : sp_app (vs D) 2 i (if sp_bit (vs D 0) i = 1 then 7 + i else 2 + i) = vs D (if sp_bit (vs D 0) i = 1 then 7 + i else 2 + i) + 1 := by rw [sp_app2, if_pos rfl]
      have mp : sr_Call mX5_use (d + 4) [.ref 30, .int a] (hp Ls nz F1 FJ kp) (fun v2 h2 => v2 = some (.int (nI (sp_app (vs D) 2 i (if sp_bit (vs D 0) i = 1 then 7 + i else 2 + i)))) ∧ sp_I Ls xs h2) := by
        refine eX5_use [] ?_
        refine c5_isGuest' hD hM1 (fun i2 hi2 e2 z hz => ?_) (fun c3 => absurd e (c3 i hi))
        refine sr_n1 hz ?_
        refine sr_ite (c := F1 30 24 = nI 60) (fun c4 => ?_) (fun c4 => ?_)
        · rw [hML1.1] at c4
          have := nI_inj (by omega) (by omega) c4
          omega
        refine c5_remember hML1 hD6 (sp_app (vs D) 2 i) (fun F2 fr2 fr3 f24 flog => ?_)
        have now2 : ∀ k, k < 12 → F2 43 k = nI (vs D k) := by
          intro k hk
          rw [fr2 43 (by decide) (by decide)]; exact hML1.2.1 k hk
        refine c5_uses now2 hv0 e (by omega) ?_
        have hML3 := sp_ML_ext (p := if sp_bit (vs D 0) i = 1 then 7 + i else 2 + i) (q := vs D (if sp_bit (vs D 0) i = 1 then 7 + i else 2 + i) + 1) f24 flog now2 (fun k hk => by
          rw [sp_app2]
          by_cases c : k = (if sp_bit (vs D 0) i = 1 then 7 + i else 2 + i)
          · rw [if_pos c, if_pos c, ← c]
          · rw [if_neg c, if_neg c]) (nI_1 _)
        refine ⟨by rw [hwi]; exact congrArg (fun u => some (Value.int u)) (nI_1 _), .of (sp_Inv_deed2 hI hD hX hM hTd hXT hMT hRK fr1 hXL1 (fun r r1 r2 r3 => ?_) (fun k hk => fr3 k hk) hLG1 hML3)⟩
        exact (sp_fr22 (FI := F2) (q := 43) r r2).trans (fr2 r r1 r3)
      refine c1_roomOf hN1 hV1 e (by omega) ?_
      rw [hw0]
      have hb : sp_bit (vs D 0) i < 2 := Nat.mod_lt _ (by decide)
      by_cases c : sp_bit (vs D 0) i = 1
      · rw [c] at mp ⊢
        exact c1_hoursOf1 hN1 e (by omega) rfl mp
      · have c0 : sp_bit (vs D 0) i = 0 := by omega
        rw [c0] at mp ⊢
        exact c1_hoursOf0 hN1 e (by omega) rfl mp
    · have hD6 : D = 60 := by
        by_cases q : D < 60
        · exact absurd (by rw [hXL.1]; exact nI_lt q (by omega)) c2
        · omega
      refine eX5_use [] ?_
      refine c5_isGuest' hD hM (fun i2 hi2 e2 z hz => ?_) (fun c3 => absurd e (c3 i hi))
      refine sr_n1 hz ?_
      refine sr_ite (c := FI 30 24 = nI 60) (fun c4 => ?_) (fun c4 => absurd (by rw [hML.1, hD6]) c4)
      exact ⟨rfl, .of hI⟩
  · refine sr_n0 hz ?_
    refine eX5_use [] ?_
    refine c5_isGuest' hD hM (fun i2 hi2 e2 => absurd e2 (c i2 hi2)) (fun c3 z hz => ?_)
    refine sr_n0 hz ?_
    exact ⟨rfl, .of hI⟩
theorem nb_pred (x : Int32) : x + sr_k (-1) = x - nI 1 := by
  have : sr_k (-1) = - nI 1 := by decide +kernel
  rw [this]
  exact (Int32.sub_eq_add_neg x (nI 1)).symm
theorem nb_predlt {n : Nat} (hn : n < 1000) : nI n - nI 1 < nI n := by
  rcases Nat.eq_zero_or_pos n with q | q
  · subst q; decide +kernel
  · rw [nI_sub q]; exact nI_lt (by omega) (by omega)
theorem c1_takeBack {n : Nat} {y : Int32} (hg : g ≤ 5) (hLG : sp_LG g D vs ac gs) (hXL : sp_XL FI 20 D vs ac gs) (hy : y = nI n) (hn : n ≤ D) (h : ∀ F, (∀ r, r ≠ 20 → r ≠ 22 → r ≠ 23 → r ≠ 24 → F r = FI r) → sp_XL F 20 n vs ac gs → P (some (.int (nI D - nI n))) (hp Ls nz F FJ kp)) : sr_Call mX1_takeBackFrom (d + 2) [.ref 20, .int y] (hp Ls nz FI FJ kp) P := by
  have hD60 := hLG.1
  subst hy
  have loop : ∀ (m c : Nat) (z : Int32) (F : Nat → Nat → Int32), c = n + m → c ≤ D → z = nI c - nI 1 → (∀ r, r ≠ 20 → r ≠ 22 → F r = FI r) → sp_XN F (vs c) → sr_Go mX1_takeBackFrom (d + 2) 14 [some (.ref 20), some (.int (nI n)), some (.int (nI D - nI n)), some (.int z)] [] (0, 0) (hp Ls nz F FJ kp) P := by
    intro m
    induction m with
    | zero =>
      intro c z F hc hcD hz fr hN
      have : c = n := by omega
      subst this
      refine eX1_takeBackFrom [14] ?_
      refine sr_ite (c := z < nI c) (fun _ => ?_) (fun q => absurd (by rw [hz]; exact nb_predlt (by omega)) q)
      refine h _ (fun r r1 r2 r3 r4 => ?_) ⟨rfl, hN.1, hN.2.1, hN.2.2, fun e he => ?_⟩
      · rw [← fr r r1 r2]; exact sp_fr22 r r1
      · have := hXL.2.2.2.2 e (by omega)
        show F 23 e = _ ∧ F 24 e = _
        rw [fr 23 (by decide) (by decide), fr 24 (by decide) (by decide)]
        exact this
    | succ m ih =>
      intro c z F hc hcD hz fr hN
      have hz2 : z = nI (n + m) := by
        rw [hz, hc, nI_sub (by omega)]; rfl
      obtain ⟨ha, hgs, hap⟩ := hLG.2.2 (n + m) (by omega)
      obtain ⟨hv0, hv1, -⟩ := hLG.2.1 (n + m) (by omega)
      obtain ⟨l1, l2⟩ := hXL.2.2.2.2 (n + m) (by omega)
      refine eX1_takeBackFrom [14] ?_
      refine sr_ite (c := z < nI n) (fun q => absurd q (by rw [hz2]; exact nI_nlt (by omega) (by omega))) (fun _ => ?_)
      refine sr_ite (c := z < 0) (fun q => absurd q (by rw [hz2]; exact nI_pos (by omega))) (fun _ => ?_)
      refine ⟨n + m, ⟨hz2, show n + m < 60 by omega⟩, ⟨n + m, ⟨hz2, show n + m < 60 by omega⟩, ?_⟩⟩
      have hc2 : c = n + m + 1 := by omega
      subst hc2
      refine c1_carryM (v := vs (n + m)) hN hap hv0 (show F 23 (n + m) = _ by rw [fr 23 (by decide) (by decide)]; exact l1) ha (show F 24 (n + m) = _ by rw [fr 24 (by decide) (by decide)]; exact l2) (by omega) (fun F' fr' f0 hN' => ?_)
      refine ih (n + m) _ _ rfl (by omega) ?_ (fun r r1 r2 => by rw [fr' r r1 r2, fr r r1 r2]) hN'
      show z + sr_k (-1) = _
      rw [hz2, nb_pred]
  refine eX1_takeBackFrom [14] ?_
  have e1 : FI 20 0 - nI n = nI D - nI n := by rw [hXL.1]
  have e2 : FI 20 0 - nI 1 = nI D - nI 1 := by rw [hXL.1]
  have := loop (D - n) D (FI 20 0 - nI 1) FI (by omega) (Nat.le_refl _) e2 (fun r _ _ => rfl) (sp_XNof hXL)
  rw [← e1] at this
  exact this
theorem q_undo {a : Int32} (hI : sp_Inv xs nz FI FJ kp) : sp_two (sp_I Ls xs) mX4_undo mX5_undo (d + 4) [.int a] (hp Ls nz FI FJ kp) := by
  obtain ⟨hS, hO, hA, hB, hC, T, g, o, kd, lf, th, tn, D, vs, ac, gs, hD, hX, hM, hTd, hXT, hMT, hLG, hXL, hML, hRK⟩ := id hI
  have hg := hD.1
  have hD60 := hLG.1
  have bad : (a < 0 ∨ nI D < a) → sr_Call mX5_undo (d + 4) [.ref 30, .int a] (hp Ls nz FI FJ kp) (fun v2 h2 => v2 = some (.int (sr_k (-1))) ∧ sp_I Ls xs h2) := by
    intro hb
    refine eX5_undo [23] ?_
    refine c5_in' (fun c1 c2 => ?_) (fun c z hz => ?_)
    · have c2 : ¬ FI 30 24 < a := c2
      rw [hML.1] at c2
      rcases hb with hb | hb
      · exact absurd hb c1
      · exact absurd hb c2
    · refine sr_n0 hz ?_
      exact ⟨rfl, .of hI⟩
  refine eX4_undo [] ?_
  refine sr_ite (c := a < 0) (fun c => bad (Or.inl c)) (fun c1 => ?_)
  refine sr_ite (c := FI 20 0 < a) (fun c => bad (Or.inr (by rw [← hXL.1]; exact c))) (fun c2 => ?_)
  rw [hXL.1] at c2
  obtain ⟨n, hn, e⟩ := nI_leN (by omega) c1 c2
  refine c1_takeBack hg hLG hXL e hn (fun F1 fr1 hXL1 => ?_)
  have hLG1 := sp_LG_cut hLG hn
  have hML1 := sp_frA_ML fr1 hML
  refine eX5_undo [23] ?_
  refine c5_in' (fun _ _ z hz => ?_) (fun c => ?_)
  · refine sr_n1 hz ?_
    have ew : F1 30 24 - a = nI D - nI n := by rw [hML1.1, e]
    have fin : ∀ (z w : Int32) (F : Nat → Nat → Int32), w = nI D - nI n → (∀ r, r ≠ 43 → F r = F1 r) → (∀ k, k < 12 → F 43 k = nI (vs n k)) → sr_Go mX5_undo (d + 4) 56 [some (.ref 30), some (.int a), some (.int w), some (.int z)] [] (0, 0) (hp Ls nz F FJ kp) (fun v2 h2 => v2 = some (.int (nI D - nI n)) ∧ sp_I Ls xs h2) := by
      intro z w F hw fr f43
      refine eX5_undo [] ?_
      subst hw
      refine ⟨rfl, .of (sp_Inv_deed2 hI hD hX hM hTd hXT hMT hRK fr1 hXL1 (fun r r1 r2 r3 => ?_) (fun k hk => ?_) hLG1 ⟨e, f43, fun q hq k hk => ?_⟩)⟩
      · rw [sp_fr22 r r1]; exact fr r r2
      · rw [← fr 30 (by decide)]; exact sr_u_ne _ _ hk
      · show F 44 (12 * q + k) = _
        rw [fr 44 (by decide)]
        exact hML1.2.2 q (by omega) k hk
    by_cases hnD : n = D
    · subst hnD
      refine eX5_undo [56] ?_
      have e0 : F1 30 24 - a = 0 := by rw [ew]; exact Int32.sub_self _
      refine sr_ite (c := 0 < F1 30 24 - a) (fun q => ?_) (fun _ => ?_)
      · exfalso; rw [e0] at q; exact absurd q (by decide +kernel)
      exact fin _ _ _ ew (fun r _ => rfl) hML1.2.1
    · have hlt : n < D := by omega
      have hpos : 0 < F1 30 24 - a := by
        rw [ew, nI_sub hn]
        exact nI_lt (a := 0) (by omega) (by omega)
      have loop : ∀ k, k ≤ 12 → ∀ (z : Int32) (F : Nat → Nat → Int32), z = nI k → (∀ r, r ≠ 43 → F r = F1 r) → (∀ j, j < k → F 43 j = nI (vs n j)) → sr_Go mX5_undo (d + 4) 23 [some (.ref 30), some (.int a), some (.int (F1 30 24 - a)), some (.int z)] [] (0, 0) (hp Ls nz F FJ kp) (fun v2 h2 => v2 = some (.int (nI D - nI n)) ∧ sp_I Ls xs h2) := by
        refine sp_for (fun z F hz fr f43 => ?_) (fun k hk ih z F hz fr f43 => ?_)
        · refine eX5_undo [23, 56] ?_
          refine sr_ite (c := z < nI 12) (fun c => absurd c (by rw [hz]; exact nI_nlt (by omega) (by omega))) (fun c => ?_)
          exact fin _ _ _ ew fr f43
        · refine eX5_undo [23, 56] ?_
          refine sr_ite (c := z < nI 12) (fun c => ?_) (fun c => absurd (by rw [hz]; exact nI_lt hk (by omega)) c)
          refine sr_ite (c := 0 < F1 30 24 - a) (fun _ => ?_) (fun q => absurd hpos q)
          refine ⟨12 * n + k, ⟨show nI 12 * a + z = _ by rw [e, hz, nI_mul, nI_add], show 12 * n + k < 720 by omega⟩, ?_⟩
          refine ⟨k, ⟨hz, show k < 12 from hk⟩, ?_⟩
          refine ih _ _ (by rw [hz]; exact nI_1 k) (fun r hr => ?_) (fun j hj => ?_)
          · rw [← fr r hr]; exact sp_fr22 r hr
          · show sr_u F 43 k (F 44 (12 * n + k)) 43 j = _
            by_cases q : j = k
            · subst q
              rw [sr_u_same, fr 44 (by decide)]
              exact hML1.2.2 n hlt j hk
            · rw [sr_u_ne _ _ q]; exact f43 j (by omega)
      exact loop 0 (by omega) _ _ rfl (fun r _ => rfl) (fun j hj => by omega)
  · have c : a < 0 ∨ F1 30 24 < a := c
    rw [hML1.1] at c
    rcases c with c | c
    · exact absurd c c1
    · exact absurd c c2
end CG
