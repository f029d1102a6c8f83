/-! pairs of calls: what is told, guests, things -/
theorem sp_NVof {g D : Nat} {vs : Nat → Nat → Nat} {ac gs : Nat → Nat} (h : sp_LG g D vs ac gs) : sp_NV (vs D) := by
  obtain ⟨h1, h2, -⟩ := h
  obtain ⟨a, b, c⟩ := h2 D (Nat.le_refl _)
  exact ⟨a, b, fun i hi => Nat.le_trans (c i hi) h1⟩
theorem sp_XNof {FI : Nat → Nat → Int32} {D : Nat} {vs : Nat → Nat → Nat} {ac gs : Nat → Nat} (h : sp_XL FI 20 D vs ac gs) : sp_XN FI (vs D) := ⟨h.2.1, h.2.2.1, h.2.2.2.1⟩
theorem nb_xor64 {a b T : Nat} (hT : T ≤ 6) (ha : a < 2 ^ T) (hb : b < 2 ^ T) : a ^^^ b < 256 := by
  have := Nat.xor_lt_two_pow ha hb
  have := sp_pow_le hT
  omega
theorem nb_things {th : Nat → Nat} {l o : Nat} (ho : o ≤ 8) : sp_things th l o < 256 := Nat.lt_of_lt_of_le (sp_things_lt th l o) (nb_powle (T := 8) ho)
theorem nb_ones : ∀ i, (h : i < 32) → (4294967295#32)[i] = true := by decide
theorem nb_subB (a s : BitVec 32) : (a &&& s = s) ↔ (s &&& (a ^^^ BitVec.allOnes 32) = 0#32) := by
  constructor
  · intro h
    apply BitVec.eq_of_getLsbD_eq
    intro i hi
    have := congrArg (fun x => x.getLsbD i) h
    simp [hi] at this ⊢
    rw [nb_ones i hi]
    exact this
  · intro h
    apply BitVec.eq_of_getLsbD_eq
    intro i hi
    have := congrArg (fun x => x.getLsbD i) h
    simp [hi] at this ⊢
    rw [nb_ones i hi] at this
    exact this
theorem nb_sub (a s : Int32) : (a &&& s = s) ↔ (s &&& (a ^^^ sr_k (-1)) = 0) := by
  rw [← Int32.toBitVec_inj, ← Int32.toBitVec_inj]
  exact nb_subB a.toBitVec s.toBitVec
section AS
variable {Ls nz d : Nat} {xs : Nat → Int32} {FI : Nat → Nat → Int32} {FJ : Nat → Nat → Int64} {kp : Nat → Option Nat}
theorem q_asked (hI : sp_Inv xs nz FI FJ kp) : sp_two (sp_I Ls xs) mX4_asked mX5_asked d [] (hp Ls nz FI FJ kp) := by
  have hA := hI.2.2.1
  refine eX4_asked [] ?_
  refine eX5_asked [] ?_
  refine ⟨?_, .of hI⟩
  show some (Value.int (FI 30 2)) = some (Value.int (FI 0 11))
  rw [hA.1]
theorem q_finding (hI : sp_Inv xs nz FI FJ kp) : sp_two (sp_I Ls xs) mX4_finding mX5_finding d [] (hp Ls nz FI FJ kp) := by
  have hA := hI.2.2.1
  refine eX4_finding [] ?_
  refine eX5_finding [] ?_
  refine ⟨?_, .of hI⟩
  show some (Value.int (FI 30 0)) = some (Value.int (FI 0 14))
  rw [hA.2.1]
theorem q_upper (hI : sp_Inv xs nz FI FJ kp) : sp_two (sp_I Ls xs) mX4_upper mX5_upper d [] (hp Ls nz FI FJ kp) := by
  have hA := hI.2.2.1
  refine eX4_upper [] ?_
  refine eX5_upper [] ?_
  refine ⟨?_, .of hI⟩
  show some (Value.long (FJ 30 3)) = some (Value.long (FJ 0 12))
  rw [hA.2.2.2.1]
theorem q_lower (hI : sp_Inv xs nz FI FJ kp) : sp_two (sp_I Ls xs) mX4_lower mX5_lower d [] (hp Ls nz FI FJ kp) := by
  have hA := hI.2.2.1
  refine eX4_lower [] ?_
  refine eX5_lower [] ?_
  refine ⟨?_, .of hI⟩
  show some (Value.long (FJ 30 4)) = some (Value.long (FJ 0 13))
  rw [hA.2.2.2.2]
theorem q_findings {a : Int32} (hI : sp_Inv xs nz FI FJ kp) : sp_two (sp_I Ls xs) mX4_findings mX5_findings (d + 1) [.int a] (hp Ls nz FI FJ kp) := by
  have hA := hI.2.2.1
  have bad : (a < nI 1 ∨ nI 5 < a) → sr_Call mX5_findings (d + 1) [.ref 30, .int a] (hp Ls nz FI FJ kp) (fun v2 h2 => v2 = some (.int (sr_k (-1))) ∧ sp_I Ls xs h2) := by
    intro hb
    refine eX5_findings [] ?_
    refine c5_in (fun c1 c2 => ?_) (fun c => ?_)
    · rcases hb with hb | hb
      · exact absurd hb c1
      · exact absurd hb c2
    · exact ⟨rfl, .of hI⟩
  refine eX4_findings [] ?_
  refine sr_ite (c := a < nI 1) (fun c => ?_) (fun c => ?_)
  · exact bad (Or.inl c)
  refine sr_ite (c := nI 5 < a) (fun c2 => ?_) (fun c2 => ?_)
  · exact bad (Or.inr c2)
  have h0 : ¬ a < 0 := by
    intro q
    have h1 := Int32.lt_iff_toInt_lt.mp q
    have h2 : ¬ a.toInt < (nI 1).toInt := fun z => c (Int32.lt_iff_toInt_lt.mpr z)
    rw [nI_toInt (by omega)] at h2
    have : (0 : Int32).toInt = 0 := rfl
    omega
  obtain ⟨k, hk, e⟩ := nI_leN (by omega) h0 c2
  refine ⟨k, ⟨e, show k < 6 by omega⟩, ?_⟩
  refine eX5_findings [] ?_
  refine c5_in (fun c1 c3 => ?_) (fun c3 => ?_)
  · refine ⟨k, ⟨e, show k < 6 by omega⟩, ?_⟩
    refine ⟨?_, .of hI⟩
    show some (Value.int (FI 31 k)) = some (Value.int (FI 29 k))
    rw [hA.2.2.1 k (by omega)]
  · rcases c3 with c3 | c3
    · exact absurd c3 c
    · exact absurd c3 c2
theorem q_guest {a b : Int32} (hI : sp_Inv xs nz FI FJ kp) : sp_two (sp_I Ls xs) mX4_guest mX5_guest (d + 4) [.int a, .int b] (hp Ls nz FI FJ kp) := by
  obtain ⟨hS, hO, hA, hB, hC, T, g, o, kd, lf, th, tn, D, vs, ac, gs, hD, hX, hM, hTd, hXT, hMT, hLG, hXL, hML, hRK⟩ := id hI
  have bad : ((∀ i, i < g → a ≠ nI i) ∨ (∀ i, i < 8 → b ≠ nI i)) → sr_Call mX5_guest (d + 4) [.ref 30, .int a, .int b] (hp Ls nz FI FJ kp) (fun v2 h2 => v2 = some (.int (sr_k (-1))) ∧ sp_I Ls xs h2) := by
    intro hb
    refine eX5_guest [] ?_
    refine c5_isGuest hD hM (fun i hi e => ?_) (fun c => ?_)
    · refine c5_inN (b := 8) rfl rfl (by omega) (fun k hk e2 => ?_) (fun c => ?_)
      · rcases hb with hb | hb
        · exact absurd e (hb i hi)
        · exact absurd e2 (hb k hk)
      · exact ⟨rfl, .of hI⟩
    · exact ⟨rfl, .of hI⟩
  refine eX4_guest [] ?_
  refine c4_isGuest' hD hX (fun i hi e z hz => ?_) (fun c z hz => ?_)
  · refine sr_n1 hz ?_
    refine sr_ite (c := b < 0) (fun c => ?_) (fun c => ?_)
    · exact bad (Or.inr (fun i hi q => by rw [q] at c; exact nI_pos (by omega) c))
    refine sr_ite (c := b < nI 8) (fun c2 => ?_) (fun c2 => ?_)
    · obtain ⟨w, hw, ew⟩ := nI_ltN (by omega) c c2
      refine c4_factOf hD hX hXT hTd (sp_XNof hXL) (sp_NVof hLG) e hi ew hw ?_
      refine c4_tell ?_
      refine eX5_guest [] ?_
      refine c5_isGuest hD hM (fun i2 hi2 e2 => ?_) (fun c3 => absurd e (c3 i hi))
      refine c5_inN (b := 8) rfl rfl (by omega) (fun k hk e3 => ?_) (fun c3 => absurd ew (c3 w hw))
      refine c5_guestTells (FI := sr_u FI 0 11 _) hD hM hMT hTd hML.2.1 (sp_NVof hLG) e hi ew hw ?_
      refine c5_tells ?_
      exact ⟨rfl, .of (sp_Inv_tell hI _)⟩
    · exact bad (Or.inr (fun i hi q => c2 (by rw [q]; exact nI_lt hi (by omega))))
  · subst hz; exact bad (Or.inl c)
theorem q_things {a b : Int32} (hI : sp_Inv xs nz FI FJ kp) : sp_two (sp_I Ls xs) mX4_things mX5_things (d + 4) [.int a, .int b] (hp Ls nz FI FJ kp) := by
  obtain ⟨hS, hO, hA, hB, hC, T, g, o, kd, lf, th, tn, D, vs, ac, gs, hD, hX, hM, hTd, hXT, hMT, hLG, hXL, hML, hRK⟩ := id hI
  have bad : ((∀ i, i < g → a ≠ nI i) ∨ (∀ i, i < 2 → b ≠ nI i)) → sr_Call mX5_things (d + 4) [.ref 30, .int a, .int b] (hp Ls nz FI FJ kp) (fun v2 h2 => v2 = some (.int (sr_k (-1))) ∧ sp_I Ls xs h2) := by
    intro hb
    refine eX5_things [] ?_
    refine c5_isGuest hD hM (fun i hi e => ?_) (fun c => ?_)
    · refine c5_inN (b := 2) rfl rfl (by omega) (fun k hk e2 => ?_) (fun c => ?_)
      · rcases hb with hb | hb
        · exact absurd e (hb i hi)
        · exact absurd e2 (hb k hk)
      · exact ⟨rfl, .of hI⟩
    · exact ⟨rfl, .of hI⟩
  refine eX4_things [] ?_
  refine c4_isGuest' hD hX (fun i hi e z hz => ?_) (fun c z hz => ?_)
  · refine sr_n1 hz ?_
    refine sr_ite (c := b < 0) (fun c => ?_) (fun c => ?_)
    · exact bad (Or.inr (fun i hi q => by rw [q] at c; exact nI_pos (by omega) c))
    refine sr_ite (c := nI 1 < b) (fun c2 => ?_) (fun c2 => ?_)
    · exact bad (Or.inr (fun i hi q => by rw [q] at c2; exact nI_nlt (by omega) (by omega) c2))
    · obtain ⟨w, hw, ew⟩ := nI_leN (by omega) c c2
      rcases (show w = 0 ∨ w = 1 by omega) with rfl | rfl
      · refine c4_thingsIn0 hD hX e hi ew ?_
        refine eX5_things [] ?_
        refine c5_isGuest hD hM (fun i2 hi2 e2 => ?_) (fun c3 => absurd e (c3 i hi))
        refine c5_inN (b := 2) rfl rfl (by omega) (fun k hk e3 => ?_) (fun c3 => absurd ew (c3 0 (by omega)))
        refine c5_roomOf0 hD hM e hi ew ?_
        exact ⟨rfl, .of hI⟩
      · refine c4_thingsIn1 hD hX hXT hTd e hi ew ?_
        refine eX5_things [] ?_
        refine c5_isGuest hD hM (fun i2 hi2 e2 => ?_) (fun c3 => absurd e (c3 i hi))
        refine c5_inN (b := 2) rfl rfl (by omega) (fun k hk e3 => ?_) (fun c3 => absurd ew (c3 1 (by omega)))
        refine c5_roomOf1 hD hM hMT hTd e hi ew ?_
        exact ⟨rfl, .of hI⟩
  · subst hz; exact bad (Or.inl c)
theorem q_both {a : Int32} (hI : sp_Inv xs nz FI FJ kp) : sp_two (sp_I Ls xs) mX4_both mX5_both (d + 4) [.int a] (hp Ls nz FI FJ kp) := by
  obtain ⟨hS, hO, hA, hB, hC, T, g, o, kd, lf, th, tn, D, vs, ac, gs, hD, hX, hM, hTd, hXT, hMT, hLG, hXL, hML, hRK⟩ := id hI
  refine eX4_both [] ?_
  refine c4_isGuest hD hX (fun i hi e => ?_) (fun c => ?_)
  · refine c4_thingsIn0 hD hX e hi rfl ?_
    refine c4_thingsIn1 hD hX hXT hTd e hi rfl ?_
    refine c4_tell ?_
    refine eX5_both [] ?_
    refine c5_isGuest hD hM (fun i2 hi2 e2 => ?_) (fun c3 => absurd e (c3 i hi))
    refine c5_roomOf0 (FI := sr_u FI 0 11 _) hD hM e hi rfl ?_
    refine c5_roomOf1 (FI := sr_u FI 0 11 _) hD hM hMT hTd e hi rfl ?_
    refine c5_tells ?_
    exact ⟨rfl, .of (sp_Inv_tell hI _)⟩
  · refine eX5_both [] ?_
    refine c5_isGuest hD hM (fun i2 hi2 e2 => absurd e2 (c i2 hi2)) (fun c3 => ?_)
    exact ⟨rfl, .of hI⟩
theorem q_apart {a : Int32} (hI : sp_Inv xs nz FI FJ kp) : sp_two (sp_I Ls xs) mX4_apart mX5_apart (d + 4) [.int a] (hp Ls nz FI FJ kp) := by
  obtain ⟨hS, hO, hA, hB, hC, T, g, o, kd, lf, th, tn, D, vs, ac, gs, hD, hX, hM, hTd, hXT, hMT, hLG, hXL, hML, hRK⟩ := id hI
  have hg := hD.1
  refine eX4_apart [] ?_
  refine c4_isGuest hD hX (fun i hi e => ?_) (fun c => ?_)
  · have hl := (hD.2.2.2.2.1 i hi).2
    have hu : lf i ^^^ sp_sec T kd lf tn i < 256 := nb_xor64 hD.2.2.1 hl (sp_sec_lt hD hTd hi)
    refine ⟨i, ⟨e, show i < 5 by omega⟩, ?_⟩
    refine c4_secondLife hD hX hXT hTd e hi ?_
    have e1 : FI 10 i ^^^ nI (sp_sec T kd lf tn i) = nI (lf i ^^^ sp_sec T kd lf tn i) := by rw [(hX.2.2.2.1 i hi).2, nI_xor]
    refine c6_bitCount (l := lf i ^^^ sp_sec T kd lf tn i) e1 hu ?_
    refine c4_firstBit (l := lf i ^^^ sp_sec T kd lf tn i) e1 hu ?_
    refine c4_tell ?_
    refine eX5_apart [] ?_
    refine c5_isGuest hD hM (fun i2 hi2 e2 => ?_) (fun c3 => absurd e (c3 i hi))
    refine ⟨i, ⟨e, show i < 5 by omega⟩, ?_⟩
    refine c5_second (FI := sr_u FI 0 11 _) hD hM hMT hTd e hi ?_
    have e2 : FI 38 i ^^^ nI (sp_sec T kd lf tn i) = nI (lf i ^^^ sp_sec T kd lf tn i) := by rw [(hM.2.2.2.1 i hi).2, nI_xor]
    refine c5_lowest (l := lf i ^^^ sp_sec T kd lf tn i) e2 hu ?_
    refine c5_bits (l := lf i ^^^ sp_sec T kd lf tn i) e2 hu ?_
    refine c5_tells ?_
    exact ⟨rfl, .of (sp_Inv_tell hI _)⟩
  · refine eX5_apart [] ?_
    refine c5_isGuest hD hM (fun i2 hi2 e2 => absurd e2 (c i2 hi2)) (fun c3 => ?_)
    exact ⟨rfl, .of hI⟩
theorem q_has {a : Int32} (hI : sp_Inv xs nz FI FJ kp) : sp_two (sp_I Ls xs) mX4_has mX5_has (d + 4) [.int a] (hp Ls nz FI FJ kp) := by
  obtain ⟨hS, hO, hA, hB, hC, T, g, o, kd, lf, th, tn, D, vs, ac, gs, hD, hX, hM, hTd, hXT, hMT, hLG, hXL, hML, hRK⟩ := id hI
  have hg := hD.1
  have hp6 := sp_pow_le hD.2.2.1
  refine eX4_has [] ?_
  refine sr_ite (c := FI 8 1 = 0) (fun c => ?_) (fun c => ?_)
  · rw [hX.2.1] at c
    refine eX5_has [] ?_
    refine sr_ite (c := FI 30 10 = 0) (fun c2 => ?_) (fun c2 => absurd (by rw [hM.2.1]; exact c) c2)
    exact ⟨rfl, .of hI⟩
  have bad : (∀ i, i < 2 ^ T → a ≠ nI i) → sr_Call mX5_has (d + 4) [.ref 30, .int a] (hp Ls nz FI FJ kp) (fun v2 h2 => v2 = some (.int (sr_k (-1))) ∧ sp_I Ls xs h2) := by
    intro hb
    refine eX5_has [] ?_
    refine sr_ite (c := FI 30 10 = 0) (fun c2 => absurd (by rw [hX.2.1, ← hM.2.1]; exact c2) c) (fun c2 => ?_)
    refine c5_allLives hD hM ?_
    refine c5_inN (b := 2 ^ T) rfl rfl (by omega) (fun k hk e2 => absurd e2 (hb k hk)) (fun c => ?_)
    exact ⟨rfl, .of hI⟩
  refine sr_ite (c := a < 0) (fun c1 => ?_) (fun c1 => ?_)
  · exact bad (fun i hi q => by rw [q] at c1; exact nI_pos (by omega) c1)
  refine c0_lifeCount hD hX ?_
  refine sr_ite (c := a < nI (2 ^ T)) (fun c2 => ?_) (fun c2 => ?_)
  · obtain ⟨l, hl, e⟩ := nI_ltN (by omega) c1 c2
    refine c0_thingsOfLife hD hX e hl ?_
    refine eX5_has [] ?_
    refine sr_ite (c := FI 30 10 = 0) (fun c2 => absurd (by rw [hX.2.1, ← hM.2.1]; exact c2) c) (fun c2 => ?_)
    refine c5_allLives hD hM ?_
    refine c5_inN (b := 2 ^ T) rfl rfl (by omega) (fun k hk e2 => ?_) (fun c => absurd e (c l hl))
    refine c5_thingsOf hD hM e hl ?_
    exact ⟨rfl, .of hI⟩
  · exact bad (fun i hi q => c2 (by rw [q]; exact nI_lt hi (by omega)))
theorem c4_isThingSet' {P : Option Value → sr_H → Prop} {T g o : Nat} {kd lf th : Nat → Nat} {x : Int32} (hD : sp_HD T g o kd lf th) (hX : sp_XH FI T g o kd lf th) (h1 : ∀ i, i < 2 ^ o → x = nI i → ∀ z, z = 1 → P (some (.int z)) (hp Ls nz FI FJ kp)) (h0 : (∀ i, i < 2 ^ o → x ≠ nI i) → ∀ z, z = 0 → P (some (.int z)) (hp Ls nz FI FJ kp)) : sr_Call mX4_isThingSet d [.ref 0, .int x] (hp Ls nz FI FJ kp) P := c4_isThingSet hD hX (fun i hi e => h1 i hi e 1 rfl) (fun c => h0 c 0 rfl)
theorem q_who {a b : Int32} (hI : sp_Inv xs nz FI FJ kp) : sp_two (sp_I Ls xs) mX4_who mX5_who (d + 4) [.int a, .int b] (hp Ls nz FI FJ kp) := by
  obtain ⟨hS, hO, hA, hB, hC, T, g, o, kd, lf, th, tn, D, vs, ac, gs, hD, hX, hM, hTd, hXT, hMT, hLG, hXL, hML, hRK⟩ := id hI
  have bad : ((∀ i, i < g → a ≠ nI i) ∨ (∀ i, i < 2 ^ o → b ≠ nI i)) → sr_Call mX5_who (d + 4) [.ref 30, .int a, .int b] (hp Ls nz FI FJ kp) (fun v2 h2 => v2 = some (.int (sr_k (-1))) ∧ sp_I Ls xs h2) := by
    intro hb
    refine eX5_who [] ?_
    refine c5_isGuest hD hM (fun i hi e => ?_) (fun c => ?_)
    · refine c5_isThings hD hM (fun k hk e2 => ?_) (fun c => ?_)
      · rcases hb with hb | hb
        · exact absurd e (hb i hi)
        · exact absurd e2 (hb k hk)
      · exact ⟨rfl, .of hI⟩
    · exact ⟨rfl, .of hI⟩
  refine eX4_who [] ?_
  refine c4_isGuest hD hX (fun i hi e => ?_) (fun c => ?_)
  · refine c4_isThingSet hD hX (fun s hs e2 => ?_) (fun c => ?_)
    · refine c4_thingsIn0 hD hX e hi rfl ?_
      have mpart : ∀ r : Int32, r = (if nI (sp_things th (lf i) o) &&& b = b then sr_k 1 else sr_k 0) + (if nI (sp_things th (sp_sec T kd lf tn i) o) &&& b = b then sr_k 2 else sr_k 0) → sr_Call mX5_who (d + 4) [.ref 30, .int a, .int b] (hp Ls nz FI FJ kp) (fun v2 h2 => v2 = some (.int r) ∧ sp_I Ls xs h2) := by
        intro r hr
        refine eX5_who [] ?_
        refine c5_isGuest hD hM (fun i2 hi2 e3 => ?_) (fun c3 => absurd e (c3 i hi))
        refine c5_isThings hD hM (fun k hk e3 => ?_) (fun c3 => absurd e2 (c3 s hs))
        refine c5_roomOf0 hD hM e hi rfl ?_
        refine sr_ite (c := b &&& (nI (sp_things th (lf i) o) ^^^ sr_k (-1)) = 0) (fun d1 => ?_) (fun d1 => ?_)
        · rw [← nb_sub] at d1
          rw [if_pos d1] at hr
          refine c5_roomOf1 hD hM hMT hTd e hi rfl ?_
          refine sr_ite (c := b &&& (nI (sp_things th (sp_sec T kd lf tn i) o) ^^^ sr_k (-1)) = 0) (fun d2 => ?_) (fun d2 => ?_)
          · rw [← nb_sub] at d2
            rw [if_pos d2] at hr
            subst hr
            exact ⟨rfl, .of hI⟩
          · rw [← nb_sub] at d2
            rw [if_neg d2] at hr
            subst hr
            exact ⟨rfl, .of hI⟩
        · rw [← nb_sub] at d1
          rw [if_neg d1] at hr
          refine c5_roomOf1 hD hM hMT hTd e hi rfl ?_
          refine sr_ite (c := b &&& (nI (sp_things th (sp_sec T kd lf tn i) o) ^^^ sr_k (-1)) = 0) (fun d2 => ?_) (fun d2 => ?_)
          · rw [← nb_sub] at d2
            rw [if_pos d2] at hr
            subst hr
            exact ⟨rfl, .of hI⟩
          · rw [← nb_sub] at d2
            rw [if_neg d2] at hr
            subst hr
            exact ⟨rfl, .of hI⟩
      refine sr_ite (c := nI (sp_things th (lf i) o) &&& b = b) (fun d1 => ?_) (fun d1 => ?_)
      · refine c4_thingsIn1 hD hX hXT hTd e hi rfl ?_
        refine sr_ite (c := nI (sp_things th (sp_sec T kd lf tn i) o) &&& b = b) (fun d2 => ?_) (fun d2 => ?_)
        · exact mpart _ (by rw [if_pos d1, if_pos d2])
        · exact mpart _ (by rw [if_pos d1, if_neg d2])
      · refine c4_thingsIn1 hD hX hXT hTd e hi rfl ?_
        refine sr_ite (c := nI (sp_things th (sp_sec T kd lf tn i) o) &&& b = b) (fun d2 => ?_) (fun d2 => ?_)
        · exact mpart _ (by rw [if_neg d1, if_pos d2])
        · exact mpart _ (by rw [if_neg d1, if_neg d2])
    · exact bad (Or.inr c)
  · exact bad (Or.inl c)
theorem sp_Inv_turn {i t : Nat} {y : Int32} (hI : sp_Inv xs nz FI FJ kp) (h : ∀ T g o kd lf th tn D vs ac gs, sp_RH FI kp nz T g o kd lf th tn D vs ac gs → t < T) (hy : y = nI t) : sp_Inv xs nz (sr_u (sr_u FI 21 i y) 39 i y) FJ kp := by
  obtain ⟨hS, hO, hA, hB, hC, T, g, o, kd, lf, th, tn, D, vs, ac, gs, hH⟩ := id hI
  have ht := h _ _ _ _ _ _ _ _ _ _ _ hH
  obtain ⟨hD, hX, hM, hTd, hXT, hMT, hLG, hXL, hML, hRK⟩ := hH
  refine ⟨hS, hO, hA, hB, hC, T, g, o, kd, lf, th, (fun j => if j = i then t else tn j), D, vs, ac, gs, hD, hX, hM, ?_, ?_, ?_, hLG, hXL, hML, hRK⟩
  · intro j hj
    show (if j = i then t else tn j) < T
    split
    · exact ht
    · exact hTd j hj
  · intro j hj
    show sr_u FI 21 i y 21 j = nI (if j = i then t else tn j)
    by_cases e : j = i
    · subst e; rw [sr_u_same, if_pos rfl, hy]
    · rw [sr_u_ne _ _ e, if_neg e]; exact hXT j hj
  · intro j hj
    show sr_u FI 39 i y 39 j = nI (if j = i then t else tn j)
    by_cases e : j = i
    · subst e; rw [sr_u_same, if_pos rfl, hy]
    · rw [sr_u_ne _ _ e, if_neg e]; exact hMT j hj
theorem q_turn {a b : Int32} (hI : sp_Inv xs nz FI FJ kp) : sp_two (sp_I Ls xs) mX4_turn mX5_turn (d + 4) [.int a, .int b] (hp Ls nz FI FJ kp) := by
  obtain ⟨hS, hO, hA, hB, hC, T, g, o, kd, lf, th, tn, D, vs, ac, gs, hD, hX, hM, hTd, hXT, hMT, hLG, hXL, hML, hRK⟩ := id hI
  have hg := hD.1
  have hT6 := hD.2.2.1
  have hD60 := hLG.1
  have bad : ((∀ i, i < g → a ≠ nI i) ∨ (∀ i, i < T → b ≠ nI i)) → sr_Call mX5_turn (d + 4) [.ref 30, .int a, .int b] (hp Ls nz FI FJ kp) (fun v2 h2 => v2 = some (.int (sr_k (-1))) ∧ sp_I Ls xs h2) := by
    intro hb
    refine eX5_turn [] ?_
    refine c5_isGuest hD hM (fun i hi e => ?_) (fun c => ?_)
    · refine c5_inN (b := T) rfl (show FI 30 11 - nI 1 = _ by rw [hM.1]) (by omega) (fun k hk e2 => ?_) (fun c => ?_)
      · rcases hb with hb | hb
        · exact absurd e (hb i hi)
        · exact absurd e2 (hb k hk)
      · exact ⟨rfl, .of hI⟩
    · exact ⟨rfl, .of hI⟩
  refine eX4_turn [] ?_
  refine c4_isGuest' hD hX (fun i hi e z hz => ?_) (fun c z hz => ?_)
  · refine sr_n1 hz ?_
    refine sr_ite (c := b < 0) (fun c => ?_) (fun c => ?_)
    · exact bad (Or.inr (fun i hi q => by rw [q] at c; exact nI_pos (by omega) c))
    refine sr_ite (c := b < FI 8 0) (fun c2 => ?_) (fun c2 => ?_)
    · rw [hX.1] at c2
      obtain ⟨t, ht, et⟩ := nI_ltN (by omega) c c2
      refine sr_ite (c := 0 < FI 20 0) (fun c3 => ?_) (fun c3 => ?_)
      · refine eX5_turn [] ?_
        refine c5_isGuest hD hM (fun i2 hi2 e3 => ?_) (fun c4 => absurd e (c4 i hi))
        refine c5_inN' (b := T) rfl (show FI 30 11 - nI 1 = _ by rw [hM.1]) (by omega) (fun k hk e2 z hz => ?_) (fun c4 => absurd et (c4 t ht))
        refine sr_n1 hz ?_
        refine sr_ite (c := 0 < FI 30 24) (fun c5 => ?_) (fun c5 => absurd (by rw [hML.1, ← hXL.1]; exact c3) c5)
        exact ⟨rfl, .of hI⟩
      · refine ⟨i, ⟨e, show i < 5 by omega⟩, ⟨i, ⟨e, show i < 5 by omega⟩, ?_⟩⟩
        refine eX5_turn [] ?_
        refine c5_isGuest hD hM (fun i2 hi2 e3 => ?_) (fun c4 => absurd e (c4 i hi))
        refine c5_inN' (b := T) rfl (show FI 30 11 - nI 1 = _ by rw [hM.1]) (by omega) (fun k hk e2 z hz => ?_) (fun c4 => absurd et (c4 t ht))
        refine sr_n1 hz ?_
        refine sr_ite (c := 0 < FI 30 24) (fun c5 => absurd (by rw [hXL.1, ← hML.1]; exact c5) c3) (fun c5 => ?_)
        refine ⟨i, ⟨e, show i < 5 by omega⟩, ⟨i, ⟨e, show i < 5 by omega⟩, ?_⟩⟩
        refine ⟨?_, .of (sp_Inv_turn (i := i) (t := t) hI (fun T2 g2 o2 kd2 lf2 th2 tn2 D2 vs2 ac2 gs2 h2 => ?_) et)⟩
        · show some (Value.int (FI 39 i)) = some (Value.int (FI 21 i))
          rw [hMT i hi, hXT i hi]
        · have : T2 = T := nI_inj (by have := h2.1.2.2.1; omega) (by omega) (h2.2.1.1.symm.trans hX.1)
          omega
    · rw [hX.1] at c2
      exact bad (Or.inr (fun i hi q => c2 (by rw [q]; exact nI_lt hi (by omega))))
  · subst hz; exact bad (Or.inl c)
end AS
