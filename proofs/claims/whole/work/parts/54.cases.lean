/-! the law: one case at a time -/
abbrev lw_L (z : Int32) : sr_L := [some (.ref 1000002), some (.ref 0), some (.ref 30), some (.int z)]
theorem lg_self (y : Int64) : lg_cmp y y = 0 := by
  unfold lg_cmp
  rw [if_neg (fun h => absurd h (by rw [gt_iff_lt, Int64.lt_iff_toInt_lt]; omega)), if_pos rfl]
section LW
variable {Ls nz d i : Nat} {mX mM : sr_MD} {pX pM iX iM : Nat} {As : List Value} {b : Nat × Nat} {z : Int32} {xs : Nat → Int32} {FI : Nat → Nat → Int32} {FJ : Nat → Nat → Int64} {kp : Nat → Option Nat} {P : Option Value → sr_H → Prop}
theorem sp_mc_use {h1 : sr_H} {A : Prop} (h : sp_mc h1 A) : (h1.2.1 30).1 = 5 ∧ (h1.2.1 1000002).1 = 7 ∧ A := by
  unfold sp_mc at h
  cases q : (Nat.beq (h1.2.1 30).1 5 && Nat.beq (h1.2.1 1000002).1 7) with
  | false => rw [q] at h; exact h.elim
  | true =>
    rw [q] at h
    rw [Bool.and_eq_true] at q
    exact ⟨Nat.eq_of_beq_eq_true q.1, Nat.eq_of_beq_eq_true q.2, h⟩
theorem lw_int (hX : decode code pX = .ok (.invokevirtual iX, 3)) (hM : decode code pM = .ok (.invokevirtual iM, 3)) (lX : (sr_mls 6).lookup iX = some (0, mX)) (lM : (sr_mls 6).lookup iM = some (0, mM)) (nX : As.length = mX.2.2.2.2.2.1) (nM : As.length = mM.2.2.2.2.2.1) (cX : 4 = mX.1) (cM : 5 = mM.1) (fX : (sr_fl (.ref 0 :: As)).length ≤ mX.2.2.2.1) (fM : (sr_fl (.ref 30 :: As)).length ≤ mM.2.2.2.1) (tX : mX.2.2.2.2.1 = some .int) (bX1 : mX.2.2.2.2.2.2.1 ≤ 5) (bX2 : mX.2.2.2.2.2.2.2 ≤ 142) (bM : mM.2.2.2.2.2.2 = (0, 0)) (hb1 : 5 ≤ b.1) (hb2 : 142 ≤ b.2) (two : sp_two (sp_I Ls xs) mX mM (d + 9) As (hp Ls nz FI FJ kp)) (mid : ∀ (y : Int32) (h1 : sr_H) (b' : Nat × Nat), Nat.beq (h1.2.1 1000002).1 7 = true → (h1.2.1 1000002).2 = Ls → (∀ j, j < Ls → h1.2.2.1 1000002 j = FI 1000002 j) → sr_Go mL_law (d + 10) pM (lw_L z) (As.reverse ++ .ref 30 :: [.int y]) b' h1 P → sr_Go mL_law (d + 10) (pX + 3) (lw_L z) [.int y] b' h1 P) (fin : ∀ (y : Int32) (nz : Nat) (FI : Nat → Nat → Int32) (FJ : Nat → Nat → Int64) (kp : Nat → Option Nat) (b' : Nat × Nat), sp_Inv xs nz FI FJ kp → b.1 ≤ b'.1 + 5 → b.2 ≤ b'.2 + 142 → sr_Go mL_law (d + 10) (pM + 3) (lw_L z) [.int y, .int y] b' (hp Ls nz FI FJ kp) P) : sr_Go mL_law (d + 10) pX (lw_L z) (As.reverse ++ [.ref 0]) b (hp Ls nz FI FJ kp) P := by
  refine sg_invR (md := mL_law) (d := d + 9) (md' := mX) (As := As) (rest := []) (r := 0) hX lX rfl nX cX (by decide) fX (by decide) (Nat.le_trans bX1 hb1) (Nat.le_trans bX2 hb2) (sr_Call_ty two) (fun v h1 hv ag => ?_)
  obtain ⟨hv, pc, hri⟩ := hv
  obtain ⟨k30, k7, hc⟩ := sp_mc_use hv
  obtain ⟨y, e⟩ := sr_ri_int tX hri
  subst e
  obtain ⟨len, con⟩ := ag 1000002 (by decide) (show 7 < 10 by decide) (by omega)
  refine mid y h1 _ (by rw [k7]; rfl) len con ?_
  refine sg_invV (md := mL_law) (d := d + 9) (md' := mM) (As := As) (rest := [.int y]) (r := 30) hM lM rfl nM (k30.trans cM) (by decide) fM (Nat.le_of_ble_eq_true rfl) (by rw [bM]; exact Nat.zero_le _) (by rw [bM]; exact Nat.zero_le _) hc (fun v2 h2 hv2 => ?_)
  obtain ⟨e2, nz2, FI2, FJ2, kp2, e3, hI2⟩ := hv2
  subst e2; subst e3
  refine fin y nz2 FI2 FJ2 kp2 _ hI2 ?_ ?_
  · show b.1 ≤ b.1 - mX.2.2.2.2.2.2.1 - mM.2.2.2.2.2.2.1 + 5
    rw [bM]
    show b.1 ≤ b.1 - mX.2.2.2.2.2.2.1 - 0 + 5
    omega
  · show b.2 ≤ b.2 - mX.2.2.2.2.2.2.2 - mM.2.2.2.2.2.2.2 + 142
    rw [bM]
    show b.2 ≤ b.2 - mX.2.2.2.2.2.2.2 - 0 + 142
    omega
theorem lw_long (hX : decode code pX = .ok (.invokevirtual iX, 3)) (hM : decode code pM = .ok (.invokevirtual iM, 3)) (lX : (sr_mls 6).lookup iX = some (0, mX)) (lM : (sr_mls 6).lookup iM = some (0, mM)) (nX : As.length = mX.2.2.2.2.2.1) (nM : As.length = mM.2.2.2.2.2.1) (cX : 4 = mX.1) (cM : 5 = mM.1) (fX : (sr_fl (.ref 0 :: As)).length ≤ mX.2.2.2.1) (fM : (sr_fl (.ref 30 :: As)).length ≤ mM.2.2.2.1) (tX : mX.2.2.2.2.1 = some .long) (bX1 : mX.2.2.2.2.2.2.1 ≤ 5) (bX2 : mX.2.2.2.2.2.2.2 ≤ 142) (bM : mM.2.2.2.2.2.2 = (0, 0)) (hb1 : 5 ≤ b.1) (hb2 : 142 ≤ b.2) (two : sp_two (sp_I Ls xs) mX mM (d + 9) As (hp Ls nz FI FJ kp)) (mid : ∀ (y : Int64) (h1 : sr_H) (b' : Nat × Nat), Nat.beq (h1.2.1 1000002).1 7 = true → (h1.2.1 1000002).2 = Ls → (∀ j, j < Ls → h1.2.2.1 1000002 j = FI 1000002 j) → sr_Go mL_law (d + 10) pM (lw_L z) (As.reverse ++ .ref 30 :: [.long y]) b' h1 P → sr_Go mL_law (d + 10) (pX + 3) (lw_L z) [.long y] b' h1 P) (fin : ∀ (y : Int64) (nz : Nat) (FI : Nat → Nat → Int32) (FJ : Nat → Nat → Int64) (kp : Nat → Option Nat) (b' : Nat × Nat), sp_Inv xs nz FI FJ kp → b.1 ≤ b'.1 + 5 → b.2 ≤ b'.2 + 142 → sr_Go mL_law (d + 10) (pM + 3) (lw_L z) [.long y, .long y] b' (hp Ls nz FI FJ kp) P) : sr_Go mL_law (d + 10) pX (lw_L z) (As.reverse ++ [.ref 0]) b (hp Ls nz FI FJ kp) P := by
  refine sg_invR (md := mL_law) (d := d + 9) (md' := mX) (As := As) (rest := []) (r := 0) hX lX rfl nX cX (by decide) fX (by decide) (Nat.le_trans bX1 hb1) (Nat.le_trans bX2 hb2) (sr_Call_ty two) (fun v h1 hv ag => ?_)
  obtain ⟨hv, pc, hri⟩ := hv
  obtain ⟨k30, k7, hc⟩ := sp_mc_use hv
  obtain ⟨y, e⟩ := sr_ri_long tX hri
  subst e
  obtain ⟨len, con⟩ := ag 1000002 (by decide) (show 7 < 10 by decide) (by omega)
  refine mid y h1 _ (by rw [k7]; rfl) len con ?_
  refine sg_invV (md := mL_law) (d := d + 9) (md' := mM) (As := As) (rest := [.long y]) (r := 30) hM lM rfl nM (k30.trans cM) (by decide) fM (Nat.le_of_ble_eq_true rfl) (by rw [bM]; exact Nat.zero_le _) (by rw [bM]; exact Nat.zero_le _) hc (fun v2 h2 hv2 => ?_)
  obtain ⟨e2, nz2, FI2, FJ2, kp2, e3, hI2⟩ := hv2
  subst e2; subst e3
  refine fin y nz2 FI2 FJ2 kp2 _ hI2 ?_ ?_
  · show b.1 ≤ b.1 - mX.2.2.2.2.2.2.1 - mM.2.2.2.2.2.2.1 + 5
    rw [bM]
    show b.1 ≤ b.1 - mX.2.2.2.2.2.2.1 - 0 + 5
    omega
  · show b.2 ≤ b.2 - mX.2.2.2.2.2.2.2 - mM.2.2.2.2.2.2.2 + 142
    rw [bM]
    show b.2 ≤ b.2 - mX.2.2.2.2.2.2.2 - 0 + 142
    omega
set_option maxRecDepth 50000 in
theorem lw_c_row (hI : sp_Inv xs nz FI FJ kp) (hz : z = nI i) (hi : i + 6 ≤ Ls) (hb1 : 5 ≤ b.1) (hb2 : 142 ≤ b.2) (next : ∀ (nz : Nat) (FI : Nat → Nat → Int32) (FJ : Nat → Nat → Int64) (kp : Nat → Option Nat) (b' : Nat × Nat), sp_Inv xs nz FI FJ kp → b.1 ≤ b'.1 + 5 → b.2 ≤ b'.2 + 142 → sr_Go mL_law (d + 10) 1443 (lw_L z) [] b' (hp Ls nz FI FJ kp) P) : sr_Go mL_law (d + 10) 232 (lw_L z) [] b (hp Ls nz FI FJ kp) P := by
  have z1 : z + nI 1 = nI (i + 1) := by rw [hz, nI_add]
  have z2 : z + nI 2 = nI (i + 2) := by rw [hz, nI_add]
  refine eL_law [243] ?_
  refine ⟨i + 1, ⟨z1, show i + 1 < Ls by omega⟩, ⟨i + 2, ⟨z2, show i + 2 < Ls by omega⟩, ?_⟩⟩
  refine lw_int (mX := mX4_row) (mM := mX5_row) (pX := 243) (pM := 257) (iX := 13) (iM := 17) (As := [.int (FI 1000002 (i + 1)), .int (FI 1000002 (i + 2))]) (by decide +kernel) (by decide +kernel) rfl rfl rfl rfl rfl rfl (show 3 ≤ _ by decide) (show 3 ≤ _ by decide) rfl (by decide) (by decide) rfl hb1 hb2 (q_row (d := d + 6) hI) (fun y h1 b' k7 len con go => ?_) (fun y nz2 FI2 FJ2 kp2 b2 hI2 c1 c2 => ?_)
  · rw [← con (i + 1) (by omega), ← con (i + 2) (by omega)] at go
    refine eL_law [257] ?_
    exact sr_cnd k7 ⟨i + 1, ⟨z1, by rw [len]; omega⟩, sr_cnd k7 ⟨i + 2, ⟨z2, by rw [len]; omega⟩, go⟩⟩
  · refine eL_law [1443] ?_
    exact sr_ite (c := y = y) (fun _ => next nz2 FI2 FJ2 kp2 b2 hI2 c1 c2) (fun q => absurd rfl q)
set_option maxRecDepth 50000 in
theorem lw_c_lay (hI : sp_Inv xs nz FI FJ kp) (hz : z = nI i) (hi : i + 6 ≤ Ls) (hb1 : 5 ≤ b.1) (hb2 : 142 ≤ b.2) (next : ∀ (nz : Nat) (FI : Nat → Nat → Int32) (FJ : Nat → Nat → Int64) (kp : Nat → Option Nat) (b' : Nat × Nat), sp_Inv xs nz FI FJ kp → b.1 ≤ b'.1 + 5 → b.2 ≤ b'.2 + 142 → sr_Go mL_law (d + 10) 1443 (lw_L z) [] b' (hp Ls nz FI FJ kp) P) : sr_Go mL_law (d + 10) 265 (lw_L z) [] b (hp Ls nz FI FJ kp) P := by
  have z1 : z + nI 1 = nI (i + 1) := by rw [hz, nI_add]
  have z2 : z + nI 2 = nI (i + 2) := by rw [hz, nI_add]
  have z3 : z + nI 3 = nI (i + 3) := by rw [hz, nI_add]
  refine eL_law [281] ?_
  refine ⟨i + 1, ⟨z1, show i + 1 < Ls by omega⟩, ⟨i + 2, ⟨z2, show i + 2 < Ls by omega⟩, ⟨i + 3, ⟨z3, show i + 3 < Ls by omega⟩, ?_⟩⟩⟩
  refine lw_int (mX := mX4_lay) (mM := mX5_lay) (pX := 281) (pM := 300) (iX := 18) (iM := 22) (As := [.int (FI 1000002 (i + 1)), .int (FI 1000002 (i + 2)), .int (FI 1000002 (i + 3))]) (by decide +kernel) (by decide +kernel) rfl rfl rfl rfl rfl rfl (show 4 ≤ _ by decide) (show 4 ≤ _ by decide) rfl (by decide) (by decide) rfl hb1 hb2 (q_lay (d := d + 5) hI) (fun y h1 b' k7 len con go => ?_) (fun y nz2 FI2 FJ2 kp2 b2 hI2 c1 c2 => ?_)
  · rw [← con (i + 1) (by omega), ← con (i + 2) (by omega), ← con (i + 3) (by omega)] at go
    refine eL_law [300] ?_
    exact sr_cnd k7 ⟨i + 1, ⟨z1, by rw [len]; omega⟩, sr_cnd k7 ⟨i + 2, ⟨z2, by rw [len]; omega⟩, sr_cnd k7 ⟨i + 3, ⟨z3, by rw [len]; omega⟩, go⟩⟩⟩
  · refine eL_law [1443] ?_
    exact sr_ite (c := y = y) (fun _ => next nz2 FI2 FJ2 kp2 b2 hI2 c1 c2) (fun q => absurd rfl q)
set_option maxRecDepth 50000 in
theorem lw_c_at (hI : sp_Inv xs nz FI FJ kp) (hz : z = nI i) (hi : i + 6 ≤ Ls) (hb1 : 5 ≤ b.1) (hb2 : 142 ≤ b.2) (next : ∀ (nz : Nat) (FI : Nat → Nat → Int32) (FJ : Nat → Nat → Int64) (kp : Nat → Option Nat) (b' : Nat × Nat), sp_Inv xs nz FI FJ kp → b.1 ≤ b'.1 + 5 → b.2 ≤ b'.2 + 142 → sr_Go mL_law (d + 10) 1443 (lw_L z) [] b' (hp Ls nz FI FJ kp) P) : sr_Go mL_law (d + 10) 308 (lw_L z) [] b (hp Ls nz FI FJ kp) P := by
  have z1 : z + nI 1 = nI (i + 1) := by rw [hz, nI_add]
  have z2 : z + nI 2 = nI (i + 2) := by rw [hz, nI_add]
  refine eL_law [319] ?_
  refine ⟨i + 1, ⟨z1, show i + 1 < Ls by omega⟩, ⟨i + 2, ⟨z2, show i + 2 < Ls by omega⟩, ?_⟩⟩
  refine lw_int (mX := mX4_at) (mM := mX5_at) (pX := 319) (pM := 333) (iX := 23) (iM := 26) (As := [.int (FI 1000002 (i + 1)), .int (FI 1000002 (i + 2))]) (by decide +kernel) (by decide +kernel) rfl rfl rfl rfl rfl rfl (show 3 ≤ _ by decide) (show 3 ≤ _ by decide) rfl (by decide) (by decide) rfl hb1 hb2 (q_at (d := d + 5) hI) (fun y h1 b' k7 len con go => ?_) (fun y nz2 FI2 FJ2 kp2 b2 hI2 c1 c2 => ?_)
  · rw [← con (i + 1) (by omega), ← con (i + 2) (by omega)] at go
    refine eL_law [333] ?_
    exact sr_cnd k7 ⟨i + 1, ⟨z1, by rw [len]; omega⟩, sr_cnd k7 ⟨i + 2, ⟨z2, by rw [len]; omega⟩, go⟩⟩
  · refine eL_law [1443] ?_
    exact sr_ite (c := y = y) (fun _ => next nz2 FI2 FJ2 kp2 b2 hI2 c1 c2) (fun q => absurd rfl q)
set_option maxRecDepth 50000 in
theorem lw_c_tear (hI : sp_Inv xs nz FI FJ kp) (hz : z = nI i) (hi : i + 6 ≤ Ls) (hb1 : 5 ≤ b.1) (hb2 : 142 ≤ b.2) (next : ∀ (nz : Nat) (FI : Nat → Nat → Int32) (FJ : Nat → Nat → Int64) (kp : Nat → Option Nat) (b' : Nat × Nat), sp_Inv xs nz FI FJ kp → b.1 ≤ b'.1 + 5 → b.2 ≤ b'.2 + 142 → sr_Go mL_law (d + 10) 1443 (lw_L z) [] b' (hp Ls nz FI FJ kp) P) : sr_Go mL_law (d + 10) 341 (lw_L z) [] b (hp Ls nz FI FJ kp) P := by
  have z1 : z + nI 1 = nI (i + 1) := by rw [hz, nI_add]
  refine eL_law [347] ?_
  refine ⟨i + 1, ⟨z1, show i + 1 < Ls by omega⟩, ?_⟩
  refine lw_int (mX := mX4_tear) (mM := mX5_tear) (pX := 347) (pM := 356) (iX := 27) (iM := 31) (As := [.int (FI 1000002 (i + 1))]) (by decide +kernel) (by decide +kernel) rfl rfl rfl rfl rfl rfl (show 2 ≤ _ by decide) (show 2 ≤ _ by decide) rfl (by decide) (by decide) rfl hb1 hb2 (q_tear (d := d + 5) hI) (fun y h1 b' k7 len con go => ?_) (fun y nz2 FI2 FJ2 kp2 b2 hI2 c1 c2 => ?_)
  · rw [← con (i + 1) (by omega)] at go
    refine eL_law [356] ?_
    exact sr_cnd k7 ⟨i + 1, ⟨z1, by rw [len]; omega⟩, go⟩
  · refine eL_law [1443] ?_
    exact sr_ite (c := y = y) (fun _ => next nz2 FI2 FJ2 kp2 b2 hI2 c1 c2) (fun q => absurd rfl q)
set_option maxRecDepth 50000 in
theorem lw_c_copy (hI : sp_Inv xs nz FI FJ kp) (hz : z = nI i) (hi : i + 6 ≤ Ls) (hb1 : 5 ≤ b.1) (hb2 : 142 ≤ b.2) (next : ∀ (nz : Nat) (FI : Nat → Nat → Int32) (FJ : Nat → Nat → Int64) (kp : Nat → Option Nat) (b' : Nat × Nat), sp_Inv xs nz FI FJ kp → b.1 ≤ b'.1 + 5 → b.2 ≤ b'.2 + 142 → sr_Go mL_law (d + 10) 1443 (lw_L z) [] b' (hp Ls nz FI FJ kp) P) : sr_Go mL_law (d + 10) 364 (lw_L z) [] b (hp Ls nz FI FJ kp) P := by
  have z1 : z + nI 1 = nI (i + 1) := by rw [hz, nI_add]
  have z2 : z + nI 2 = nI (i + 2) := by rw [hz, nI_add]
  have z3 : z + nI 3 = nI (i + 3) := by rw [hz, nI_add]
  have z4 : z + nI 4 = nI (i + 4) := by rw [hz, nI_add]
  have z5 : z + nI 5 = nI (i + 5) := by rw [hz, nI_add]
  refine eL_law [390] ?_
  refine ⟨i + 1, ⟨z1, show i + 1 < Ls by omega⟩, ⟨i + 2, ⟨z2, show i + 2 < Ls by omega⟩, ⟨i + 3, ⟨z3, show i + 3 < Ls by omega⟩, ⟨i + 4, ⟨z4, show i + 4 < Ls by omega⟩, ⟨i + 5, ⟨z5, show i + 5 < Ls by omega⟩, ?_⟩⟩⟩⟩⟩
  refine lw_int (mX := mX4_copy) (mM := mX5_copy) (pX := 390) (pM := 419) (iX := 32) (iM := 36) (As := [.int (FI 1000002 (i + 1)), .int (FI 1000002 (i + 2)), .int (FI 1000002 (i + 3)), .int (FI 1000002 (i + 4)), .int (FI 1000002 (i + 5))]) (by decide +kernel) (by decide +kernel) rfl rfl rfl rfl rfl rfl (show 6 ≤ _ by decide) (show 6 ≤ _ by decide) rfl (by decide) (by decide) rfl hb1 hb2 (q_copy (d := d + 5) hI) (fun y h1 b' k7 len con go => ?_) (fun y nz2 FI2 FJ2 kp2 b2 hI2 c1 c2 => ?_)
  · rw [← con (i + 1) (by omega), ← con (i + 2) (by omega), ← con (i + 3) (by omega), ← con (i + 4) (by omega), ← con (i + 5) (by omega)] at go
    refine eL_law [419] ?_
    exact sr_cnd k7 ⟨i + 1, ⟨z1, by rw [len]; omega⟩, sr_cnd k7 ⟨i + 2, ⟨z2, by rw [len]; omega⟩, sr_cnd k7 ⟨i + 3, ⟨z3, by rw [len]; omega⟩, sr_cnd k7 ⟨i + 4, ⟨z4, by rw [len]; omega⟩, sr_cnd k7 ⟨i + 5, ⟨z5, by rw [len]; omega⟩, go⟩⟩⟩⟩⟩
  · refine eL_law [1443] ?_
    exact sr_ite (c := y = y) (fun _ => next nz2 FI2 FJ2 kp2 b2 hI2 c1 c2) (fun q => absurd rfl q)
set_option maxRecDepth 50000 in
theorem lw_c_mean (hI : sp_Inv xs nz FI FJ kp) (hz : z = nI i) (hi : i + 6 ≤ Ls) (hb1 : 5 ≤ b.1) (hb2 : 142 ≤ b.2) (next : ∀ (nz : Nat) (FI : Nat → Nat → Int32) (FJ : Nat → Nat → Int64) (kp : Nat → Option Nat) (b' : Nat × Nat), sp_Inv xs nz FI FJ kp → b.1 ≤ b'.1 + 5 → b.2 ≤ b'.2 + 142 → sr_Go mL_law (d + 10) 1443 (lw_L z) [] b' (hp Ls nz FI FJ kp) P) : sr_Go mL_law (d + 10) 427 (lw_L z) [] b (hp Ls nz FI FJ kp) P := by
  have z1 : z + nI 1 = nI (i + 1) := by rw [hz, nI_add]
  refine eL_law [433] ?_
  refine ⟨i + 1, ⟨z1, show i + 1 < Ls by omega⟩, ?_⟩
  refine lw_int (mX := mX4_mean) (mM := mX5_mean) (pX := 433) (pM := 442) (iX := 37) (iM := 40) (As := [.int (FI 1000002 (i + 1))]) (by decide +kernel) (by decide +kernel) rfl rfl rfl rfl rfl rfl (show 2 ≤ _ by decide) (show 2 ≤ _ by decide) rfl (by decide) (by decide) rfl hb1 hb2 (q_mean (d := d + 5) hI) (fun y h1 b' k7 len con go => ?_) (fun y nz2 FI2 FJ2 kp2 b2 hI2 c1 c2 => ?_)
  · rw [← con (i + 1) (by omega)] at go
    refine eL_law [442] ?_
    exact sr_cnd k7 ⟨i + 1, ⟨z1, by rw [len]; omega⟩, go⟩
  · refine eL_law [1443] ?_
    exact sr_ite (c := y = y) (fun _ => next nz2 FI2 FJ2 kp2 b2 hI2 c1 c2) (fun q => absurd rfl q)
set_option maxRecDepth 50000 in
theorem lw_c_text (hI : sp_Inv xs nz FI FJ kp) (hz : z = nI i) (hi : i + 6 ≤ Ls) (hb1 : 5 ≤ b.1) (hb2 : 142 ≤ b.2) (next : ∀ (nz : Nat) (FI : Nat → Nat → Int32) (FJ : Nat → Nat → Int64) (kp : Nat → Option Nat) (b' : Nat × Nat), sp_Inv xs nz FI FJ kp → b.1 ≤ b'.1 + 5 → b.2 ≤ b'.2 + 142 → sr_Go mL_law (d + 10) 1443 (lw_L z) [] b' (hp Ls nz FI FJ kp) P) : sr_Go mL_law (d + 10) 450 (lw_L z) [] b (hp Ls nz FI FJ kp) P := by
  have z1 : z + nI 1 = nI (i + 1) := by rw [hz, nI_add]
  have z2 : z + nI 2 = nI (i + 2) := by rw [hz, nI_add]
  refine eL_law [461] ?_
  refine ⟨i + 1, ⟨z1, show i + 1 < Ls by omega⟩, ⟨i + 2, ⟨z2, show i + 2 < Ls by omega⟩, ?_⟩⟩
  refine lw_int (mX := mX4_text) (mM := mX5_text) (pX := 461) (pM := 475) (iX := 41) (iM := 44) (As := [.int (FI 1000002 (i + 1)), .int (FI 1000002 (i + 2))]) (by decide +kernel) (by decide +kernel) rfl rfl rfl rfl rfl rfl (show 3 ≤ _ by decide) (show 3 ≤ _ by decide) rfl (by decide) (by decide) rfl hb1 hb2 (q_text (d := d + 6) hI) (fun y h1 b' k7 len con go => ?_) (fun y nz2 FI2 FJ2 kp2 b2 hI2 c1 c2 => ?_)
  · rw [← con (i + 1) (by omega), ← con (i + 2) (by omega)] at go
    refine eL_law [475] ?_
    exact sr_cnd k7 ⟨i + 1, ⟨z1, by rw [len]; omega⟩, sr_cnd k7 ⟨i + 2, ⟨z2, by rw [len]; omega⟩, go⟩⟩
  · refine eL_law [1443] ?_
    exact sr_ite (c := y = y) (fun _ => next nz2 FI2 FJ2 kp2 b2 hI2 c1 c2) (fun q => absurd rfl q)
set_option maxRecDepth 50000 in
theorem lw_c_put (hI : sp_Inv xs nz FI FJ kp) (hz : z = nI i) (hi : i + 6 ≤ Ls) (hb1 : 5 ≤ b.1) (hb2 : 142 ≤ b.2) (next : ∀ (nz : Nat) (FI : Nat → Nat → Int32) (FJ : Nat → Nat → Int64) (kp : Nat → Option Nat) (b' : Nat × Nat), sp_Inv xs nz FI FJ kp → b.1 ≤ b'.1 + 5 → b.2 ≤ b'.2 + 142 → sr_Go mL_law (d + 10) 1443 (lw_L z) [] b' (hp Ls nz FI FJ kp) P) : sr_Go mL_law (d + 10) 483 (lw_L z) [] b (hp Ls nz FI FJ kp) P := by
  have z1 : z + nI 1 = nI (i + 1) := by rw [hz, nI_add]
  have z2 : z + nI 2 = nI (i + 2) := by rw [hz, nI_add]
  have z3 : z + nI 3 = nI (i + 3) := by rw [hz, nI_add]
  refine eL_law [499] ?_
  refine ⟨i + 1, ⟨z1, show i + 1 < Ls by omega⟩, ⟨i + 2, ⟨z2, show i + 2 < Ls by omega⟩, ⟨i + 3, ⟨z3, show i + 3 < Ls by omega⟩, ?_⟩⟩⟩
  refine lw_int (mX := mX4_put) (mM := mX5_put) (pX := 499) (pM := 518) (iX := 45) (iM := 48) (As := [.int (FI 1000002 (i + 1)), .int (FI 1000002 (i + 2)), .int (FI 1000002 (i + 3))]) (by decide +kernel) (by decide +kernel) rfl rfl rfl rfl rfl rfl (show 4 ≤ _ by decide) (show 4 ≤ _ by decide) rfl (by decide) (by decide) rfl hb1 hb2 (q_put (d := d + 5) hI) (fun y h1 b' k7 len con go => ?_) (fun y nz2 FI2 FJ2 kp2 b2 hI2 c1 c2 => ?_)
  · rw [← con (i + 1) (by omega), ← con (i + 2) (by omega), ← con (i + 3) (by omega)] at go
    refine eL_law [518] ?_
    exact sr_cnd k7 ⟨i + 1, ⟨z1, by rw [len]; omega⟩, sr_cnd k7 ⟨i + 2, ⟨z2, by rw [len]; omega⟩, sr_cnd k7 ⟨i + 3, ⟨z3, by rw [len]; omega⟩, go⟩⟩⟩
  · refine eL_law [1443] ?_
    exact sr_ite (c := y = y) (fun _ => next nz2 FI2 FJ2 kp2 b2 hI2 c1 c2) (fun q => absurd rfl q)
set_option maxRecDepth 50000 in
theorem lw_c_fault (hI : sp_Inv xs nz FI FJ kp) (hz : z = nI i) (hi : i + 6 ≤ Ls) (hb1 : 5 ≤ b.1) (hb2 : 142 ≤ b.2) (next : ∀ (nz : Nat) (FI : Nat → Nat → Int32) (FJ : Nat → Nat → Int64) (kp : Nat → Option Nat) (b' : Nat × Nat), sp_Inv xs nz FI FJ kp → b.1 ≤ b'.1 + 5 → b.2 ≤ b'.2 + 142 → sr_Go mL_law (d + 10) 1443 (lw_L z) [] b' (hp Ls nz FI FJ kp) P) : sr_Go mL_law (d + 10) 526 (lw_L z) [] b (hp Ls nz FI FJ kp) P := by
  have z1 : z + nI 1 = nI (i + 1) := by rw [hz, nI_add]
  refine eL_law [532] ?_
  refine ⟨i + 1, ⟨z1, show i + 1 < Ls by omega⟩, ?_⟩
  refine lw_int (mX := mX4_fault) (mM := mX5_fault) (pX := 532) (pM := 541) (iX := 49) (iM := 52) (As := [.int (FI 1000002 (i + 1))]) (by decide +kernel) (by decide +kernel) rfl rfl rfl rfl rfl rfl (show 2 ≤ _ by decide) (show 2 ≤ _ by decide) rfl (by decide) (by decide) rfl hb1 hb2 (q_fault (d := d + 2) hI) (fun y h1 b' k7 len con go => ?_) (fun y nz2 FI2 FJ2 kp2 b2 hI2 c1 c2 => ?_)
  · rw [← con (i + 1) (by omega)] at go
    refine eL_law [541] ?_
    exact sr_cnd k7 ⟨i + 1, ⟨z1, by rw [len]; omega⟩, go⟩
  · refine eL_law [1443] ?_
    exact sr_ite (c := y = y) (fun _ => next nz2 FI2 FJ2 kp2 b2 hI2 c1 c2) (fun q => absurd rfl q)
set_option maxRecDepth 50000 in
theorem lw_c_hotel (hI : sp_Inv xs nz FI FJ kp) (hz : z = nI i) (hi : i + 6 ≤ Ls) (hb1 : 5 ≤ b.1) (hb2 : 142 ≤ b.2) (next : ∀ (nz : Nat) (FI : Nat → Nat → Int32) (FJ : Nat → Nat → Int64) (kp : Nat → Option Nat) (b' : Nat × Nat), sp_Inv xs nz FI FJ kp → b.1 ≤ b'.1 + 5 → b.2 ≤ b'.2 + 142 → sr_Go mL_law (d + 10) 1443 (lw_L z) [] b' (hp Ls nz FI FJ kp) P) : sr_Go mL_law (d + 10) 549 (lw_L z) [] b (hp Ls nz FI FJ kp) P := by
  have z1 : z + nI 1 = nI (i + 1) := by rw [hz, nI_add]
  refine eL_law [555] ?_
  refine ⟨i + 1, ⟨z1, show i + 1 < Ls by omega⟩, ?_⟩
  refine lw_int (mX := mX4_hotel) (mM := mX5_hotel) (pX := 555) (pM := 564) (iX := 53) (iM := 56) (As := [.int (FI 1000002 (i + 1))]) (by decide +kernel) (by decide +kernel) rfl rfl rfl rfl rfl rfl (show 2 ≤ _ by decide) (show 2 ≤ _ by decide) rfl (by decide) (by decide) rfl hb1 hb2 (q_hotel (d := d + 2) hI) (fun y h1 b' k7 len con go => ?_) (fun y nz2 FI2 FJ2 kp2 b2 hI2 c1 c2 => ?_)
  · rw [← con (i + 1) (by omega)] at go
    refine eL_law [564] ?_
    exact sr_cnd k7 ⟨i + 1, ⟨z1, by rw [len]; omega⟩, go⟩
  · refine eL_law [1443] ?_
    exact sr_ite (c := y = y) (fun _ => next nz2 FI2 FJ2 kp2 b2 hI2 c1 c2) (fun q => absurd rfl q)
set_option maxRecDepth 50000 in
theorem lw_c_guest (hI : sp_Inv xs nz FI FJ kp) (hz : z = nI i) (hi : i + 6 ≤ Ls) (hb1 : 5 ≤ b.1) (hb2 : 142 ≤ b.2) (next : ∀ (nz : Nat) (FI : Nat → Nat → Int32) (FJ : Nat → Nat → Int64) (kp : Nat → Option Nat) (b' : Nat × Nat), sp_Inv xs nz FI FJ kp → b.1 ≤ b'.1 + 5 → b.2 ≤ b'.2 + 142 → sr_Go mL_law (d + 10) 1443 (lw_L z) [] b' (hp Ls nz FI FJ kp) P) : sr_Go mL_law (d + 10) 572 (lw_L z) [] b (hp Ls nz FI FJ kp) P := by
  have z1 : z + nI 1 = nI (i + 1) := by rw [hz, nI_add]
  have z2 : z + nI 2 = nI (i + 2) := by rw [hz, nI_add]
  refine eL_law [583] ?_
  refine ⟨i + 1, ⟨z1, show i + 1 < Ls by omega⟩, ⟨i + 2, ⟨z2, show i + 2 < Ls by omega⟩, ?_⟩⟩
  refine lw_int (mX := mX4_guest) (mM := mX5_guest) (pX := 583) (pM := 597) (iX := 57) (iM := 60) (As := [.int (FI 1000002 (i + 1)), .int (FI 1000002 (i + 2))]) (by decide +kernel) (by decide +kernel) rfl rfl rfl rfl rfl rfl (show 3 ≤ _ by decide) (show 3 ≤ _ by decide) rfl (by decide) (by decide) rfl hb1 hb2 (q_guest (d := d + 5) hI) (fun y h1 b' k7 len con go => ?_) (fun y nz2 FI2 FJ2 kp2 b2 hI2 c1 c2 => ?_)
  · rw [← con (i + 1) (by omega), ← con (i + 2) (by omega)] at go
    refine eL_law [597] ?_
    exact sr_cnd k7 ⟨i + 1, ⟨z1, by rw [len]; omega⟩, sr_cnd k7 ⟨i + 2, ⟨z2, by rw [len]; omega⟩, go⟩⟩
  · refine eL_law [1443] ?_
    exact sr_ite (c := y = y) (fun _ => next nz2 FI2 FJ2 kp2 b2 hI2 c1 c2) (fun q => absurd rfl q)
set_option maxRecDepth 50000 in
theorem lw_c_mark (hI : sp_Inv xs nz FI FJ kp) (hz : z = nI i) (hi : i + 6 ≤ Ls) (hb1 : 5 ≤ b.1) (hb2 : 142 ≤ b.2) (next : ∀ (nz : Nat) (FI : Nat → Nat → Int32) (FJ : Nat → Nat → Int64) (kp : Nat → Option Nat) (b' : Nat × Nat), sp_Inv xs nz FI FJ kp → b.1 ≤ b'.1 + 5 → b.2 ≤ b'.2 + 142 → sr_Go mL_law (d + 10) 1443 (lw_L z) [] b' (hp Ls nz FI FJ kp) P) : sr_Go mL_law (d + 10) 605 (lw_L z) [] b (hp Ls nz FI FJ kp) P := by
  have z1 : z + nI 1 = nI (i + 1) := by rw [hz, nI_add]
  have z2 : z + nI 2 = nI (i + 2) := by rw [hz, nI_add]
  refine eL_law [616] ?_
  refine ⟨i + 1, ⟨z1, show i + 1 < Ls by omega⟩, ⟨i + 2, ⟨z2, show i + 2 < Ls by omega⟩, ?_⟩⟩
  refine lw_int (mX := mX4_mark) (mM := mX5_mark) (pX := 616) (pM := 630) (iX := 61) (iM := 64) (As := [.int (FI 1000002 (i + 1)), .int (FI 1000002 (i + 2))]) (by decide +kernel) (by decide +kernel) rfl rfl rfl rfl rfl rfl (show 3 ≤ _ by decide) (show 3 ≤ _ by decide) rfl (by decide) (by decide) rfl hb1 hb2 (q_mark (d := d + 5) hI) (fun y h1 b' k7 len con go => ?_) (fun y nz2 FI2 FJ2 kp2 b2 hI2 c1 c2 => ?_)
  · rw [← con (i + 1) (by omega), ← con (i + 2) (by omega)] at go
    refine eL_law [630] ?_
    exact sr_cnd k7 ⟨i + 1, ⟨z1, by rw [len]; omega⟩, sr_cnd k7 ⟨i + 2, ⟨z2, by rw [len]; omega⟩, go⟩⟩
  · refine eL_law [1443] ?_
    exact sr_ite (c := y = y) (fun _ => next nz2 FI2 FJ2 kp2 b2 hI2 c1 c2) (fun q => absurd rfl q)
set_option maxRecDepth 50000 in
theorem lw_c_turn (hI : sp_Inv xs nz FI FJ kp) (hz : z = nI i) (hi : i + 6 ≤ Ls) (hb1 : 5 ≤ b.1) (hb2 : 142 ≤ b.2) (next : ∀ (nz : Nat) (FI : Nat → Nat → Int32) (FJ : Nat → Nat → Int64) (kp : Nat → Option Nat) (b' : Nat × Nat), sp_Inv xs nz FI FJ kp → b.1 ≤ b'.1 + 5 → b.2 ≤ b'.2 + 142 → sr_Go mL_law (d + 10) 1443 (lw_L z) [] b' (hp Ls nz FI FJ kp) P) : sr_Go mL_law (d + 10) 638 (lw_L z) [] b (hp Ls nz FI FJ kp) P := by
  have z1 : z + nI 1 = nI (i + 1) := by rw [hz, nI_add]
  have z2 : z + nI 2 = nI (i + 2) := by rw [hz, nI_add]
  refine eL_law [649] ?_
  refine ⟨i + 1, ⟨z1, show i + 1 < Ls by omega⟩, ⟨i + 2, ⟨z2, show i + 2 < Ls by omega⟩, ?_⟩⟩
  refine lw_int (mX := mX4_turn) (mM := mX5_turn) (pX := 649) (pM := 663) (iX := 65) (iM := 68) (As := [.int (FI 1000002 (i + 1)), .int (FI 1000002 (i + 2))]) (by decide +kernel) (by decide +kernel) rfl rfl rfl rfl rfl rfl (show 3 ≤ _ by decide) (show 3 ≤ _ by decide) rfl (by decide) (by decide) rfl hb1 hb2 (q_turn (d := d + 5) hI) (fun y h1 b' k7 len con go => ?_) (fun y nz2 FI2 FJ2 kp2 b2 hI2 c1 c2 => ?_)
  · rw [← con (i + 1) (by omega), ← con (i + 2) (by omega)] at go
    refine eL_law [663] ?_
    exact sr_cnd k7 ⟨i + 1, ⟨z1, by rw [len]; omega⟩, sr_cnd k7 ⟨i + 2, ⟨z2, by rw [len]; omega⟩, go⟩⟩
  · refine eL_law [1443] ?_
    exact sr_ite (c := y = y) (fun _ => next nz2 FI2 FJ2 kp2 b2 hI2 c1 c2) (fun q => absurd rfl q)
set_option maxRecDepth 50000 in
theorem lw_c_change (hI : sp_Inv xs nz FI FJ kp) (hz : z = nI i) (hi : i + 6 ≤ Ls) (hb1 : 5 ≤ b.1) (hb2 : 142 ≤ b.2) (next : ∀ (nz : Nat) (FI : Nat → Nat → Int32) (FJ : Nat → Nat → Int64) (kp : Nat → Option Nat) (b' : Nat × Nat), sp_Inv xs nz FI FJ kp → b.1 ≤ b'.1 + 5 → b.2 ≤ b'.2 + 142 → sr_Go mL_law (d + 10) 1443 (lw_L z) [] b' (hp Ls nz FI FJ kp) P) : sr_Go mL_law (d + 10) 671 (lw_L z) [] b (hp Ls nz FI FJ kp) P := by
  have z1 : z + nI 1 = nI (i + 1) := by rw [hz, nI_add]
  refine eL_law [677] ?_
  refine ⟨i + 1, ⟨z1, show i + 1 < Ls by omega⟩, ?_⟩
  refine lw_int (mX := mX4_change) (mM := mX5_change) (pX := 677) (pM := 686) (iX := 69) (iM := 72) (As := [.int (FI 1000002 (i + 1))]) (by decide +kernel) (by decide +kernel) rfl rfl rfl rfl rfl rfl (show 2 ≤ _ by decide) (show 2 ≤ _ by decide) rfl (by decide) (by decide) rfl hb1 hb2 (q_change (d := d + 5) hI) (fun y h1 b' k7 len con go => ?_) (fun y nz2 FI2 FJ2 kp2 b2 hI2 c1 c2 => ?_)
  · rw [← con (i + 1) (by omega)] at go
    refine eL_law [686] ?_
    exact sr_cnd k7 ⟨i + 1, ⟨z1, by rw [len]; omega⟩, go⟩
  · refine eL_law [1443] ?_
    exact sr_ite (c := y = y) (fun _ => next nz2 FI2 FJ2 kp2 b2 hI2 c1 c2) (fun q => absurd rfl q)
set_option maxRecDepth 50000 in
theorem lw_c_lock (hI : sp_Inv xs nz FI FJ kp) (hz : z = nI i) (hi : i + 6 ≤ Ls) (hb1 : 5 ≤ b.1) (hb2 : 142 ≤ b.2) (next : ∀ (nz : Nat) (FI : Nat → Nat → Int32) (FJ : Nat → Nat → Int64) (kp : Nat → Option Nat) (b' : Nat × Nat), sp_Inv xs nz FI FJ kp → b.1 ≤ b'.1 + 5 → b.2 ≤ b'.2 + 142 → sr_Go mL_law (d + 10) 1443 (lw_L z) [] b' (hp Ls nz FI FJ kp) P) : sr_Go mL_law (d + 10) 694 (lw_L z) [] b (hp Ls nz FI FJ kp) P := by
  have z1 : z + nI 1 = nI (i + 1) := by rw [hz, nI_add]
  have z2 : z + nI 2 = nI (i + 2) := by rw [hz, nI_add]
  refine eL_law [705] ?_
  refine ⟨i + 1, ⟨z1, show i + 1 < Ls by omega⟩, ⟨i + 2, ⟨z2, show i + 2 < Ls by omega⟩, ?_⟩⟩
  refine lw_int (mX := mX4_lock) (mM := mX5_lock) (pX := 705) (pM := 719) (iX := 73) (iM := 76) (As := [.int (FI 1000002 (i + 1)), .int (FI 1000002 (i + 2))]) (by decide +kernel) (by decide +kernel) rfl rfl rfl rfl rfl rfl (show 3 ≤ _ by decide) (show 3 ≤ _ by decide) rfl (by decide) (by decide) rfl hb1 hb2 (q_lock (d := d + 5) hI) (fun y h1 b' k7 len con go => ?_) (fun y nz2 FI2 FJ2 kp2 b2 hI2 c1 c2 => ?_)
  · rw [← con (i + 1) (by omega), ← con (i + 2) (by omega)] at go
    refine eL_law [719] ?_
    exact sr_cnd k7 ⟨i + 1, ⟨z1, by rw [len]; omega⟩, sr_cnd k7 ⟨i + 2, ⟨z2, by rw [len]; omega⟩, go⟩⟩
  · refine eL_law [1443] ?_
    exact sr_ite (c := y = y) (fun _ => next nz2 FI2 FJ2 kp2 b2 hI2 c1 c2) (fun q => absurd rfl q)
set_option maxRecDepth 50000 in
theorem lw_c_use (hI : sp_Inv xs nz FI FJ kp) (hz : z = nI i) (hi : i + 6 ≤ Ls) (hb1 : 5 ≤ b.1) (hb2 : 142 ≤ b.2) (next : ∀ (nz : Nat) (FI : Nat → Nat → Int32) (FJ : Nat → Nat → Int64) (kp : Nat → Option Nat) (b' : Nat × Nat), sp_Inv xs nz FI FJ kp → b.1 ≤ b'.1 + 5 → b.2 ≤ b'.2 + 142 → sr_Go mL_law (d + 10) 1443 (lw_L z) [] b' (hp Ls nz FI FJ kp) P) : sr_Go mL_law (d + 10) 727 (lw_L z) [] b (hp Ls nz FI FJ kp) P := by
  have z1 : z + nI 1 = nI (i + 1) := by rw [hz, nI_add]
  refine eL_law [733] ?_
  refine ⟨i + 1, ⟨z1, show i + 1 < Ls by omega⟩, ?_⟩
  refine lw_int (mX := mX4_use) (mM := mX5_use) (pX := 733) (pM := 742) (iX := 77) (iM := 80) (As := [.int (FI 1000002 (i + 1))]) (by decide +kernel) (by decide +kernel) rfl rfl rfl rfl rfl rfl (show 2 ≤ _ by decide) (show 2 ≤ _ by decide) rfl (by decide) (by decide) rfl hb1 hb2 (q_use (d := d + 5) hI) (fun y h1 b' k7 len con go => ?_) (fun y nz2 FI2 FJ2 kp2 b2 hI2 c1 c2 => ?_)
  · rw [← con (i + 1) (by omega)] at go
    refine eL_law [742] ?_
    exact sr_cnd k7 ⟨i + 1, ⟨z1, by rw [len]; omega⟩, go⟩
  · refine eL_law [1443] ?_
    exact sr_ite (c := y = y) (fun _ => next nz2 FI2 FJ2 kp2 b2 hI2 c1 c2) (fun q => absurd rfl q)
set_option maxRecDepth 50000 in
theorem lw_c_undo (hI : sp_Inv xs nz FI FJ kp) (hz : z = nI i) (hi : i + 6 ≤ Ls) (hb1 : 5 ≤ b.1) (hb2 : 142 ≤ b.2) (next : ∀ (nz : Nat) (FI : Nat → Nat → Int32) (FJ : Nat → Nat → Int64) (kp : Nat → Option Nat) (b' : Nat × Nat), sp_Inv xs nz FI FJ kp → b.1 ≤ b'.1 + 5 → b.2 ≤ b'.2 + 142 → sr_Go mL_law (d + 10) 1443 (lw_L z) [] b' (hp Ls nz FI FJ kp) P) : sr_Go mL_law (d + 10) 750 (lw_L z) [] b (hp Ls nz FI FJ kp) P := by
  have z1 : z + nI 1 = nI (i + 1) := by rw [hz, nI_add]
  refine eL_law [756] ?_
  refine ⟨i + 1, ⟨z1, show i + 1 < Ls by omega⟩, ?_⟩
  refine lw_int (mX := mX4_undo) (mM := mX5_undo) (pX := 756) (pM := 765) (iX := 81) (iM := 84) (As := [.int (FI 1000002 (i + 1))]) (by decide +kernel) (by decide +kernel) rfl rfl rfl rfl rfl rfl (show 2 ≤ _ by decide) (show 2 ≤ _ by decide) rfl (by decide) (by decide) rfl hb1 hb2 (q_undo (d := d + 5) hI) (fun y h1 b' k7 len con go => ?_) (fun y nz2 FI2 FJ2 kp2 b2 hI2 c1 c2 => ?_)
  · rw [← con (i + 1) (by omega)] at go
    refine eL_law [765] ?_
    exact sr_cnd k7 ⟨i + 1, ⟨z1, by rw [len]; omega⟩, go⟩
  · refine eL_law [1443] ?_
    exact sr_ite (c := y = y) (fun _ => next nz2 FI2 FJ2 kp2 b2 hI2 c1 c2) (fun q => absurd rfl q)
set_option maxRecDepth 50000 in
theorem lw_c_keep (hI : sp_Inv xs nz FI FJ kp) (hz : z = nI i) (hi : i + 6 ≤ Ls) (hb1 : 5 ≤ b.1) (hb2 : 142 ≤ b.2) (next : ∀ (nz : Nat) (FI : Nat → Nat → Int32) (FJ : Nat → Nat → Int64) (kp : Nat → Option Nat) (b' : Nat × Nat), sp_Inv xs nz FI FJ kp → b.1 ≤ b'.1 + 5 → b.2 ≤ b'.2 + 142 → sr_Go mL_law (d + 10) 1443 (lw_L z) [] b' (hp Ls nz FI FJ kp) P) : sr_Go mL_law (d + 10) 773 (lw_L z) [] b (hp Ls nz FI FJ kp) P := by
  have z1 : z + nI 1 = nI (i + 1) := by rw [hz, nI_add]
  refine eL_law [779] ?_
  refine ⟨i + 1, ⟨z1, show i + 1 < Ls by omega⟩, ?_⟩
  refine lw_int (mX := mX4_keep) (mM := mX5_keep) (pX := 779) (pM := 788) (iX := 85) (iM := 88) (As := [.int (FI 1000002 (i + 1))]) (by decide +kernel) (by decide +kernel) rfl rfl rfl rfl rfl rfl (show 2 ≤ _ by decide) (show 2 ≤ _ by decide) rfl (by decide) (by decide) rfl hb1 hb2 (q_keep (d := d + 5) hI) (fun y h1 b' k7 len con go => ?_) (fun y nz2 FI2 FJ2 kp2 b2 hI2 c1 c2 => ?_)
  · rw [← con (i + 1) (by omega)] at go
    refine eL_law [788] ?_
    exact sr_cnd k7 ⟨i + 1, ⟨z1, by rw [len]; omega⟩, go⟩
  · refine eL_law [1443] ?_
    exact sr_ite (c := y = y) (fun _ => next nz2 FI2 FJ2 kp2 b2 hI2 c1 c2) (fun q => absurd rfl q)
set_option maxRecDepth 50000 in
theorem lw_c_on (hI : sp_Inv xs nz FI FJ kp) (hz : z = nI i) (hi : i + 6 ≤ Ls) (hb1 : 5 ≤ b.1) (hb2 : 142 ≤ b.2) (next : ∀ (nz : Nat) (FI : Nat → Nat → Int32) (FJ : Nat → Nat → Int64) (kp : Nat → Option Nat) (b' : Nat × Nat), sp_Inv xs nz FI FJ kp → b.1 ≤ b'.1 + 5 → b.2 ≤ b'.2 + 142 → sr_Go mL_law (d + 10) 1443 (lw_L z) [] b' (hp Ls nz FI FJ kp) P) : sr_Go mL_law (d + 10) 796 (lw_L z) [] b (hp Ls nz FI FJ kp) P := by
  have z1 : z + nI 1 = nI (i + 1) := by rw [hz, nI_add]
  refine eL_law [802] ?_
  refine ⟨i + 1, ⟨z1, show i + 1 < Ls by omega⟩, ?_⟩
  refine lw_int (mX := mX4_on) (mM := mX5_on) (pX := 802) (pM := 811) (iX := 89) (iM := 92) (As := [.int (FI 1000002 (i + 1))]) (by decide +kernel) (by decide +kernel) rfl rfl rfl rfl rfl rfl (show 2 ≤ _ by decide) (show 2 ≤ _ by decide) rfl (by decide) (by decide) rfl hb1 hb2 (q_on (d := d + 5) hI) (fun y h1 b' k7 len con go => ?_) (fun y nz2 FI2 FJ2 kp2 b2 hI2 c1 c2 => ?_)
  · rw [← con (i + 1) (by omega)] at go
    refine eL_law [811] ?_
    exact sr_cnd k7 ⟨i + 1, ⟨z1, by rw [len]; omega⟩, go⟩
  · refine eL_law [1443] ?_
    exact sr_ite (c := y = y) (fun _ => next nz2 FI2 FJ2 kp2 b2 hI2 c1 c2) (fun q => absurd rfl q)
set_option maxRecDepth 50000 in
theorem lw_c_things (hI : sp_Inv xs nz FI FJ kp) (hz : z = nI i) (hi : i + 6 ≤ Ls) (hb1 : 5 ≤ b.1) (hb2 : 142 ≤ b.2) (next : ∀ (nz : Nat) (FI : Nat → Nat → Int32) (FJ : Nat → Nat → Int64) (kp : Nat → Option Nat) (b' : Nat × Nat), sp_Inv xs nz FI FJ kp → b.1 ≤ b'.1 + 5 → b.2 ≤ b'.2 + 142 → sr_Go mL_law (d + 10) 1443 (lw_L z) [] b' (hp Ls nz FI FJ kp) P) : sr_Go mL_law (d + 10) 819 (lw_L z) [] b (hp Ls nz FI FJ kp) P := by
  have z1 : z + nI 1 = nI (i + 1) := by rw [hz, nI_add]
  have z2 : z + nI 2 = nI (i + 2) := by rw [hz, nI_add]
  refine eL_law [830] ?_
  refine ⟨i + 1, ⟨z1, show i + 1 < Ls by omega⟩, ⟨i + 2, ⟨z2, show i + 2 < Ls by omega⟩, ?_⟩⟩
  refine lw_int (mX := mX4_things) (mM := mX5_things) (pX := 830) (pM := 844) (iX := 93) (iM := 96) (As := [.int (FI 1000002 (i + 1)), .int (FI 1000002 (i + 2))]) (by decide +kernel) (by decide +kernel) rfl rfl rfl rfl rfl rfl (show 3 ≤ _ by decide) (show 3 ≤ _ by decide) rfl (by decide) (by decide) rfl hb1 hb2 (q_things (d := d + 5) hI) (fun y h1 b' k7 len con go => ?_) (fun y nz2 FI2 FJ2 kp2 b2 hI2 c1 c2 => ?_)
  · rw [← con (i + 1) (by omega), ← con (i + 2) (by omega)] at go
    refine eL_law [844] ?_
    exact sr_cnd k7 ⟨i + 1, ⟨z1, by rw [len]; omega⟩, sr_cnd k7 ⟨i + 2, ⟨z2, by rw [len]; omega⟩, go⟩⟩
  · refine eL_law [1443] ?_
    exact sr_ite (c := y = y) (fun _ => next nz2 FI2 FJ2 kp2 b2 hI2 c1 c2) (fun q => absurd rfl q)
set_option maxRecDepth 50000 in
theorem lw_c_both (hI : sp_Inv xs nz FI FJ kp) (hz : z = nI i) (hi : i + 6 ≤ Ls) (hb1 : 5 ≤ b.1) (hb2 : 142 ≤ b.2) (next : ∀ (nz : Nat) (FI : Nat → Nat → Int32) (FJ : Nat → Nat → Int64) (kp : Nat → Option Nat) (b' : Nat × Nat), sp_Inv xs nz FI FJ kp → b.1 ≤ b'.1 + 5 → b.2 ≤ b'.2 + 142 → sr_Go mL_law (d + 10) 1443 (lw_L z) [] b' (hp Ls nz FI FJ kp) P) : sr_Go mL_law (d + 10) 852 (lw_L z) [] b (hp Ls nz FI FJ kp) P := by
  have z1 : z + nI 1 = nI (i + 1) := by rw [hz, nI_add]
  refine eL_law [858] ?_
  refine ⟨i + 1, ⟨z1, show i + 1 < Ls by omega⟩, ?_⟩
  refine lw_int (mX := mX4_both) (mM := mX5_both) (pX := 858) (pM := 867) (iX := 97) (iM := 100) (As := [.int (FI 1000002 (i + 1))]) (by decide +kernel) (by decide +kernel) rfl rfl rfl rfl rfl rfl (show 2 ≤ _ by decide) (show 2 ≤ _ by decide) rfl (by decide) (by decide) rfl hb1 hb2 (q_both (d := d + 5) hI) (fun y h1 b' k7 len con go => ?_) (fun y nz2 FI2 FJ2 kp2 b2 hI2 c1 c2 => ?_)
  · rw [← con (i + 1) (by omega)] at go
    refine eL_law [867] ?_
    exact sr_cnd k7 ⟨i + 1, ⟨z1, by rw [len]; omega⟩, go⟩
  · refine eL_law [1443] ?_
    exact sr_ite (c := y = y) (fun _ => next nz2 FI2 FJ2 kp2 b2 hI2 c1 c2) (fun q => absurd rfl q)
set_option maxRecDepth 50000 in
theorem lw_c_apart (hI : sp_Inv xs nz FI FJ kp) (hz : z = nI i) (hi : i + 6 ≤ Ls) (hb1 : 5 ≤ b.1) (hb2 : 142 ≤ b.2) (next : ∀ (nz : Nat) (FI : Nat → Nat → Int32) (FJ : Nat → Nat → Int64) (kp : Nat → Option Nat) (b' : Nat × Nat), sp_Inv xs nz FI FJ kp → b.1 ≤ b'.1 + 5 → b.2 ≤ b'.2 + 142 → sr_Go mL_law (d + 10) 1443 (lw_L z) [] b' (hp Ls nz FI FJ kp) P) : sr_Go mL_law (d + 10) 875 (lw_L z) [] b (hp Ls nz FI FJ kp) P := by
  have z1 : z + nI 1 = nI (i + 1) := by rw [hz, nI_add]
  refine eL_law [881] ?_
  refine ⟨i + 1, ⟨z1, show i + 1 < Ls by omega⟩, ?_⟩
  refine lw_int (mX := mX4_apart) (mM := mX5_apart) (pX := 881) (pM := 890) (iX := 101) (iM := 104) (As := [.int (FI 1000002 (i + 1))]) (by decide +kernel) (by decide +kernel) rfl rfl rfl rfl rfl rfl (show 2 ≤ _ by decide) (show 2 ≤ _ by decide) rfl (by decide) (by decide) rfl hb1 hb2 (q_apart (d := d + 5) hI) (fun y h1 b' k7 len con go => ?_) (fun y nz2 FI2 FJ2 kp2 b2 hI2 c1 c2 => ?_)
  · rw [← con (i + 1) (by omega)] at go
    refine eL_law [890] ?_
    exact sr_cnd k7 ⟨i + 1, ⟨z1, by rw [len]; omega⟩, go⟩
  · refine eL_law [1443] ?_
    exact sr_ite (c := y = y) (fun _ => next nz2 FI2 FJ2 kp2 b2 hI2 c1 c2) (fun q => absurd rfl q)
set_option maxRecDepth 50000 in
theorem lw_c_has (hI : sp_Inv xs nz FI FJ kp) (hz : z = nI i) (hi : i + 6 ≤ Ls) (hb1 : 5 ≤ b.1) (hb2 : 142 ≤ b.2) (next : ∀ (nz : Nat) (FI : Nat → Nat → Int32) (FJ : Nat → Nat → Int64) (kp : Nat → Option Nat) (b' : Nat × Nat), sp_Inv xs nz FI FJ kp → b.1 ≤ b'.1 + 5 → b.2 ≤ b'.2 + 142 → sr_Go mL_law (d + 10) 1443 (lw_L z) [] b' (hp Ls nz FI FJ kp) P) : sr_Go mL_law (d + 10) 898 (lw_L z) [] b (hp Ls nz FI FJ kp) P := by
  have z1 : z + nI 1 = nI (i + 1) := by rw [hz, nI_add]
  refine eL_law [904] ?_
  refine ⟨i + 1, ⟨z1, show i + 1 < Ls by omega⟩, ?_⟩
  refine lw_int (mX := mX4_has) (mM := mX5_has) (pX := 904) (pM := 913) (iX := 105) (iM := 108) (As := [.int (FI 1000002 (i + 1))]) (by decide +kernel) (by decide +kernel) rfl rfl rfl rfl rfl rfl (show 2 ≤ _ by decide) (show 2 ≤ _ by decide) rfl (by decide) (by decide) rfl hb1 hb2 (q_has (d := d + 5) hI) (fun y h1 b' k7 len con go => ?_) (fun y nz2 FI2 FJ2 kp2 b2 hI2 c1 c2 => ?_)
  · rw [← con (i + 1) (by omega)] at go
    refine eL_law [913] ?_
    exact sr_cnd k7 ⟨i + 1, ⟨z1, by rw [len]; omega⟩, go⟩
  · refine eL_law [1443] ?_
    exact sr_ite (c := y = y) (fun _ => next nz2 FI2 FJ2 kp2 b2 hI2 c1 c2) (fun q => absurd rfl q)
set_option maxRecDepth 50000 in
theorem lw_c_fits (hI : sp_Inv xs nz FI FJ kp) (hz : z = nI i) (hi : i + 6 ≤ Ls) (hb1 : 5 ≤ b.1) (hb2 : 142 ≤ b.2) (next : ∀ (nz : Nat) (FI : Nat → Nat → Int32) (FJ : Nat → Nat → Int64) (kp : Nat → Option Nat) (b' : Nat × Nat), sp_Inv xs nz FI FJ kp → b.1 ≤ b'.1 + 5 → b.2 ≤ b'.2 + 142 → sr_Go mL_law (d + 10) 1443 (lw_L z) [] b' (hp Ls nz FI FJ kp) P) : sr_Go mL_law (d + 10) 921 (lw_L z) [] b (hp Ls nz FI FJ kp) P := by
  have z1 : z + nI 1 = nI (i + 1) := by rw [hz, nI_add]
  have z2 : z + nI 2 = nI (i + 2) := by rw [hz, nI_add]
  refine eL_law [932] ?_
  refine ⟨i + 1, ⟨z1, show i + 1 < Ls by omega⟩, ⟨i + 2, ⟨z2, show i + 2 < Ls by omega⟩, ?_⟩⟩
  refine lw_int (mX := mX4_fits) (mM := mX5_fits) (pX := 932) (pM := 946) (iX := 109) (iM := 112) (As := [.int (FI 1000002 (i + 1)), .int (FI 1000002 (i + 2))]) (by decide +kernel) (by decide +kernel) rfl rfl rfl rfl rfl rfl (show 3 ≤ _ by decide) (show 3 ≤ _ by decide) rfl (by decide) (by decide) rfl hb1 hb2 (q_fits (d := d + 5) hI) (fun y h1 b' k7 len con go => ?_) (fun y nz2 FI2 FJ2 kp2 b2 hI2 c1 c2 => ?_)
  · rw [← con (i + 1) (by omega), ← con (i + 2) (by omega)] at go
    refine eL_law [946] ?_
    exact sr_cnd k7 ⟨i + 1, ⟨z1, by rw [len]; omega⟩, sr_cnd k7 ⟨i + 2, ⟨z2, by rw [len]; omega⟩, go⟩⟩
  · refine eL_law [1443] ?_
    exact sr_ite (c := y = y) (fun _ => next nz2 FI2 FJ2 kp2 b2 hI2 c1 c2) (fun q => absurd rfl q)
set_option maxRecDepth 50000 in
theorem lw_c_looks (hI : sp_Inv xs nz FI FJ kp) (hz : z = nI i) (hi : i + 6 ≤ Ls) (hb1 : 5 ≤ b.1) (hb2 : 142 ≤ b.2) (next : ∀ (nz : Nat) (FI : Nat → Nat → Int32) (FJ : Nat → Nat → Int64) (kp : Nat → Option Nat) (b' : Nat × Nat), sp_Inv xs nz FI FJ kp → b.1 ≤ b'.1 + 5 → b.2 ≤ b'.2 + 142 → sr_Go mL_law (d + 10) 1443 (lw_L z) [] b' (hp Ls nz FI FJ kp) P) : sr_Go mL_law (d + 10) 954 (lw_L z) [] b (hp Ls nz FI FJ kp) P := by
  have z1 : z + nI 1 = nI (i + 1) := by rw [hz, nI_add]
  refine eL_law [960] ?_
  refine ⟨i + 1, ⟨z1, show i + 1 < Ls by omega⟩, ?_⟩
  refine lw_int (mX := mX4_looks) (mM := mX5_looks) (pX := 960) (pM := 969) (iX := 113) (iM := 116) (As := [.int (FI 1000002 (i + 1))]) (by decide +kernel) (by decide +kernel) rfl rfl rfl rfl rfl rfl (show 2 ≤ _ by decide) (show 2 ≤ _ by decide) rfl (by decide) (by decide) rfl hb1 hb2 (q_looks (d := d + 5) hI) (fun y h1 b' k7 len con go => ?_) (fun y nz2 FI2 FJ2 kp2 b2 hI2 c1 c2 => ?_)
  · rw [← con (i + 1) (by omega)] at go
    refine eL_law [969] ?_
    exact sr_cnd k7 ⟨i + 1, ⟨z1, by rw [len]; omega⟩, go⟩
  · refine eL_law [1443] ?_
    exact sr_ite (c := y = y) (fun _ => next nz2 FI2 FJ2 kp2 b2 hI2 c1 c2) (fun q => absurd rfl q)
set_option maxRecDepth 50000 in
theorem lw_c_drawer (hI : sp_Inv xs nz FI FJ kp) (hz : z = nI i) (hi : i + 6 ≤ Ls) (hb1 : 5 ≤ b.1) (hb2 : 142 ≤ b.2) (next : ∀ (nz : Nat) (FI : Nat → Nat → Int32) (FJ : Nat → Nat → Int64) (kp : Nat → Option Nat) (b' : Nat × Nat), sp_Inv xs nz FI FJ kp → b.1 ≤ b'.1 + 5 → b.2 ≤ b'.2 + 142 → sr_Go mL_law (d + 10) 1443 (lw_L z) [] b' (hp Ls nz FI FJ kp) P) : sr_Go mL_law (d + 10) 977 (lw_L z) [] b (hp Ls nz FI FJ kp) P := by
  have z1 : z + nI 1 = nI (i + 1) := by rw [hz, nI_add]
  refine eL_law [983] ?_
  refine ⟨i + 1, ⟨z1, show i + 1 < Ls by omega⟩, ?_⟩
  refine lw_int (mX := mX4_drawer) (mM := mX5_drawer) (pX := 983) (pM := 992) (iX := 117) (iM := 120) (As := [.int (FI 1000002 (i + 1))]) (by decide +kernel) (by decide +kernel) rfl rfl rfl rfl rfl rfl (show 2 ≤ _ by decide) (show 2 ≤ _ by decide) rfl (by decide) (by decide) rfl hb1 hb2 (q_drawer (d := d + 5) hI) (fun y h1 b' k7 len con go => ?_) (fun y nz2 FI2 FJ2 kp2 b2 hI2 c1 c2 => ?_)
  · rw [← con (i + 1) (by omega)] at go
    refine eL_law [992] ?_
    exact sr_cnd k7 ⟨i + 1, ⟨z1, by rw [len]; omega⟩, go⟩
  · refine eL_law [1443] ?_
    exact sr_ite (c := y = y) (fun _ => next nz2 FI2 FJ2 kp2 b2 hI2 c1 c2) (fun q => absurd rfl q)
set_option maxRecDepth 50000 in
theorem lw_c_lives (hI : sp_Inv xs nz FI FJ kp) (hz : z = nI i) (hi : i + 6 ≤ Ls) (hb1 : 5 ≤ b.1) (hb2 : 142 ≤ b.2) (next : ∀ (nz : Nat) (FI : Nat → Nat → Int32) (FJ : Nat → Nat → Int64) (kp : Nat → Option Nat) (b' : Nat × Nat), sp_Inv xs nz FI FJ kp → b.1 ≤ b'.1 + 5 → b.2 ≤ b'.2 + 142 → sr_Go mL_law (d + 10) 1443 (lw_L z) [] b' (hp Ls nz FI FJ kp) P) : sr_Go mL_law (d + 10) 1000 (lw_L z) [] b (hp Ls nz FI FJ kp) P := by
  have z1 : z + nI 1 = nI (i + 1) := by rw [hz, nI_add]
  refine eL_law [1006] ?_
  refine ⟨i + 1, ⟨z1, show i + 1 < Ls by omega⟩, ?_⟩
  refine lw_int (mX := mX4_lives) (mM := mX5_lives) (pX := 1006) (pM := 1015) (iX := 121) (iM := 124) (As := [.int (FI 1000002 (i + 1))]) (by decide +kernel) (by decide +kernel) rfl rfl rfl rfl rfl rfl (show 2 ≤ _ by decide) (show 2 ≤ _ by decide) rfl (by decide) (by decide) rfl hb1 hb2 (q_lives (d := d + 5) hI) (fun y h1 b' k7 len con go => ?_) (fun y nz2 FI2 FJ2 kp2 b2 hI2 c1 c2 => ?_)
  · rw [← con (i + 1) (by omega)] at go
    refine eL_law [1015] ?_
    exact sr_cnd k7 ⟨i + 1, ⟨z1, by rw [len]; omega⟩, go⟩
  · refine eL_law [1443] ?_
    exact sr_ite (c := y = y) (fun _ => next nz2 FI2 FJ2 kp2 b2 hI2 c1 c2) (fun q => absurd rfl q)
set_option maxRecDepth 50000 in
theorem lw_c_nearest (hI : sp_Inv xs nz FI FJ kp) (hz : z = nI i) (hi : i + 6 ≤ Ls) (hb1 : 5 ≤ b.1) (hb2 : 142 ≤ b.2) (next : ∀ (nz : Nat) (FI : Nat → Nat → Int32) (FJ : Nat → Nat → Int64) (kp : Nat → Option Nat) (b' : Nat × Nat), sp_Inv xs nz FI FJ kp → b.1 ≤ b'.1 + 5 → b.2 ≤ b'.2 + 142 → sr_Go mL_law (d + 10) 1443 (lw_L z) [] b' (hp Ls nz FI FJ kp) P) : sr_Go mL_law (d + 10) 1023 (lw_L z) [] b (hp Ls nz FI FJ kp) P := by
  have z1 : z + nI 1 = nI (i + 1) := by rw [hz, nI_add]
  have z2 : z + nI 2 = nI (i + 2) := by rw [hz, nI_add]
  refine eL_law [1034] ?_
  refine ⟨i + 1, ⟨z1, show i + 1 < Ls by omega⟩, ⟨i + 2, ⟨z2, show i + 2 < Ls by omega⟩, ?_⟩⟩
  refine lw_int (mX := mX4_nearest) (mM := mX5_nearest) (pX := 1034) (pM := 1048) (iX := 125) (iM := 128) (As := [.int (FI 1000002 (i + 1)), .int (FI 1000002 (i + 2))]) (by decide +kernel) (by decide +kernel) rfl rfl rfl rfl rfl rfl (show 3 ≤ _ by decide) (show 3 ≤ _ by decide) rfl (by decide) (by decide) rfl hb1 hb2 (q_nearest (d := d + 5) hI) (fun y h1 b' k7 len con go => ?_) (fun y nz2 FI2 FJ2 kp2 b2 hI2 c1 c2 => ?_)
  · rw [← con (i + 1) (by omega), ← con (i + 2) (by omega)] at go
    refine eL_law [1048] ?_
    exact sr_cnd k7 ⟨i + 1, ⟨z1, by rw [len]; omega⟩, sr_cnd k7 ⟨i + 2, ⟨z2, by rw [len]; omega⟩, go⟩⟩
  · refine eL_law [1443] ?_
    exact sr_ite (c := y = y) (fun _ => next nz2 FI2 FJ2 kp2 b2 hI2 c1 c2) (fun q => absurd rfl q)
set_option maxRecDepth 50000 in
theorem lw_c_twins (hI : sp_Inv xs nz FI FJ kp) (hz : z = nI i) (hi : i + 6 ≤ Ls) (hb1 : 5 ≤ b.1) (hb2 : 142 ≤ b.2) (next : ∀ (nz : Nat) (FI : Nat → Nat → Int32) (FJ : Nat → Nat → Int64) (kp : Nat → Option Nat) (b' : Nat × Nat), sp_Inv xs nz FI FJ kp → b.1 ≤ b'.1 + 5 → b.2 ≤ b'.2 + 142 → sr_Go mL_law (d + 10) 1443 (lw_L z) [] b' (hp Ls nz FI FJ kp) P) : sr_Go mL_law (d + 10) 1056 (lw_L z) [] b (hp Ls nz FI FJ kp) P := by
  have z1 : z + nI 1 = nI (i + 1) := by rw [hz, nI_add]
  refine eL_law [1062] ?_
  refine ⟨i + 1, ⟨z1, show i + 1 < Ls by omega⟩, ?_⟩
  refine lw_int (mX := mX4_twins) (mM := mX5_twins) (pX := 1062) (pM := 1071) (iX := 129) (iM := 132) (As := [.int (FI 1000002 (i + 1))]) (by decide +kernel) (by decide +kernel) rfl rfl rfl rfl rfl rfl (show 2 ≤ _ by decide) (show 2 ≤ _ by decide) rfl (by decide) (by decide) rfl hb1 hb2 (q_twins (d := d + 5) hI) (fun y h1 b' k7 len con go => ?_) (fun y nz2 FI2 FJ2 kp2 b2 hI2 c1 c2 => ?_)
  · rw [← con (i + 1) (by omega)] at go
    refine eL_law [1071] ?_
    exact sr_cnd k7 ⟨i + 1, ⟨z1, by rw [len]; omega⟩, go⟩
  · refine eL_law [1443] ?_
    exact sr_ite (c := y = y) (fun _ => next nz2 FI2 FJ2 kp2 b2 hI2 c1 c2) (fun q => absurd rfl q)
set_option maxRecDepth 50000 in
theorem lw_c_pairs (hI : sp_Inv xs nz FI FJ kp) (hz : z = nI i) (hi : i + 6 ≤ Ls) (hb1 : 5 ≤ b.1) (hb2 : 142 ≤ b.2) (next : ∀ (nz : Nat) (FI : Nat → Nat → Int32) (FJ : Nat → Nat → Int64) (kp : Nat → Option Nat) (b' : Nat × Nat), sp_Inv xs nz FI FJ kp → b.1 ≤ b'.1 + 5 → b.2 ≤ b'.2 + 142 → sr_Go mL_law (d + 10) 1443 (lw_L z) [] b' (hp Ls nz FI FJ kp) P) : sr_Go mL_law (d + 10) 1079 (lw_L z) [] b (hp Ls nz FI FJ kp) P := by
  refine eL_law [1080] ?_
  refine lw_int (mX := mX4_pairs) (mM := mX5_pairs) (pX := 1080) (pM := 1084) (iX := 133) (iM := 137) (As := []) (by decide +kernel) (by decide +kernel) rfl rfl rfl rfl rfl rfl (show 1 ≤ _ by decide) (show 1 ≤ _ by decide) rfl (by decide) (by decide) rfl hb1 hb2 (q_pairs (d := d + 5) hI) (fun y h1 b' k7 len con go => ?_) (fun y nz2 FI2 FJ2 kp2 b2 hI2 c1 c2 => ?_)
  · exact eL_law [1084] go
  · refine eL_law [1443] ?_
    exact sr_ite (c := y = y) (fun _ => next nz2 FI2 FJ2 kp2 b2 hI2 c1 c2) (fun q => absurd rfl q)
set_option maxRecDepth 50000 in
theorem lw_c_ring (hI : sp_Inv xs nz FI FJ kp) (hz : z = nI i) (hi : i + 6 ≤ Ls) (hb1 : 5 ≤ b.1) (hb2 : 142 ≤ b.2) (next : ∀ (nz : Nat) (FI : Nat → Nat → Int32) (FJ : Nat → Nat → Int64) (kp : Nat → Option Nat) (b' : Nat × Nat), sp_Inv xs nz FI FJ kp → b.1 ≤ b'.1 + 5 → b.2 ≤ b'.2 + 142 → sr_Go mL_law (d + 10) 1443 (lw_L z) [] b' (hp Ls nz FI FJ kp) P) : sr_Go mL_law (d + 10) 1092 (lw_L z) [] b (hp Ls nz FI FJ kp) P := by
  refine eL_law [1093] ?_
  refine lw_int (mX := mX4_ring) (mM := mX5_ring) (pX := 1093) (pM := 1097) (iX := 138) (iM := 141) (As := []) (by decide +kernel) (by decide +kernel) rfl rfl rfl rfl rfl rfl (show 1 ≤ _ by decide) (show 1 ≤ _ by decide) rfl (by decide) (by decide) rfl hb1 hb2 (q_ring (d := d + 0) hI) (fun y h1 b' k7 len con go => ?_) (fun y nz2 FI2 FJ2 kp2 b2 hI2 c1 c2 => ?_)
  · exact eL_law [1097] go
  · refine eL_law [1443] ?_
    exact sr_ite (c := y = y) (fun _ => next nz2 FI2 FJ2 kp2 b2 hI2 c1 c2) (fun q => absurd rfl q)
set_option maxRecDepth 50000 in
theorem lw_c_who (hI : sp_Inv xs nz FI FJ kp) (hz : z = nI i) (hi : i + 6 ≤ Ls) (hb1 : 5 ≤ b.1) (hb2 : 142 ≤ b.2) (next : ∀ (nz : Nat) (FI : Nat → Nat → Int32) (FJ : Nat → Nat → Int64) (kp : Nat → Option Nat) (b' : Nat × Nat), sp_Inv xs nz FI FJ kp → b.1 ≤ b'.1 + 5 → b.2 ≤ b'.2 + 142 → sr_Go mL_law (d + 10) 1443 (lw_L z) [] b' (hp Ls nz FI FJ kp) P) : sr_Go mL_law (d + 10) 1105 (lw_L z) [] b (hp Ls nz FI FJ kp) P := by
  have z1 : z + nI 1 = nI (i + 1) := by rw [hz, nI_add]
  have z2 : z + nI 2 = nI (i + 2) := by rw [hz, nI_add]
  refine eL_law [1116] ?_
  refine ⟨i + 1, ⟨z1, show i + 1 < Ls by omega⟩, ⟨i + 2, ⟨z2, show i + 2 < Ls by omega⟩, ?_⟩⟩
  refine lw_int (mX := mX4_who) (mM := mX5_who) (pX := 1116) (pM := 1130) (iX := 142) (iM := 145) (As := [.int (FI 1000002 (i + 1)), .int (FI 1000002 (i + 2))]) (by decide +kernel) (by decide +kernel) rfl rfl rfl rfl rfl rfl (show 3 ≤ _ by decide) (show 3 ≤ _ by decide) rfl (by decide) (by decide) rfl hb1 hb2 (q_who (d := d + 5) hI) (fun y h1 b' k7 len con go => ?_) (fun y nz2 FI2 FJ2 kp2 b2 hI2 c1 c2 => ?_)
  · rw [← con (i + 1) (by omega), ← con (i + 2) (by omega)] at go
    refine eL_law [1130] ?_
    exact sr_cnd k7 ⟨i + 1, ⟨z1, by rw [len]; omega⟩, sr_cnd k7 ⟨i + 2, ⟨z2, by rw [len]; omega⟩, go⟩⟩
  · refine eL_law [1443] ?_
    exact sr_ite (c := y = y) (fun _ => next nz2 FI2 FJ2 kp2 b2 hI2 c1 c2) (fun q => absurd rfl q)
set_option maxRecDepth 50000 in
theorem lw_c_marks (hI : sp_Inv xs nz FI FJ kp) (hz : z = nI i) (hi : i + 6 ≤ Ls) (hb1 : 5 ≤ b.1) (hb2 : 142 ≤ b.2) (next : ∀ (nz : Nat) (FI : Nat → Nat → Int32) (FJ : Nat → Nat → Int64) (kp : Nat → Option Nat) (b' : Nat × Nat), sp_Inv xs nz FI FJ kp → b.1 ≤ b'.1 + 5 → b.2 ≤ b'.2 + 142 → sr_Go mL_law (d + 10) 1443 (lw_L z) [] b' (hp Ls nz FI FJ kp) P) : sr_Go mL_law (d + 10) 1138 (lw_L z) [] b (hp Ls nz FI FJ kp) P := by
  refine eL_law [1139] ?_
  refine lw_int (mX := mX4_marks) (mM := mX5_marks) (pX := 1139) (pM := 1143) (iX := 146) (iM := 149) (As := []) (by decide +kernel) (by decide +kernel) rfl rfl rfl rfl rfl rfl (show 1 ≤ _ by decide) (show 1 ≤ _ by decide) rfl (by decide) (by decide) rfl hb1 hb2 (q_marks (d := d + 5) hI) (fun y h1 b' k7 len con go => ?_) (fun y nz2 FI2 FJ2 kp2 b2 hI2 c1 c2 => ?_)
  · exact eL_law [1143] go
  · refine eL_law [1443] ?_
    exact sr_ite (c := y = y) (fun _ => next nz2 FI2 FJ2 kp2 b2 hI2 c1 c2) (fun q => absurd rfl q)
set_option maxRecDepth 50000 in
theorem lw_c_bill (hI : sp_Inv xs nz FI FJ kp) (hz : z = nI i) (hi : i + 6 ≤ Ls) (hb1 : 5 ≤ b.1) (hb2 : 142 ≤ b.2) (next : ∀ (nz : Nat) (FI : Nat → Nat → Int32) (FJ : Nat → Nat → Int64) (kp : Nat → Option Nat) (b' : Nat × Nat), sp_Inv xs nz FI FJ kp → b.1 ≤ b'.1 + 5 → b.2 ≤ b'.2 + 142 → sr_Go mL_law (d + 10) 1443 (lw_L z) [] b' (hp Ls nz FI FJ kp) P) : sr_Go mL_law (d + 10) 1151 (lw_L z) [] b (hp Ls nz FI FJ kp) P := by
  have z1 : z + nI 1 = nI (i + 1) := by rw [hz, nI_add]
  have z2 : z + nI 2 = nI (i + 2) := by rw [hz, nI_add]
  refine eL_law [1162] ?_
  refine ⟨i + 1, ⟨z1, show i + 1 < Ls by omega⟩, ⟨i + 2, ⟨z2, show i + 2 < Ls by omega⟩, ?_⟩⟩
  refine lw_int (mX := mX4_bill) (mM := mX5_bill) (pX := 1162) (pM := 1176) (iX := 150) (iM := 153) (As := [.int (FI 1000002 (i + 1)), .int (FI 1000002 (i + 2))]) (by decide +kernel) (by decide +kernel) rfl rfl rfl rfl rfl rfl (show 3 ≤ _ by decide) (show 3 ≤ _ by decide) rfl (by decide) (by decide) rfl hb1 hb2 (q_bill (d := d + 4) hI) (fun y h1 b' k7 len con go => ?_) (fun y nz2 FI2 FJ2 kp2 b2 hI2 c1 c2 => ?_)
  · rw [← con (i + 1) (by omega), ← con (i + 2) (by omega)] at go
    refine eL_law [1176] ?_
    exact sr_cnd k7 ⟨i + 1, ⟨z1, by rw [len]; omega⟩, sr_cnd k7 ⟨i + 2, ⟨z2, by rw [len]; omega⟩, go⟩⟩
  · refine eL_law [1443] ?_
    exact sr_ite (c := y = y) (fun _ => next nz2 FI2 FJ2 kp2 b2 hI2 c1 c2) (fun q => absurd rfl q)
set_option maxRecDepth 50000 in
theorem lw_c_pays (hI : sp_Inv xs nz FI FJ kp) (hz : z = nI i) (hi : i + 6 ≤ Ls) (hb1 : 5 ≤ b.1) (hb2 : 142 ≤ b.2) (next : ∀ (nz : Nat) (FI : Nat → Nat → Int32) (FJ : Nat → Nat → Int64) (kp : Nat → Option Nat) (b' : Nat × Nat), sp_Inv xs nz FI FJ kp → b.1 ≤ b'.1 + 5 → b.2 ≤ b'.2 + 142 → sr_Go mL_law (d + 10) 1443 (lw_L z) [] b' (hp Ls nz FI FJ kp) P) : sr_Go mL_law (d + 10) 1184 (lw_L z) [] b (hp Ls nz FI FJ kp) P := by
  have z1 : z + nI 1 = nI (i + 1) := by rw [hz, nI_add]
  refine eL_law [1190] ?_
  refine ⟨i + 1, ⟨z1, show i + 1 < Ls by omega⟩, ?_⟩
  refine lw_int (mX := mX4_pays) (mM := mX5_pays) (pX := 1190) (pM := 1199) (iX := 154) (iM := 157) (As := [.int (FI 1000002 (i + 1))]) (by decide +kernel) (by decide +kernel) rfl rfl rfl rfl rfl rfl (show 2 ≤ _ by decide) (show 2 ≤ _ by decide) rfl (by decide) (by decide) rfl hb1 hb2 (q_pays (d := d + 4) hI) (fun y h1 b' k7 len con go => ?_) (fun y nz2 FI2 FJ2 kp2 b2 hI2 c1 c2 => ?_)
  · rw [← con (i + 1) (by omega)] at go
    refine eL_law [1199] ?_
    exact sr_cnd k7 ⟨i + 1, ⟨z1, by rw [len]; omega⟩, go⟩
  · refine eL_law [1443] ?_
    exact sr_ite (c := y = y) (fun _ => next nz2 FI2 FJ2 kp2 b2 hI2 c1 c2) (fun q => absurd rfl q)
set_option maxRecDepth 50000 in
theorem lw_c_cheapest (hI : sp_Inv xs nz FI FJ kp) (hz : z = nI i) (hi : i + 6 ≤ Ls) (hb1 : 5 ≤ b.1) (hb2 : 142 ≤ b.2) (next : ∀ (nz : Nat) (FI : Nat → Nat → Int32) (FJ : Nat → Nat → Int64) (kp : Nat → Option Nat) (b' : Nat × Nat), sp_Inv xs nz FI FJ kp → b.1 ≤ b'.1 + 5 → b.2 ≤ b'.2 + 142 → sr_Go mL_law (d + 10) 1443 (lw_L z) [] b' (hp Ls nz FI FJ kp) P) : sr_Go mL_law (d + 10) 1207 (lw_L z) [] b (hp Ls nz FI FJ kp) P := by
  have z1 : z + nI 1 = nI (i + 1) := by rw [hz, nI_add]
  have z2 : z + nI 2 = nI (i + 2) := by rw [hz, nI_add]
  refine eL_law [1218] ?_
  refine ⟨i + 1, ⟨z1, show i + 1 < Ls by omega⟩, ⟨i + 2, ⟨z2, show i + 2 < Ls by omega⟩, ?_⟩⟩
  refine lw_int (mX := mX4_cheapest) (mM := mX5_cheapest) (pX := 1218) (pM := 1232) (iX := 158) (iM := 161) (As := [.int (FI 1000002 (i + 1)), .int (FI 1000002 (i + 2))]) (by decide +kernel) (by decide +kernel) rfl rfl rfl rfl rfl rfl (show 3 ≤ _ by decide) (show 3 ≤ _ by decide) rfl (by decide) (by decide) rfl hb1 hb2 (q_cheapest (d := d + 4) hI) (fun y h1 b' k7 len con go => ?_) (fun y nz2 FI2 FJ2 kp2 b2 hI2 c1 c2 => ?_)
  · rw [← con (i + 1) (by omega), ← con (i + 2) (by omega)] at go
    refine eL_law [1232] ?_
    exact sr_cnd k7 ⟨i + 1, ⟨z1, by rw [len]; omega⟩, sr_cnd k7 ⟨i + 2, ⟨z2, by rw [len]; omega⟩, go⟩⟩
  · refine eL_law [1443] ?_
    exact sr_ite (c := y = y) (fun _ => next nz2 FI2 FJ2 kp2 b2 hI2 c1 c2) (fun q => absurd rfl q)
set_option maxRecDepth 50000 in
theorem lw_c_spread (hI : sp_Inv xs nz FI FJ kp) (hz : z = nI i) (hi : i + 6 ≤ Ls) (hb1 : 5 ≤ b.1) (hb2 : 142 ≤ b.2) (next : ∀ (nz : Nat) (FI : Nat → Nat → Int32) (FJ : Nat → Nat → Int64) (kp : Nat → Option Nat) (b' : Nat × Nat), sp_Inv xs nz FI FJ kp → b.1 ≤ b'.1 + 5 → b.2 ≤ b'.2 + 142 → sr_Go mL_law (d + 10) 1443 (lw_L z) [] b' (hp Ls nz FI FJ kp) P) : sr_Go mL_law (d + 10) 1240 (lw_L z) [] b (hp Ls nz FI FJ kp) P := by
  have z1 : z + nI 1 = nI (i + 1) := by rw [hz, nI_add]
  refine eL_law [1246] ?_
  refine ⟨i + 1, ⟨z1, show i + 1 < Ls by omega⟩, ?_⟩
  refine lw_int (mX := mX4_spread) (mM := mX5_spread) (pX := 1246) (pM := 1255) (iX := 162) (iM := 165) (As := [.int (FI 1000002 (i + 1))]) (by decide +kernel) (by decide +kernel) rfl rfl rfl rfl rfl rfl (show 2 ≤ _ by decide) (show 2 ≤ _ by decide) rfl (by decide) (by decide) rfl hb1 hb2 (q_spread (d := d + 5) hI) (fun y h1 b' k7 len con go => ?_) (fun y nz2 FI2 FJ2 kp2 b2 hI2 c1 c2 => ?_)
  · rw [← con (i + 1) (by omega)] at go
    refine eL_law [1255] ?_
    exact sr_cnd k7 ⟨i + 1, ⟨z1, by rw [len]; omega⟩, go⟩
  · refine eL_law [1443] ?_
    exact sr_ite (c := y = y) (fun _ => next nz2 FI2 FJ2 kp2 b2 hI2 c1 c2) (fun q => absurd rfl q)
set_option maxRecDepth 50000 in
theorem lw_c_odds (hI : sp_Inv xs nz FI FJ kp) (hz : z = nI i) (hi : i + 6 ≤ Ls) (hb1 : 5 ≤ b.1) (hb2 : 142 ≤ b.2) (next : ∀ (nz : Nat) (FI : Nat → Nat → Int32) (FJ : Nat → Nat → Int64) (kp : Nat → Option Nat) (b' : Nat × Nat), sp_Inv xs nz FI FJ kp → b.1 ≤ b'.1 + 5 → b.2 ≤ b'.2 + 142 → sr_Go mL_law (d + 10) 1443 (lw_L z) [] b' (hp Ls nz FI FJ kp) P) : sr_Go mL_law (d + 10) 1263 (lw_L z) [] b (hp Ls nz FI FJ kp) P := by
  have z1 : z + nI 1 = nI (i + 1) := by rw [hz, nI_add]
  have z2 : z + nI 2 = nI (i + 2) := by rw [hz, nI_add]
  refine eL_law [1274] ?_
  refine ⟨i + 1, ⟨z1, show i + 1 < Ls by omega⟩, ⟨i + 2, ⟨z2, show i + 2 < Ls by omega⟩, ?_⟩⟩
  refine lw_int (mX := mX4_odds) (mM := mX5_odds) (pX := 1274) (pM := 1288) (iX := 166) (iM := 169) (As := [.int (FI 1000002 (i + 1)), .int (FI 1000002 (i + 2))]) (by decide +kernel) (by decide +kernel) rfl rfl rfl rfl rfl rfl (show 3 ≤ _ by decide) (show 3 ≤ _ by decide) rfl (by decide) (by decide) rfl hb1 hb2 (q_odds (d := d + 5) hI) (fun y h1 b' k7 len con go => ?_) (fun y nz2 FI2 FJ2 kp2 b2 hI2 c1 c2 => ?_)
  · rw [← con (i + 1) (by omega), ← con (i + 2) (by omega)] at go
    refine eL_law [1288] ?_
    exact sr_cnd k7 ⟨i + 1, ⟨z1, by rw [len]; omega⟩, sr_cnd k7 ⟨i + 2, ⟨z2, by rw [len]; omega⟩, go⟩⟩
  · refine eL_law [1443] ?_
    exact sr_ite (c := y = y) (fun _ => next nz2 FI2 FJ2 kp2 b2 hI2 c1 c2) (fun q => absurd rfl q)
set_option maxRecDepth 50000 in
theorem lw_c_lots (hI : sp_Inv xs nz FI FJ kp) (hz : z = nI i) (hi : i + 6 ≤ Ls) (hb1 : 5 ≤ b.1) (hb2 : 142 ≤ b.2) (next : ∀ (nz : Nat) (FI : Nat → Nat → Int32) (FJ : Nat → Nat → Int64) (kp : Nat → Option Nat) (b' : Nat × Nat), sp_Inv xs nz FI FJ kp → b.1 ≤ b'.1 + 5 → b.2 ≤ b'.2 + 142 → sr_Go mL_law (d + 10) 1443 (lw_L z) [] b' (hp Ls nz FI FJ kp) P) : sr_Go mL_law (d + 10) 1296 (lw_L z) [] b (hp Ls nz FI FJ kp) P := by
  have z1 : z + nI 1 = nI (i + 1) := by rw [hz, nI_add]
  have z2 : z + nI 2 = nI (i + 2) := by rw [hz, nI_add]
  refine eL_law [1307] ?_
  refine ⟨i + 1, ⟨z1, show i + 1 < Ls by omega⟩, ⟨i + 2, ⟨z2, show i + 2 < Ls by omega⟩, ?_⟩⟩
  refine lw_int (mX := mX4_lots) (mM := mX5_lots) (pX := 1307) (pM := 1321) (iX := 170) (iM := 173) (As := [.int (FI 1000002 (i + 1)), .int (FI 1000002 (i + 2))]) (by decide +kernel) (by decide +kernel) rfl rfl rfl rfl rfl rfl (show 3 ≤ _ by decide) (show 3 ≤ _ by decide) rfl (by decide) (by decide) rfl hb1 hb2 (q_lots (d := d + 5) hI) (fun y h1 b' k7 len con go => ?_) (fun y nz2 FI2 FJ2 kp2 b2 hI2 c1 c2 => ?_)
  · rw [← con (i + 1) (by omega), ← con (i + 2) (by omega)] at go
    refine eL_law [1321] ?_
    exact sr_cnd k7 ⟨i + 1, ⟨z1, by rw [len]; omega⟩, sr_cnd k7 ⟨i + 2, ⟨z2, by rw [len]; omega⟩, go⟩⟩
  · refine eL_law [1443] ?_
    exact sr_ite (c := y = y) (fun _ => next nz2 FI2 FJ2 kp2 b2 hI2 c1 c2) (fun q => absurd rfl q)
set_option maxRecDepth 50000 in
theorem lw_c_asked (hI : sp_Inv xs nz FI FJ kp) (hz : z = nI i) (hi : i + 6 ≤ Ls) (hb1 : 5 ≤ b.1) (hb2 : 142 ≤ b.2) (next : ∀ (nz : Nat) (FI : Nat → Nat → Int32) (FJ : Nat → Nat → Int64) (kp : Nat → Option Nat) (b' : Nat × Nat), sp_Inv xs nz FI FJ kp → b.1 ≤ b'.1 + 5 → b.2 ≤ b'.2 + 142 → sr_Go mL_law (d + 10) 1443 (lw_L z) [] b' (hp Ls nz FI FJ kp) P) : sr_Go mL_law (d + 10) 1329 (lw_L z) [] b (hp Ls nz FI FJ kp) P := by
  refine eL_law [1330] ?_
  refine lw_int (mX := mX4_asked) (mM := mX5_asked) (pX := 1330) (pM := 1334) (iX := 174) (iM := 177) (As := []) (by decide +kernel) (by decide +kernel) rfl rfl rfl rfl rfl rfl (show 1 ≤ _ by decide) (show 1 ≤ _ by decide) rfl (by decide) (by decide) rfl hb1 hb2 (q_asked (d := d + 9) hI) (fun y h1 b' k7 len con go => ?_) (fun y nz2 FI2 FJ2 kp2 b2 hI2 c1 c2 => ?_)
  · exact eL_law [1334] go
  · refine eL_law [1443] ?_
    exact sr_ite (c := y = y) (fun _ => next nz2 FI2 FJ2 kp2 b2 hI2 c1 c2) (fun q => absurd rfl q)
set_option maxRecDepth 50000 in
theorem lw_c_upper (hI : sp_Inv xs nz FI FJ kp) (hz : z = nI i) (hi : i + 6 ≤ Ls) (hb1 : 5 ≤ b.1) (hb2 : 142 ≤ b.2) (next : ∀ (nz : Nat) (FI : Nat → Nat → Int32) (FJ : Nat → Nat → Int64) (kp : Nat → Option Nat) (b' : Nat × Nat), sp_Inv xs nz FI FJ kp → b.1 ≤ b'.1 + 5 → b.2 ≤ b'.2 + 142 → sr_Go mL_law (d + 10) 1443 (lw_L z) [] b' (hp Ls nz FI FJ kp) P) : sr_Go mL_law (d + 10) 1342 (lw_L z) [] b (hp Ls nz FI FJ kp) P := by
  refine eL_law [1343] ?_
  refine lw_long (mX := mX4_upper) (mM := mX5_upper) (pX := 1343) (pM := 1347) (iX := 178) (iM := 182) (As := []) (by decide +kernel) (by decide +kernel) rfl rfl rfl rfl rfl rfl (show 1 ≤ _ by decide) (show 1 ≤ _ by decide) rfl (by decide) (by decide) rfl hb1 hb2 (q_upper (d := d + 9) hI) (fun y h1 b' k7 len con go => ?_) (fun y nz2 FI2 FJ2 kp2 b2 hI2 c1 c2 => ?_)
  · exact eL_law [1347] go
  · refine eL_law [1443] ?_
    exact sr_ite (c := lg_cmp y y = 0) (fun _ => next nz2 FI2 FJ2 kp2 b2 hI2 c1 c2) (fun q => absurd (lg_self y) q)
set_option maxRecDepth 50000 in
theorem lw_c_lower (hI : sp_Inv xs nz FI FJ kp) (hz : z = nI i) (hi : i + 6 ≤ Ls) (hb1 : 5 ≤ b.1) (hb2 : 142 ≤ b.2) (next : ∀ (nz : Nat) (FI : Nat → Nat → Int32) (FJ : Nat → Nat → Int64) (kp : Nat → Option Nat) (b' : Nat × Nat), sp_Inv xs nz FI FJ kp → b.1 ≤ b'.1 + 5 → b.2 ≤ b'.2 + 142 → sr_Go mL_law (d + 10) 1443 (lw_L z) [] b' (hp Ls nz FI FJ kp) P) : sr_Go mL_law (d + 10) 1356 (lw_L z) [] b (hp Ls nz FI FJ kp) P := by
  refine eL_law [1357] ?_
  refine lw_long (mX := mX4_lower) (mM := mX5_lower) (pX := 1357) (pM := 1361) (iX := 183) (iM := 186) (As := []) (by decide +kernel) (by decide +kernel) rfl rfl rfl rfl rfl rfl (show 1 ≤ _ by decide) (show 1 ≤ _ by decide) rfl (by decide) (by decide) rfl hb1 hb2 (q_lower (d := d + 9) hI) (fun y h1 b' k7 len con go => ?_) (fun y nz2 FI2 FJ2 kp2 b2 hI2 c1 c2 => ?_)
  · exact eL_law [1361] go
  · refine eL_law [1443] ?_
    exact sr_ite (c := lg_cmp y y = 0) (fun _ => next nz2 FI2 FJ2 kp2 b2 hI2 c1 c2) (fun q => absurd (lg_self y) q)
set_option maxRecDepth 50000 in
theorem lw_c_count (hI : sp_Inv xs nz FI FJ kp) (hz : z = nI i) (hi : i + 6 ≤ Ls) (hb1 : 5 ≤ b.1) (hb2 : 142 ≤ b.2) (next : ∀ (nz : Nat) (FI : Nat → Nat → Int32) (FJ : Nat → Nat → Int64) (kp : Nat → Option Nat) (b' : Nat × Nat), sp_Inv xs nz FI FJ kp → b.1 ≤ b'.1 + 5 → b.2 ≤ b'.2 + 142 → sr_Go mL_law (d + 10) 1443 (lw_L z) [] b' (hp Ls nz FI FJ kp) P) : sr_Go mL_law (d + 10) 1370 (lw_L z) [] b (hp Ls nz FI FJ kp) P := by
  have z1 : z + nI 1 = nI (i + 1) := by rw [hz, nI_add]
  refine eL_law [1376] ?_
  refine ⟨i + 1, ⟨z1, show i + 1 < Ls by omega⟩, ?_⟩
  refine lw_int (mX := mX4_count) (mM := mX5_count) (pX := 1376) (pM := 1385) (iX := 187) (iM := 190) (As := [.int (FI 1000002 (i + 1))]) (by decide +kernel) (by decide +kernel) rfl rfl rfl rfl rfl rfl (show 2 ≤ _ by decide) (show 2 ≤ _ by decide) rfl (by decide) (by decide) rfl hb1 hb2 (q_count (d := d + 5) hI) (fun y h1 b' k7 len con go => ?_) (fun y nz2 FI2 FJ2 kp2 b2 hI2 c1 c2 => ?_)
  · rw [← con (i + 1) (by omega)] at go
    refine eL_law [1385] ?_
    exact sr_cnd k7 ⟨i + 1, ⟨z1, by rw [len]; omega⟩, go⟩
  · refine eL_law [1443] ?_
    exact sr_ite (c := y = y) (fun _ => next nz2 FI2 FJ2 kp2 b2 hI2 c1 c2) (fun q => absurd rfl q)
set_option maxRecDepth 50000 in
theorem lw_c_finding (hI : sp_Inv xs nz FI FJ kp) (hz : z = nI i) (hi : i + 6 ≤ Ls) (hb1 : 5 ≤ b.1) (hb2 : 142 ≤ b.2) (next : ∀ (nz : Nat) (FI : Nat → Nat → Int32) (FJ : Nat → Nat → Int64) (kp : Nat → Option Nat) (b' : Nat × Nat), sp_Inv xs nz FI FJ kp → b.1 ≤ b'.1 + 5 → b.2 ≤ b'.2 + 142 → sr_Go mL_law (d + 10) 1443 (lw_L z) [] b' (hp Ls nz FI FJ kp) P) : sr_Go mL_law (d + 10) 1393 (lw_L z) [] b (hp Ls nz FI FJ kp) P := by
  refine eL_law [1394] ?_
  refine lw_int (mX := mX4_finding) (mM := mX5_finding) (pX := 1394) (pM := 1398) (iX := 191) (iM := 194) (As := []) (by decide +kernel) (by decide +kernel) rfl rfl rfl rfl rfl rfl (show 1 ≤ _ by decide) (show 1 ≤ _ by decide) rfl (by decide) (by decide) rfl hb1 hb2 (q_finding (d := d + 9) hI) (fun y h1 b' k7 len con go => ?_) (fun y nz2 FI2 FJ2 kp2 b2 hI2 c1 c2 => ?_)
  · exact eL_law [1398] go
  · refine eL_law [1443] ?_
    exact sr_ite (c := y = y) (fun _ => next nz2 FI2 FJ2 kp2 b2 hI2 c1 c2) (fun q => absurd rfl q)
set_option maxRecDepth 50000 in
theorem lw_c_findings (hI : sp_Inv xs nz FI FJ kp) (hz : z = nI i) (hi : i + 6 ≤ Ls) (hb1 : 5 ≤ b.1) (hb2 : 142 ≤ b.2) (next : ∀ (nz : Nat) (FI : Nat → Nat → Int32) (FJ : Nat → Nat → Int64) (kp : Nat → Option Nat) (b' : Nat × Nat), sp_Inv xs nz FI FJ kp → b.1 ≤ b'.1 + 5 → b.2 ≤ b'.2 + 142 → sr_Go mL_law (d + 10) 1443 (lw_L z) [] b' (hp Ls nz FI FJ kp) P) : sr_Go mL_law (d + 10) 1406 (lw_L z) [] b (hp Ls nz FI FJ kp) P := by
  have z1 : z + nI 1 = nI (i + 1) := by rw [hz, nI_add]
  refine eL_law [1412] ?_
  refine ⟨i + 1, ⟨z1, show i + 1 < Ls by omega⟩, ?_⟩
  refine lw_int (mX := mX4_findings) (mM := mX5_findings) (pX := 1412) (pM := 1421) (iX := 195) (iM := 198) (As := [.int (FI 1000002 (i + 1))]) (by decide +kernel) (by decide +kernel) rfl rfl rfl rfl rfl rfl (show 2 ≤ _ by decide) (show 2 ≤ _ by decide) rfl (by decide) (by decide) rfl hb1 hb2 (q_findings (d := d + 8) hI) (fun y h1 b' k7 len con go => ?_) (fun y nz2 FI2 FJ2 kp2 b2 hI2 c1 c2 => ?_)
  · rw [← con (i + 1) (by omega)] at go
    refine eL_law [1421] ?_
    exact sr_cnd k7 ⟨i + 1, ⟨z1, by rw [len]; omega⟩, go⟩
  · refine eL_law [1443] ?_
    exact sr_ite (c := y = y) (fun _ => next nz2 FI2 FJ2 kp2 b2 hI2 c1 c2) (fun q => absurd rfl q)
set_option maxRecDepth 50000 in
theorem lw_c_digest (hI : sp_Inv xs nz FI FJ kp) (hz : z = nI i) (hi : i + 6 ≤ Ls) (hb1 : 5 ≤ b.1) (hb2 : 142 ≤ b.2) (next : ∀ (nz : Nat) (FI : Nat → Nat → Int32) (FJ : Nat → Nat → Int64) (kp : Nat → Option Nat) (b' : Nat × Nat), sp_Inv xs nz FI FJ kp → b.1 ≤ b'.1 + 5 → b.2 ≤ b'.2 + 142 → sr_Go mL_law (d + 10) 1443 (lw_L z) [] b' (hp Ls nz FI FJ kp) P) : sr_Go mL_law (d + 10) 1429 (lw_L z) [] b (hp Ls nz FI FJ kp) P := by
  refine eL_law [1430] ?_
  refine lw_long (mX := mX4_digest) (mM := mX5_digest) (pX := 1430) (pM := 1434) (iX := 199) (iM := 202) (As := []) (by decide +kernel) (by decide +kernel) rfl rfl rfl rfl rfl rfl (show 1 ≤ _ by decide) (show 1 ≤ _ by decide) rfl (by decide) (by decide) rfl hb1 hb2 (q_digest (d := d + 4) hI) (fun y h1 b' k7 len con go => ?_) (fun y nz2 FI2 FJ2 kp2 b2 hI2 c1 c2 => ?_)
  · exact eL_law [1434] go
  · refine eL_law [1443] ?_
    exact sr_ite (c := lg_cmp y y = 0) (fun _ => next nz2 FI2 FJ2 kp2 b2 hI2 c1 c2) (fun q => absurd (lg_self y) q)
end LW
