/-! pairs of calls: lots -/
def sp_lot (v : Nat → Nat) (i w : Nat) : Nat := if w = 1 then 1 else if w = 0 then (if sp_bit (v 1) i = 1 then 1 else 0) else 2
theorem sp_lot_lt (v : Nat → Nat) (i w : Nat) : sp_lot v i w < 3 := by
  unfold sp_lot
  by_cases h1 : w = 1
  · rw [if_pos h1]; omega
  · rw [if_neg h1]
    by_cases h2 : w = 0
    · rw [if_pos h2]; split <;> omega
    · rw [if_neg h2]; omega
def sp_nx (m : Nat) : Nat := 48271 * m % 2147483647
abbrev sp_St : Type := (Nat → Nat → Nat) × (Nat → Nat) × (Nat → Nat) × Nat
def sp_step (g D : Nat) (s : sp_St) : sp_St := (sp_ve s.1 D (sp_app (s.1 D) (sp_lot (s.1 D) (sp_nx s.2.2.2 % g) (sp_nx s.2.2.2 / 16 % 4)) (sp_nx s.2.2.2 % g)), sp_ae s.2.1 D (sp_lot (s.1 D) (sp_nx s.2.2.2 % g) (sp_nx s.2.2.2 / 16 % 4)), sp_ae s.2.2.1 D (sp_nx s.2.2.2 % g), sp_nx s.2.2.2)
def sp_run (g D : Nat) (s : sp_St) : Nat → sp_St
  | 0 => s
  | k + 1 => sp_step g (D + k) (sp_run g D s k)
theorem sp_run_LG {g D : Nat} {s : sp_St} (hg : g ≤ 5) (hg0 : 0 < g) (h : sp_LG g D s.1 s.2.1 s.2.2.1) : ∀ k, D + k ≤ 60 → sp_LG g (D + k) (sp_run g D s k).1 (sp_run g D s k).2.1 (sp_run g D s k).2.2.1
  | 0, _ => h
  | k + 1, hk => sp_LG_ext (sp_run_LG hg hg0 h k (by omega)) (by omega) (sp_lot_lt _ _ _) (Nat.mod_lt _ hg0) hg
theorem sp_run_sd {g D : Nat} {s : sp_St} (h : s.2.2.2 < 2147483647) : ∀ k, (sp_run g D s k).2.2.2 < 2147483647
  | 0 => h
  | k + 1 => Nat.mod_lt _ (by decide)
theorem lg_lt {x y : Int64} : lg_cmp x y < 0 ↔ x < y := by
  have key : x < y ↔ ¬ y < x ∧ ¬ x = y := by
    rw [Int64.lt_iff_toInt_lt, Int64.lt_iff_toInt_lt, ← Int64.toInt_inj]
    omega
  unfold lg_cmp
  by_cases h1 : y < x
  · simp [h1, key]
  · by_cases h2 : x = y
    · simp [h2]
    · simp [h1, h2, key]
theorem sp_litL (n : Nat) : (OfNat.ofNat n : Int64) = lN n := rfl
theorem sp_nxE {s : Int64} {m : Nat} (hs : s = lN m) (hm : m < 2147483647) : (48271 : Int64) * s - (48271 : Int64) * s / (2147483647 : Int64) * (2147483647 : Int64) = lN (sp_nx m) := by
  rw [hs, sp_litL 48271, sp_litL 2147483647, lN_mul]
  exact pk_lRem (by omega) (by omega) (by omega)
theorem sp_nxG {s : Int64} {m g : Nat} {x : Int32} (hs : s = lN m) (hm : m < 2147483647) (hx : x = nI g) (hg0 : 0 < g) (hg : g ≤ 5) : (s - s / x.toInt64 * x.toInt64).toInt32 = nI (m % g) := by
  rw [hs, hx, nI_l (by omega), pk_lRem (by omega) hg0 (by omega), lN_i]
theorem sp_nxW {s : Int64} {m : Nat} (hs : s = lN m) (hm : m < 2147483647) : (s / (16 : Int64) - s / (16 : Int64) / (4 : Int64) * (4 : Int64)).toInt32 = nI (m / 16 % 4) := by
  rw [hs, sp_litL 16, sp_litL 4, pk_lDiv (by omega) (by omega) (by omega), pk_lRem (by omega) (by omega) (by omega), lN_i]
theorem sp_m0 : ¬ (2147483647 : Int64) = 0 := by decide +kernel
theorem sp_16 : ¬ (16 : Int64) = 0 := by decide +kernel
theorem sp_40 : ¬ (4 : Int64) = 0 := by decide +kernel
section LO
variable {Ls nz d T g o D : Nat} {kd lf th tn v : Nat → Nat} {vs : Nat → Nat → Nat} {ac gs : Nat → Nat} {xs : Nat → Int32} {FI : Nat → Nat → Int32} {FJ : Nat → Nat → Int64} {kp : Nat → Option Nat} {P : Option Value → sr_H → Prop} {h9 : sr_H}
theorem c4_actByLot {i w : Nat} {x y : Int32} (hLG : sp_LG g D vs ac gs) (hg : g ≤ 5) (hx : x = nI i) (hi : i < g) (hy : y = nI w) (hw : w < 4) (hD : D < 60) (hXL : sp_XL FI 20 D vs ac gs) (h : ∀ FI', (∀ r, r ≠ 20 → r ≠ 22 → r ≠ 23 → r ≠ 24 → FI' r = FI r) → sp_XL FI' 20 (D + 1) (sp_ve vs D (sp_app (vs D) (sp_lot (vs D) i w) i)) (sp_ae ac D (sp_lot (vs D) i w)) (sp_ae gs D i) → P none (hp Ls nz FI' FJ kp)) : sr_Call mX4_actByLot (d + 3) [.ref 0, .int x, .int y] (hp Ls nz FI FJ kp) P := by
  have hV := sp_NVof hLG
  have hb : sp_bit (vs D 1) i < 2 := Nat.mod_lt _ (by decide)
  have kc : ∀ u : Nat, u < 4 → y = nI u → w = u := fun u hu c => nI_inj (by omega) (by omega) (hy.symm.trans c)
  have kn : ∀ u : Nat, ¬ y = nI u → w ≠ u := fun u c q => c (by rw [hy, q])
  refine eX4_actByLot [21, 33] ?_
  have l21 : sp_lot (vs D) i w = 1 → sr_Go mX4_actByLot (d + 3) 21 [some (.ref 0), some (.int x), some (.int y)] [] (0, 0) (hp Ls nz FI FJ kp) P := by
    intro q
    rw [q] at h
    refine eX4_actByLot [] ?_
    exact c1_act (a := 1) rfl (by omega) hx (by omega) hD hXL hV.1 h
  have l33 : sp_lot (vs D) i w ≠ 1 → sr_Go mX4_actByLot (d + 3) 33 [some (.ref 0), some (.int x), some (.int y)] [] (0, 0) (hp Ls nz FI FJ kp) P := by
    intro q
    refine eX4_actByLot [] ?_
    refine sr_ite (c := y = 0) (fun c => ?_) (fun c => ?_)
    · have c := kc 0 (by omega) c
      have : sp_lot (vs D) i w = 0 := by
        unfold sp_lot at q ⊢
        subst c
        rw [if_neg (by omega), if_pos rfl] at q ⊢
        split at q
        · exact absurd rfl q
        · rename_i c; rw [if_neg c]
      rw [this] at h
      exact c1_act (a := 0) rfl (by omega) hx (by omega) hD hXL hV.1 h
    · have c := kn 0 c
      have : sp_lot (vs D) i w = 2 := by
        unfold sp_lot at q ⊢
        split at q
        · exact absurd rfl q
        · rename_i c1; rw [if_neg c1, if_neg c]
      rw [this] at h
      exact c1_act (a := 2) rfl (by omega) hx (by omega) hD hXL hV.1 h
  refine sr_ite (c := y = nI 1) (fun c => ?_) (fun c1 => ?_)
  · have c := kc 1 (by omega) c
    exact l21 (by simp [sp_lot, c])
  have c1 := kn 1 c1
  refine sr_ite (c := y = 0) (fun c => ?_) (fun c => ?_)
  · have c := kc 0 (by omega) c
    refine c1_lockedOf (sp_XNof hXL) hV hx (by omega) ?_
    refine sr_ite (c := nI (sp_bit (vs D 1) i) = nI 1) (fun c2 => ?_) (fun c2 => ?_)
    · have c2 := nI_inj (by omega) (by omega) c2
      exact l21 (by simp [sp_lot, c, c2])
    · have c2 : sp_bit (vs D 1) i ≠ 1 := fun q => c2 (by rw [q])
      exact l33 (by simp [sp_lot, c, c2])
  · have c := kn 0 c
    exact l33 (by simp [sp_lot, c, c1])
theorem c4_lots_loop {n : Nat} {xn xg sd : Int32} {s0 : sp_St} (hg : g ≤ 5) (hg0 : 0 < g) (hn : xn = nI n) (hxg : xg = nI g) (hDn : D + n ≤ 60) (hLG : sp_LG g D s0.1 s0.2.1 s0.2.2.1) (hsd : s0.2.2.2 < 2147483647) (h : ∀ F, (∀ r, r ≠ 20 → r ≠ 22 → r ≠ 23 → r ≠ 24 → F r = FI r) → sp_XL F 20 (D + n) (sp_run g D s0 n).1 (sp_run g D s0 n).2.1 (sp_run g D s0 n).2.2.1 → P (some (.int (nI (sp_pop ((sp_run g D s0 n).1 (D + n) 0))))) (hp Ls nz F FJ kp)) : ∀ k, k ≤ n → ∀ (z : Int32) (s : Int64) (F : Nat → Nat → Int32), z = nI k → s = lN (sp_run g D s0 k).2.2.2 → (∀ r, r ≠ 20 → r ≠ 22 → r ≠ 23 → r ≠ 24 → F r = FI r) → sp_XL F 20 (D + k) (sp_run g D s0 k).1 (sp_run g D s0 k).2.1 (sp_run g D s0 k).2.2.1 → sr_Go mX4_lots (d + 4) 67 [some (.ref 0), some (.int xn), some (.int sd), some (.int xg), some (.long s), none, some (.int z)] [] (0, 0) (hp Ls nz F FJ kp) P := by
  refine sp_for (fun z s F hz hs fr hXL => ?_) (fun k hk ih z s F hz hs fr hXL => ?_)
  · have hLG1 := sp_run_LG hg hg0 hLG n (by omega)
    have hV := sp_NVof hLG1
    refine eX4_lots [67] ?_
    refine sr_ite (c := z < xn) (fun c => absurd c (by rw [hz, hn]; exact nI_nlt (by omega) (by omega))) (fun c => ?_)
    refine c6_bitCount hXL.2.1 (by have := hV.1; omega) ?_
    exact h F fr hXL
  · have hLG1 := sp_run_LG hg hg0 hLG k (by omega)
    have hsdk := sp_run_sd (g := g) (D := D) hsd k
    refine eX4_lots [67] ?_
    refine sr_ite (c := z < xn) (fun c => ?_) (fun c => absurd (by rw [hz, hn]; exact nI_lt hk (by omega)) c)
    have e1 := sp_nxE hs hsdk
    have hb : sp_nx (sp_run g D s0 k).2.2.2 < 2147483647 := Nat.mod_lt _ (by decide)
    refine ⟨sp_m0, ⟨by rw [hxg]; exact nl_ne hg0 (by omega), ⟨sp_16, ⟨sp_40, ?_⟩⟩⟩⟩
    refine c4_actByLot hLG1 hg (sp_nxG e1 hb hxg hg0 hg) (Nat.mod_lt _ hg0) (sp_nxW e1 hb) (Nat.mod_lt _ (by decide)) (by omega) hXL (fun F' fr' hXL' => ?_)
    exact ih _ _ F' (by rw [hz]; exact nI_1 k) e1 (fun r r1 r2 r3 r4 => by rw [fr' r r1 r2 r3 r4, fr r r1 r2 r3 r4]) hXL'
theorem c5_lots_loop {n : Nat} {xn sd : Int32} {s0 : sp_St} (hg : g ≤ 5) (hg0 : 0 < g) (hn : xn = nI n) (hxg : FI 30 10 = nI g) (hDn : D + n ≤ 60) (hLG : sp_LG g D s0.1 s0.2.1 s0.2.2.1) (hsd : s0.2.2.2 < 2147483647) (h : ∀ F, (∀ r, r ≠ 30 → r ≠ 43 → r ≠ 44 → F r = FI r) → (∀ k, k ≠ 24 → F 30 k = FI 30 k) → sp_ML F (D + n) (sp_run g D s0 n).1 → P (some (.int (nI (sp_pop ((sp_run g D s0 n).1 (D + n) 0))))) (hp Ls nz F FJ kp)) : ∀ k, k ≤ n → ∀ (z : Int32) (s : Int64) (F : Nat → Nat → Int32) (e1 e2 : Option Value), z = nI k → s = lN (sp_run g D s0 k).2.2.2 → (∀ r, r ≠ 30 → r ≠ 43 → r ≠ 44 → F r = FI r) → (∀ k, k ≠ 24 → F 30 k = FI 30 k) → sp_ML F (D + k) (sp_run g D s0 k).1 → sr_Go mX5_lots (d + 4) 52 [some (.ref 30), some (.int xn), some (.int sd), some (.long s), none, some (.int z), e1, e2] [] (0, 0) (hp Ls nz F FJ kp) P := by
  refine sp_for (fun z s F e1 e2 hz hs fr fr3 hML => ?_) (fun k hk ih z s F e1 e2 hz hs fr fr3 hML => ?_)
  · have hLG1 := sp_run_LG hg hg0 hLG n (by omega)
    have hV := sp_NVof hLG1
    refine eX5_lots [52] ?_
    refine sr_ite (c := z < xn) (fun c => absurd c (by rw [hz, hn]; exact nI_nlt (by omega) (by omega))) (fun c => ?_)
    refine ⟨0, ⟨rfl, show 0 < 12 by omega⟩, ?_⟩
    refine c5_bits (hML.2.1 0 (by omega)) (by have := hV.1; omega) ?_
    exact h F fr fr3 hML
  · have hLG1 := sp_run_LG hg hg0 hLG k (by omega)
    have hV := sp_NVof hLG1
    have hsdk := sp_run_sd (g := g) (D := D) hsd k
    have hxg2 : F 30 10 = nI g := by rw [fr3 10 (by decide)]; exact hxg
    have e1 := sp_nxE hs hsdk
    have hb : sp_nx (sp_run g D s0 k).2.2.2 < 2147483647 := Nat.mod_lt _ (by decide)
    have hmg := Nat.mod_lt (sp_nx (sp_run g D s0 k).2.2.2) hg0
    have eG := sp_nxG e1 hb hxg2 hg0 hg
    have eW := sp_nxW e1 hb
    have hw : sp_nx (sp_run g D s0 k).2.2.2 / 16 % 4 < 4 := Nat.mod_lt _ (by decide)
    have hb1 : sp_bit ((sp_run g D s0 k).1 (D + k) 1) (sp_nx (sp_run g D s0 k).2.2.2 % g) < 2 := Nat.mod_lt _ (by decide)
    refine eX5_lots [52, 119, 135, 163] ?_
    refine sr_ite (c := z < xn) (fun c => ?_) (fun c => absurd (by rw [hz, hn]; exact nI_lt hk (by omega)) c)
    refine ⟨sp_m0, ⟨by show ¬ (F 30 10).toInt64 = 0; rw [hxg2]; exact nl_ne hg0 (by omega), ⟨sp_16, ⟨sp_40, ?_⟩⟩⟩⟩
    refine c5_remember hML (by omega) (sp_app ((sp_run g D s0 k).1 (D + k)) (sp_lot ((sp_run g D s0 k).1 (D + k)) (sp_nx (sp_run g D s0 k).2.2.2 % g) (sp_nx (sp_run g D s0 k).2.2.2 / 16 % 4)) (sp_nx (sp_run g D s0 k).2.2.2 % g)) (fun F2 fr2 fr23 f24 flog => ?_)
    have now2 : ∀ j, j < 12 → F2 43 j = nI ((sp_run g D s0 k).1 (D + k) j) := by
      intro j hj
      rw [fr2 43 (by decide) (by decide)]; exact hML.2.1 j hj
    have fin : ∀ (p q : Nat) (u : Int32) (S : Int64) (G W : Int32), S = lN (sp_nx (sp_run g D s0 k).2.2.2) → u = nI q → (∀ j, j < 12 → sp_app ((sp_run g D s0 k).1 (D + k)) (sp_lot ((sp_run g D s0 k).1 (D + k)) (sp_nx (sp_run g D s0 k).2.2.2 % g) (sp_nx (sp_run g D s0 k).2.2.2 / 16 % 4)) (sp_nx (sp_run g D s0 k).2.2.2 % g) j = if j = p then q else (sp_run g D s0 k).1 (D + k) j) → sr_Go mX5_lots (d + 4) 163 [some (.ref 30), some (.int xn), some (.int sd), some (.long S), none, some (.int z), some (.int G), some (.int W)] [] (0, 0) (hp Ls nz (sr_u F2 43 p u) FJ kp) P := by
      intro p q u S G W hS hu hw
      refine eX5_lots [52] ?_
      refine ih _ _ _ _ _ (by rw [hz]; exact nI_1 k) hS (fun r r1 r2 r3 => ?_) (fun j hj => ?_) (sp_ML_ext f24 flog now2 hw hu)
      · rw [sp_fr22 r r2, fr2 r r1 r3]; exact fr r r1 r2 r3
      · show F2 30 j = _
        rw [fr23 j hj]; exact fr3 j hj
    generalize hm : sp_nx (sp_run g D s0 k).2.2.2 = m at *
    generalize hv : (sp_run g D s0 k).1 (D + k) = V at *
    have kc : ∀ {W : Int32} (u : Nat), W = nI (m / 16 % 4) → u < 4 → W = nI u → m / 16 % 4 = u := fun u e hu c => nI_inj (by omega) (by omega) (e.symm.trans c)
    have kn : ∀ {W : Int32} (u : Nat), W = nI (m / 16 % 4) → ¬ W = nI u → m / 16 % 4 ≠ u := fun u e c q => c (by rw [e, q])
    have l119 : sp_lot V (m % g) (m / 16 % 4) = 1 → ∀ (S : Int64) (G W : Int32), S = lN m → G = nI (m % g) → sr_Go mX5_lots (d + 4) 119 [some (.ref 30), some (.int xn), some (.int sd), some (.long S), none, some (.int z), some (.int G), some (.int W)] [] (0, 0) (hp Ls nz F2 FJ kp) P := by
      intro hl S G W hS hG
      refine eX5_lots [163] ?_
      refine ⟨1, ⟨rfl, show 1 < 12 by omega⟩, ⟨1, ⟨rfl, show 1 < 12 by omega⟩, ?_⟩⟩
      refine fin 1 (V 1 ^^^ 2 ^ (m % g)) _ S G W hS (by show F2 43 1 ^^^ (nI 1 <<< (G &&& 31)) = _; rw [hG, nb_xpow (now2 1 (by omega)) (by omega)]) (fun j hj => ?_)
      rw [hl]; rfl
    have l135 : sp_lot V (m % g) (m / 16 % 4) ≠ 1 → ∀ (S : Int64) (G W : Int32), S = lN m → G = nI (m % g) → W = nI (m / 16 % 4) → sr_Go mX5_lots (d + 4) 135 [some (.ref 30), some (.int xn), some (.int sd), some (.long S), none, some (.int z), some (.int G), some (.int W)] [] (0, 0) (hp Ls nz F2 FJ kp) P := by
      intro hl S G W hS hG hW
      refine eX5_lots [163] ?_
      refine sr_ite (c := W = 0) (fun c => ?_) (fun c => ?_)
      · have c := kc 0 hW (by omega) c
        have hl0 : sp_lot V (m % g) (m / 16 % 4) = 0 := by
          unfold sp_lot at hl ⊢
          rw [c, if_neg (by omega), if_pos rfl] at hl ⊢
          split at hl
          · exact absurd rfl hl
          · rename_i c; rw [if_neg c]
        refine ⟨0, ⟨rfl, show 0 < 12 by omega⟩, ⟨0, ⟨rfl, show 0 < 12 by omega⟩, ?_⟩⟩
        refine fin 0 (V 0 ^^^ 2 ^ (m % g)) _ S G W hS (by show F2 43 0 ^^^ (nI 1 <<< (G &&& 31)) = _; rw [hG, nb_xpow (now2 0 (by omega)) (by omega)]) (fun j hj => ?_)
        rw [hl0]; rfl
      · have c := kn 0 hW c
        have hl2 : sp_lot V (m % g) (m / 16 % 4) = 2 := by
          unfold sp_lot at hl ⊢
          split at hl
          · exact absurd rfl hl
          · rename_i c1; rw [if_neg c1, if_neg c]
        refine c5_uses now2 hV.1 hG (by omega) ?_
        refine fin _ (V (if sp_bit (V 0) (m % g) = 1 then 7 + m % g else 2 + m % g) + 1) _ S G W hS (nI_1 _) (fun j hj => ?_)
        rw [hl2, sp_app2]
        by_cases c : j = (if sp_bit (V 0) (m % g) = 1 then 7 + m % g else 2 + m % g)
        · rw [if_pos c, if_pos c, ← c]
        · rw [if_neg c, if_neg c]
    refine sr_ite (c := _ = nI 1) (fun c => ?_) (fun c1 => ?_)
    · have c := kc 1 eW (by omega) c
      exact l119 (by simp [sp_lot, c]) _ _ _ e1 eG
    have c1 := kn 1 eW c1
    refine sr_ite (c := _ = 0) (fun c => ?_) (fun c => ?_)
    · have c := kc 0 eW (by omega) c
      refine ⟨1, ⟨rfl, show 1 < 12 by omega⟩, ?_⟩
      refine c5_holds' (l := V 1) (now2 1 (by omega)) (by have := hV.2.1; omega) eG (by omega) (fun c2 z hz => ?_) (fun c2 z hz => ?_)
      · refine sr_n1 hz ?_
        exact l119 (by simp [sp_lot, c, c2]) _ _ _ e1 eG
      · refine sr_n0 hz ?_
        exact l135 (by simp [sp_lot, c, c2]) _ _ _ e1 eG eW
    · have c := kn 0 eW c
      exact l135 (by simp [sp_lot, c, c1]) _ _ _ e1 eG eW
theorem q_lots {a b : Int32} (hI : sp_Inv xs nz FI FJ kp) : sp_two (sp_I Ls xs) mX4_lots mX5_lots (d + 4) [.int a, .int b] (hp Ls nz FI FJ kp) := by
  obtain ⟨hS, hO, hA, hB, hC, T, g, o, kd, lf, th, tn, D, vs, ac, gs, hD, hX, hM, hTd, hXT, hMT, hLG, hXL, hML, hRK⟩ := id hI
  have hg := hD.1
  have hD60 := hLG.1
  have bad : (a < nI 1 ∨ nI 30 < a ∨ b < nI 1 ∨ nI 2147483646 < b) → sr_Call mX5_lots (d + 4) [.ref 30, .int a, .int b] (hp Ls nz FI FJ kp) (fun v2 h2 => v2 = some (.int (sr_k (-1))) ∧ sp_I Ls xs h2) := by
    intro hb
    refine eX5_lots [52] ?_
    refine c5_in' (fun c1 c2 z hz => ?_) (fun c z hz => ?_)
    · refine sr_n1 hz ?_
      refine c5_in' (fun c3 c4 => ?_) (fun c z hz => ?_)
      · rcases hb with hb | hb | hb | hb
        · exact absurd hb c1
        · exact absurd hb c2
        · exact absurd hb c3
        · exact absurd hb c4
      · refine sr_n0 hz ?_
        exact ⟨rfl, .of hI⟩
    · refine sr_n0 hz ?_
      exact ⟨rfl, .of hI⟩
  refine eX4_lots [67] ?_
  refine sr_ite (c := a < nI 1) (fun c => bad (Or.inl c)) (fun n1 => ?_)
  refine sr_ite (c := nI 30 < a) (fun c => bad (Or.inr (Or.inl c))) (fun n2 => ?_)
  refine sr_ite (c := b < nI 1) (fun c => bad (Or.inr (Or.inr (Or.inl c)))) (fun n3 => ?_)
  have nn : ∀ {x : Int32}, ¬ x < nI 1 → ∃ n, 0 < n ∧ n < 2147483648 ∧ x = nI n := by
    intro x h1
    have h0 : ¬ x < 0 := by
      intro q
      have h3 := Int32.lt_iff_toInt_lt.mp q
      have h4 : ¬ x.toInt < (nI 1).toInt := fun z => h1 (Int32.lt_iff_toInt_lt.mpr z)
      rw [nI_toInt (by omega)] at h4
      have : (0 : Int32).toInt = 0 := rfl
      omega
    obtain ⟨n, hn, e⟩ := nI_all h0
    refine ⟨n, ?_, hn, e⟩
    rcases Nat.eq_zero_or_pos n with q | q
    · subst q; subst e; exact absurd (by decide +kernel) h1
    · exact q
  obtain ⟨sd, hsd0, hsd1, esd⟩ := nn n3
  obtain ⟨n, hn0, hn1, en⟩ := nn n1
  have hn30 : n ≤ 30 := by
    by_cases q : n ≤ 30
    · exact q
    · exfalso; rw [en] at n2; exact n2 (nI_lt (by omega) (by omega))
  have e64 : b.toInt64 = lN sd := by rw [esd, nI_l (by omega)]
  refine sr_ite (c := lg_cmp b.toInt64 2147483647 < 0) (fun c => ?_) (fun c => ?_)
  · rw [lg_lt, e64, sp_litL 2147483647, pk_lLT (by omega) (by omega)] at c
    have mgo : ∀ {P : Option Value → sr_H → Prop} {F : Nat → Nat → Int32}, sr_Go mX5_lots (d + 4) 22 [some (.ref 30), some (.int a), some (.int b), none, none, none, none, none] [] (0, 0) (hp Ls nz F FJ kp) P → sr_Call mX5_lots (d + 4) [.ref 30, .int a, .int b] (hp Ls nz F FJ kp) P := by
      intro P F h
      refine eX5_lots [22] ?_
      refine c5_in' (fun c1 c2 z hz => ?_) (fun c => ?_)
      · refine sr_n1 hz ?_
        refine c5_in' (fun c3 c4 z hz => ?_) (fun c => ?_)
        · refine sr_n1 hz ?_
          exact h
        · rcases c with c | c
          · exact absurd c n3
          · have c : nI 2147483646 < b := c
            rw [esd] at c
            have := (nI_ltI (by omega) (by omega)).mp c
            omega
      · rcases c with c | c
        · exact absurd c n1
        · exact absurd c n2
    refine sr_ite (c := FI 8 1 < nI 1) (fun c2 => ?_) (fun c2 => ?_)
    · rw [hX.2.1] at c2
      have hg0 : g = 0 := by
        have := (nI_ltI (by omega) (by omega)).mp c2
        omega
      refine mgo ?_
      refine eX5_lots [52] ?_
      refine sr_ite (c := FI 30 10 = 0) (fun _ => ?_) (fun q => absurd (by rw [hM.2.1, hg0]; rfl) q)
      exact ⟨rfl, .of hI⟩
    · rw [hX.2.1] at c2
      have hg0 : 0 < g := by
        rcases Nat.eq_zero_or_pos g with q | q
        · subst q; exact absurd (by decide +kernel) c2
        · exact q
      have hng : ∀ {F : Nat → Nat → Int32}, F 30 10 = FI 30 10 → ¬ F 30 10 = 0 := by
        intro F hF
        rw [hF, hM.2.1]; exact nI_ne0 hg0 (by omega)
      have eDn : FI 20 0 + a = nI (D + n) := by rw [hXL.1, en, nI_add]
      refine sr_ite (c := nI 60 < FI 20 0 + a) (fun c3 => ?_) (fun c3 => ?_)
      · rw [eDn] at c3
        refine mgo ?_
        refine eX5_lots [52] ?_
        refine sr_ite (c := FI 30 10 = 0) (fun q => absurd q (hng rfl)) (fun _ => ?_)
        refine sr_ite (c := nI 60 < FI 30 24 + a) (fun _ => ?_) (fun q => absurd (by rw [hML.1, en, nI_add]; exact c3) q)
        exact ⟨rfl, .of hI⟩
      · rw [eDn] at c3
        have hDn : D + n ≤ 60 := by
          by_cases q : D + n ≤ 60
          · exact q
          · exact absurd (nI_lt (by omega) (by omega)) c3
        refine c4_lots_loop (s0 := (vs, ac, gs, sd)) hg hg0 en hX.2.1 hDn hLG c (fun F1 fr1 hXL1 => ?_) 0 (by omega) _ _ _ rfl e64 (fun r _ _ _ _ => rfl) hXL
        have hM1 := sp_fr_MH (sp_frA fr1) hM
        have hML1 := sp_frA_ML fr1 hML
        have hLG1 := sp_run_LG (s := (vs, ac, gs, sd)) hg hg0 hLG n hDn
        refine mgo ?_
        refine eX5_lots [52] ?_
        refine sr_ite (c := F1 30 10 = 0) (fun q => absurd q (hng (by rw [fr1 30 (by decide) (by decide) (by decide) (by decide)]))) (fun _ => ?_)
        refine sr_ite (c := nI 60 < F1 30 24 + a) (fun q => ?_) (fun _ => ?_)
        · rw [hML1.1, en, nI_add] at q
          exact absurd q c3
        refine c5_lots_loop (s0 := (vs, ac, gs, sd)) hg hg0 en hM1.2.1 hDn hLG c (fun F2 fr2 fr3 hML2 => ?_) 0 (by omega) _ _ _ _ _ rfl e64 (fun r _ _ _ => rfl) (fun k _ => rfl) hML1
        exact ⟨rfl, .of (sp_Inv_deed2 hI hD hX hM hTd hXT hMT hRK fr1 hXL1 fr2 fr3 hLG1 hML2)⟩
  · rw [lg_lt, e64, sp_litL 2147483647, pk_lLT (by omega) (by omega)] at c
    refine bad (Or.inr (Or.inr (Or.inr ?_)))
    rw [esd]
    exact nI_lt (by omega) (by omega)
end LO
