/-! pairs of calls: mark, drawer, nearest -/
theorem sp_15 {b : Int32} (h1 : ¬ b < nI 1) (h2 : ¬ nI 5 < b) : ∃ w, 0 < w ∧ w < 6 ∧ b = nI w := by
  have h0 : ¬ b < 0 := by
    intro q
    have h3 := Int32.lt_iff_toInt_lt.mp q
    have h4 : ¬ b.toInt < (nI 1).toInt := fun z => h1 (Int32.lt_iff_toInt_lt.mpr z)
    rw [nI_toInt (by omega)] at h4
    have : (0 : Int32).toInt = 0 := rfl
    omega
  obtain ⟨k, hk, e⟩ := nI_leN (by omega) h0 h2
  refine ⟨k, ?_, by omega, e⟩
  rcases Nat.eq_zero_or_pos k with q | q
  · subst q; subst e; exact absurd (by decide +kernel) h1
  · exact q
theorem sp_pos {b : Int32} : ¬ 0 < b ↔ b < nI 1 := by
  rw [Int32.lt_iff_toInt_lt, Int32.lt_iff_toInt_lt, nI_toInt (by omega)]
  have : (0 : Int32).toInt = 0 := rfl
  omega
/-- loops that count up -/
theorem sp_for {n : Nat} {S : Nat → Prop} (last : S n) (step : ∀ i, i < n → S (i + 1) → S i) : ∀ i, i ≤ n → S i := by
  have : ∀ m i, i + m = n → S i := by
    intro m
    induction m with
    | zero => intro i hi; have : i = n := by omega
              subst this; exact last
    | succ m ih => intro i hi; exact step i (by omega) (ih (i + 1) (by omega))
  intro i hi
  exact this (n - i) i (by omega)
theorem nb_popT : ∀ T, T < 7 → ∀ l, l < 2 ^ T → sp_pop l ≤ T := by decide +kernel
section NE
variable {Ls nz d T g o : Nat} {kd lf th tn v : Nat → Nat} {xs : Nat → Int32} {FI : Nat → Nat → Int32} {FJ : Nat → Nat → Int64} {kp : Nat → Option Nat} {P : Option Value → sr_H → Prop} {h9 : sr_H}
theorem c0_isOfKind' {i w : Nat} {x y : Int32} (hD : sp_HD T g o kd lf th) (hX : sp_XH FI T g o kd lf th) (hR : sp_RO FI) (hx : x = nI i) (hi : i < g) (hy : y = nI w) (hw : w < 6) (hw0 : 0 < w) (h1 : sp_isK (kd i) w = true → ∀ z, z = 1 → P (some (.int z)) (hp Ls nz FI FJ kp)) (h0 : sp_isK (kd i) w = false → ∀ z, z = 0 → P (some (.int z)) (hp Ls nz FI FJ kp)) : sr_Call mX0_isOfKind d [.ref 8, .int x, .int y] (hp Ls nz FI FJ kp) P := c0_isOfKind hD hX hR hx hi hy hw hw0 (fun c => h1 c 1 rfl) (fun c => h0 c 0 rfl)
theorem c5_in' {x lo hi : Int32} (h1 : ¬ x < lo → ¬ hi < x → ∀ z, z = 1 → P (some (.int z)) h9) (h0 : (x < lo ∨ hi < x) → ∀ z, z = 0 → P (some (.int z)) h9) : sr_Call mX5_in d [.int x, .int lo, .int hi] h9 P := c5_in (fun a b => h1 a b 1 rfl) (fun c => h0 c 0 rfl)
theorem c5_mark {i w : Nat} {a b : Int32} (hD : sp_HD T g o kd lf th) (hM : sp_MH FI T g o kd lf th) (e : a = nI i) (hi : i < g) (ew : b = nI w) (hw0 : 0 < w) (hw : w < 6) (h1 : sp_isK (kd i) w = true → sr_Go mX5_mark (d + 4) 57 [some (.ref 30), some (.int a), some (.int b), some (.int (FI 37 i))] [] (0, 0) (hp Ls nz FI FJ kp) P) (h0 : sp_isK (kd i) w = false → P (some (.int (sr_k (-3)))) (hp Ls nz (sr_u (sr_u FI 30 0 (nI 3)) 31 3 (FI 31 3 + 1)) FJ kp)) : sr_Call mX5_mark (d + 4) [.ref 30, .int a, .int b] (hp Ls nz FI FJ kp) P := by
  have hg := hD.1
  have hk := (hD.2.2.2.2.1 i hi).1
  have e1 := (hM.2.2.2.1 i hi).1
  have kc : ∀ u : Nat, u < 6 → FI 37 i = nI u → kd i = u := fun u hu c => nI_inj (by omega) (by omega) (e1.symm.trans c)
  have wc : ∀ u : Nat, u < 6 → b = nI u → w = u := fun u hu c => nI_inj (by omega) (by omega) (ew.symm.trans c)
  refine eX5_mark [57, 41, 51] ?_
  refine c5_isGuest' hD hM (fun i2 hi2 e2 z hz => ?_) (fun c3 => absurd e (c3 i hi))
  refine sr_n1 hz ?_
  refine c5_in' (fun c1 c2 z hz => ?_) (fun c z hz => ?_)
  · refine sr_n1 hz ?_
    refine ⟨i, ⟨e, show i < 5 by omega⟩, ?_⟩
    refine sr_ite (c := FI 37 i = b) (fun c => ?_) (fun n1 => ?_)
    · have := kc w hw (c.trans ew)
      exact h1 (by simp [sp_isK, this])
    have n1 : kd i ≠ w := fun q => n1 (by rw [e1, ew, q])
    have l51 : sp_isK (kd i) w = false → sr_Go mX5_mark (d + 4) 51 [some (.ref 30), some (.int a), some (.int b), some (.int (FI 37 i))] [] (0, 0) (hp Ls nz FI FJ kp) P := by
      intro hf
      refine eX5_mark [] ?_
      exact c5_meets (a := 3) rfl (by omega) (h0 hf)
    have l41 : ¬ (kd i = 4 ∧ w = 1) → sr_Go mX5_mark (d + 4) 41 [some (.ref 30), some (.int a), some (.int b), some (.int (FI 37 i))] [] (0, 0) (hp Ls nz FI FJ kp) P := by
      intro n2
      refine eX5_mark [57, 51] ?_
      refine sr_ite (c := b = nI 3) (fun c => ?_) (fun c => ?_)
      · have c := wc 3 (by omega) c
        refine sr_ite (c := FI 37 i = nI 5) (fun c2 => ?_) (fun c2 => ?_)
        · have c2 := kc 5 (by omega) c2
          exact h1 (by simp [sp_isK, c, c2])
        · have c2 : kd i ≠ 5 := fun q => c2 (by rw [e1, q])
          exact l51 (by subst c; simp [sp_isK, n1, c2])
      · have c : w ≠ 3 := fun q => c (by rw [ew, q])
        exact l51 (by simp [sp_isK, n1, c]; omega)
    refine sr_ite (c := b = nI 1) (fun c => ?_) (fun c => ?_)
    · have c := wc 1 (by omega) c
      refine sr_ite (c := FI 37 i = nI 4) (fun c2 => ?_) (fun c2 => ?_)
      · have c2 := kc 4 (by omega) c2
        exact h1 (by simp [sp_isK, c, c2])
      · have c2 : kd i ≠ 4 := fun q => c2 (by rw [e1, q])
        exact l41 (by omega)
    · have c : w ≠ 1 := fun q => c (by rw [ew, q])
      exact l41 (by omega)
  · exfalso
    subst ew
    rcases c with c | c
    · exact nI_nlt (a := w) (b := 1) (by omega) (by omega) c
    · exact nI_nlt (a := 5) (by omega) (by omega) c
theorem nb_bc' {l k : Nat} {x y : Int32} (hx : x = nI l) (hl : l < 256) (hy : y = nI k) (hk : k < 8) : x >>> ((y + nI 1) &&& 31) = nI (l / 2 ^ (k + 1)) := by
  rw [hx, hy, nI_add, nb_bc l hl (k + 1) (by omega)]
theorem q_mark {a b : Int32} (hI : sp_Inv xs nz FI FJ kp) : sp_two (sp_I Ls xs) mX4_mark mX5_mark (d + 4) [.int a, .int b] (hp Ls nz FI FJ kp) := by
  obtain ⟨hS, hO, hA, hB, hC, T, g, o, kd, lf, th, tn, D, vs, ac, gs, hD, hX, hM, hTd, hXT, hMT, hLG, hXL, hML, hRK⟩ := id hI
  have hg := hD.1
  have hV := sp_NVof hLG
  have hv1 := hV.2.1
  have bad : ((∀ i, i < g → a ≠ nI i) ∨ b < nI 1 ∨ nI 5 < b) → sr_Call mX5_mark (d + 4) [.ref 30, .int a, .int b] (hp Ls nz FI FJ kp) (fun v2 h2 => v2 = some (.int (sr_k (-1))) ∧ sp_I Ls xs h2) := by
    intro hb
    refine eX5_mark [] ?_
    refine c5_isGuest' hD hM (fun i hi e z hz => ?_) (fun c z hz => ?_)
    · refine sr_n1 hz ?_
      refine c5_in' (fun c1 c2 => ?_) (fun c z hz => ?_)
      · rcases hb with hb | hb | hb
        · exact absurd e (hb i hi)
        · exact absurd hb c1
        · exact absurd hb c2
      · refine sr_n0 hz ?_
        exact ⟨rfl, .of hI⟩
    · refine sr_n0 hz ?_
      exact ⟨rfl, .of hI⟩
  refine eX4_mark [] ?_
  refine c4_isGuest' hD hX (fun i hi e z hz => ?_) (fun c z hz => ?_)
  · refine sr_n1 hz ?_
    refine sr_ite (c := 0 < b) (fun c => ?_) (fun c => ?_)
    · refine sr_ite (c := nI 5 < b) (fun c2 => ?_) (fun c2 => ?_)
      · exact bad (Or.inr (Or.inr c2))
      · obtain ⟨w, hw0, hw, ew⟩ := sp_15 (fun q => (sp_pos.mpr q) c) c2
        have hl := (hD.2.2.2.2.1 i hi).2
        have hl64 := Nat.lt_of_lt_of_le hl (sp_pow_le hD.2.2.1)
        have e1 := (hX.2.2.2.1 i hi).2
        have e2 := (hM.2.2.2.1 i hi).2
        have ht := hTd i hi
        have hT6 := hD.2.2.1
        have hu : lf i ^^^ sp_sec T kd lf tn i < 256 := nb_xor64 hD.2.2.1 hl (sp_sec_lt hD hTd hi)
        refine c0_isOfKind' hD hX hO e hi ew hw hw0 (fun k z hz => ?_) (fun k z hz => ?_)
        · refine sr_n1 hz ?_
          have mp : ∀ r : Option Value, sr_Go mX5_mark (d + 4) 57 [some (.ref 30), some (.int a), some (.int b), some (.int (FI 37 i))] [] (0, 0) (hp Ls nz FI FJ kp) (fun v2 h2 => v2 = r ∧ sp_I Ls xs h2) → sr_Call mX5_mark (d + 4) [.ref 30, .int a, .int b] (hp Ls nz FI FJ kp) (fun v2 h2 => v2 = r ∧ sp_I Ls xs h2) := by
            intro r h
            exact c5_mark hD hM e hi ew hw0 hw (fun _ => h) (fun q => absurd k (by rw [q]; decide))
          subst ew
          refine sr_ite (c := nI w = nI 1) (fun s1 => ?_) (fun s1 => ?_)
          · refine ⟨i, ⟨e, show i < 5 by omega⟩, ?_⟩
            refine c4_secondLife hD hX hXT hTd e hi ?_
            refine c6_bitCount (l := lf i ^^^ sp_sec T kd lf tn i) (by show FI 10 i ^^^ _ = _; rw [e1, nI_xor]) hu ?_
            refine mp _ ?_
            refine eX5_mark [] ?_
            refine sr_ite (c := nI w = nI 1) (fun s => ?_) (fun s => absurd s1 s)
            refine ⟨i, ⟨e, show i < 5 by omega⟩, ?_⟩
            refine c5_second hD hM hMT hTd e hi ?_
            refine c5_bits (l := lf i ^^^ sp_sec T kd lf tn i) (by show FI 38 i ^^^ _ = _; rw [e2, nI_xor]) hu ?_
            exact ⟨rfl, .of hI⟩
          refine sr_ite (c := nI w = nI 2) (fun s2 => ?_) (fun s2 => ?_)
          · have hq : lf i / 2 ^ (tn i + 1) < 256 := Nat.lt_of_le_of_lt (Nat.div_le_self _ _) (by omega)
            refine ⟨i, ⟨e, show i < 5 by omega⟩, ?_⟩
            refine ⟨i, ⟨e, show i < 5 by omega⟩, ?_⟩
            refine c6_bitCount (l := lf i / 2 ^ (tn i + 1)) (nb_bc' e1 (by omega) (hXT i hi) (by omega)) hq ?_
            refine mp _ ?_
            refine eX5_mark [] ?_
            refine sr_ite (c := nI w = nI 1) (fun s => absurd s s1) (fun s => ?_)
            refine sr_ite (c := nI w = nI 2) (fun s => ?_) (fun s => absurd s2 s)
            refine ⟨i, ⟨e, show i < 5 by omega⟩, ?_⟩
            refine ⟨i, ⟨e, show i < 5 by omega⟩, ?_⟩
            refine c5_bits (l := lf i / 2 ^ (tn i + 1)) (nb_bc' e2 (by omega) (hMT i hi) (by omega)) hq ?_
            exact ⟨rfl, .of hI⟩
          refine sr_ite (c := nI w = nI 3) (fun s3 => ?_) (fun s3 => ?_)
          · refine c1_lockedOf (sp_XNof hXL) hV e (by omega) ?_
            refine mp _ ?_
            refine eX5_mark [] ?_
            refine sr_ite (c := nI w = nI 1) (fun s => absurd s s1) (fun s => ?_)
            refine sr_ite (c := nI w = nI 2) (fun s => absurd s s2) (fun s => ?_)
            refine sr_ite (c := nI w = nI 3) (fun s => ?_) (fun s => absurd s3 s)
            refine ⟨1, ⟨rfl, show 1 < 12 by omega⟩, ?_⟩
            refine ⟨?_, .of hI⟩
            show some (Value.int ((FI 43 1 >>> (a &&& 31)) &&& nI 1)) = _
            rw [hML.2.1 1 (by omega), e, nb_shr _ (by omega) _ (by omega)]
          refine sr_ite (c := nI w = nI 4) (fun s4 => ?_) (fun s4 => ?_)
          · refine c0_soldiers hD hX hO ?_
            refine mp _ ?_
            refine eX5_mark [] ?_
            refine sr_ite (c := nI w = nI 1) (fun s => absurd s s1) (fun s => ?_)
            refine sr_ite (c := nI w = nI 2) (fun s => absurd s s2) (fun s => ?_)
            refine sr_ite (c := nI w = nI 3) (fun s => absurd s s3) (fun s => ?_)
            refine sr_ite (c := nI w = nI 4) (fun s => ?_) (fun s => absurd s4 s)
            refine c5_soldiers hD hM ?_
            exact ⟨rfl, .of hI⟩
          · have hq : sp_things th (lf i) o &&& sp_things th (sp_sec T kd lf tn i) o < 256 := Nat.lt_of_le_of_lt Nat.and_le_left (nb_things hD.2.1)
            refine c4_thingsIn0 hD hX e hi rfl ?_
            refine c4_thingsIn1 hD hX hXT hTd e hi rfl ?_
            refine c6_bitCount (nI_and _ _) hq ?_
            refine mp _ ?_
            refine eX5_mark [] ?_
            refine sr_ite (c := nI w = nI 1) (fun s => absurd s s1) (fun s => ?_)
            refine sr_ite (c := nI w = nI 2) (fun s => absurd s s2) (fun s => ?_)
            refine sr_ite (c := nI w = nI 3) (fun s => absurd s s3) (fun s => ?_)
            refine sr_ite (c := nI w = nI 4) (fun s => absurd s s4) (fun s => ?_)
            refine ⟨i, ⟨e, show i < 5 by omega⟩, ?_⟩
            refine c5_thingsOf hD hM e2 hl ?_
            refine c5_second hD hM hMT hTd e hi ?_
            refine c5_thingsOf hD hM rfl (sp_sec_lt hD hTd hi) ?_
            refine c5_bits (nI_and _ _) hq ?_
            exact ⟨rfl, .of hI⟩
        · refine sr_n0 hz ?_
          refine c4_found (a := 3) rfl (by omega) ?_
          refine c5_mark (FI := sr_u (sr_u FI 0 14 (nI 3)) 29 3 (FI 29 3 + 1)) hD hM e hi ew hw0 hw (fun q => absurd k (by rw [q]; decide)) (fun _ => ?_)
          exact ⟨rfl, .of (sp_Inv_found hI (a := 3) (by omega))⟩
    · exact bad (Or.inr (Or.inl (sp_pos.mp c)))
  · refine sr_n0 hz ?_
    exact bad (Or.inl c)
end NE
