/-! pairs of calls: fits, twins, lives -/
def sp_set (f : Nat → Bool) : Nat → Nat
  | 0 => 0
  | i + 1 => sp_set f i + (if f i then 2 ^ i else 0)
theorem sp_set_lt (f : Nat → Bool) : ∀ i, sp_set f i < 2 ^ i
  | 0 => by simp [sp_set]
  | i + 1 => by
    have := sp_set_lt f i
    unfold sp_set
    rw [Nat.pow_succ]
    split <;> omega
theorem sp_set_s {f : Nat → Bool} {i : Nat} (hi : i < 31) : f i = true → nI (sp_set f i) ||| (nI 1 <<< (nI i &&& 31)) = nI (sp_set f (i + 1)) := by
  intro h
  rw [nI_shl1 i hi, nI_or, sp_or_pow (sp_set_lt f i)]
  simp [sp_set, h]
theorem sp_set_n {f : Nat → Bool} {i : Nat} : f i = false → sp_set f (i + 1) = sp_set f i := by
  intro h
  simp [sp_set, h]
def sp_fst (f : Nat → Bool) : Nat → Int32
  | 0 => sr_k (-9)
  | n + 1 => if f n then (if sp_cnt f n = 0 then nI n else sp_fst f n) else sp_fst f n
section ST
variable {Ls nz d T g o : Nat} {kd lf th tn v : Nat → Nat} {xs : Nat → Int32} {FI : Nat → Nat → Int32} {FJ : Nat → Nat → Int64} {kp : Nat → Option Nat} {P : Option Value → sr_H → Prop}
theorem c4_fits_loop {i s : Nat} {x y : Int32} (hD : sp_HD T g o kd lf th) (hX : sp_XH FI T g o kd lf th) (hx : x = nI i) (hi : i < g) (hy : y = nI s) (hs : s < 2 ^ o) (h : P (some (.int (nI (sp_set (fun t => decide (sp_things th (sp_second (kd i) (lf i) T t) o = s)) T)))) (hp Ls nz FI FJ kp)) : ∀ (m t : Nat) (z u : Int32), t + m = T → z = nI t → u = nI (sp_set (fun t => decide (sp_things th (sp_second (kd i) (lf i) T t) o = s)) t) → sr_Go mX4_fits (d + 3) 23 [some (.ref 0), some (.int x), some (.int y), some (.int u), some (.int z)] [] (0, 0) (hp Ls nz FI FJ kp) P := by
  have hT := hD.2.2.1
  have ho := hD.2.1
  have h8 : 2 ^ o ≤ 256 := nb_powle (T := 8) (by omega)
  intro m
  induction m with
  | zero =>
    intro t z u ht hz hu
    refine eX4_fits [23] ?_
    refine sr_ite (c := z < FI 8 0) (fun c => ?_) (fun c => ?_)
    · exfalso; rw [hz, hX.1] at c; have := (nI_ltI (by omega) (by omega)).mp c; omega
    · have : t = T := by omega
      subst this
      rw [← hu] at h
      exact h
  | succ m ih =>
    intro t z u ht hz hu
    refine eX4_fits [23] ?_
    refine sr_ite (c := z < FI 8 0) (fun c => ?_) (fun c => ?_)
    · refine c4_thingsByTurn (i := i) (t := t) hD hX hx hi hz (by omega) ?_
      have hb := nb_things (th := th) (l := sp_second (kd i) (lf i) T t) ho
      refine sr_ite (c := nI (sp_things th (sp_second (kd i) (lf i) T t) o) = y) (fun c1 => ?_) (fun c1 => ?_)
      · rw [hy] at c1
        have c1 := nI_inj (by omega) (by omega) c1
        refine ih (t + 1) _ _ (by omega) (by rw [hz]; exact nI_1 t) ?_
        show u ||| (nI 1 <<< (z &&& 31)) = _
        rw [hu, hz]
        exact sp_set_s (by omega) (by simp [c1])
      · have c1 : sp_things th (sp_second (kd i) (lf i) T t) o ≠ s := fun q => c1 (by rw [hy, q])
        refine ih (t + 1) _ _ (by omega) (by rw [hz]; exact nI_1 t) ?_
        rw [sp_set_n (by simp [c1])]
        exact hu
    · exfalso; rw [hz, hX.1] at c; exact c (nI_lt (by omega) (by omega))
theorem c5_fits_loop {i s : Nat} {x y : Int32} (hD : sp_HD T g o kd lf th) (hX : sp_MH FI T g o kd lf th) (hx : x = nI i) (hi : i < g) (hy : y = nI s) (hs : s < 2 ^ o) (h : P (some (.int (nI (sp_set (fun t => decide (sp_things th (sp_second (kd i) (lf i) T t) o = s)) T)))) (hp Ls nz FI FJ kp)) : ∀ (m t : Nat) (z u : Int32), t + m = T → z = nI t → u = nI (sp_set (fun t => decide (sp_things th (sp_second (kd i) (lf i) T t) o = s)) t) → sr_Go mX5_fits (d + 3) 23 [some (.ref 30), some (.int x), some (.int y), some (.int u), some (.int z)] [] (0, 0) (hp Ls nz FI FJ kp) P := by
  have hT := hD.2.2.1
  have ho := hD.2.1
  have h8 : 2 ^ o ≤ 256 := nb_powle (T := 8) (by omega)
  intro m
  induction m with
  | zero =>
    intro t z u ht hz hu
    refine eX5_fits [23] ?_
    refine sr_ite (c := z < FI 30 11) (fun c => ?_) (fun c => ?_)
    · exfalso; rw [hz, hX.1] at c; have := (nI_ltI (by omega) (by omega)).mp c; omega
    · have : t = T := by omega
      subst this
      rw [← hu] at h
      exact h
  | succ m ih =>
    intro t z u ht hz hu
    refine eX5_fits [23] ?_
    refine sr_ite (c := z < FI 30 11) (fun c => ?_) (fun c => ?_)
    · refine c5_secondBy (i := i) (t := t) hD hX hx hi hz (by omega) ?_
      refine c5_thingsOf hD hX rfl (sp_second_lt (hD.2.2.2.2.1 i hi).1 (by omega) (by omega) (hD.2.2.2.2.1 i hi).2) ?_
      have hb := nb_things (th := th) (l := sp_second (kd i) (lf i) T t) ho
      refine sr_ite (c := nI (sp_things th (sp_second (kd i) (lf i) T t) o) = y) (fun c1 => ?_) (fun c1 => ?_)
      · rw [hy] at c1
        have c1 := nI_inj (by omega) (by omega) c1
        refine ih (t + 1) _ _ (by omega) (by rw [hz]; exact nI_1 t) ?_
        show u ||| (nI 1 <<< (z &&& 31)) = _
        rw [hu, hz]
        exact sp_set_s (by omega) (by simp [c1])
      · have c1 : sp_things th (sp_second (kd i) (lf i) T t) o ≠ s := fun q => c1 (by rw [hy, q])
        refine ih (t + 1) _ _ (by omega) (by rw [hz]; exact nI_1 t) ?_
        show u ||| nI 0 = _
        rw [sp_set_n (by simp [c1]), hu, nI_or, Nat.or_zero]
    · exfalso; rw [hz, hX.1] at c; exact c (nI_lt (by omega) (by omega))
theorem q_fits {a b : Int32} (hI : sp_Inv xs nz FI FJ kp) : sp_two (sp_I Ls xs) mX4_fits mX5_fits (d + 4) [.int a, .int b] (hp Ls nz FI FJ kp) := by
  obtain ⟨hS, hO, hA, hB, hC, T, g, o, kd, lf, th, tn, D, vs, ac, gs, hD, hX, hM, hTd, hXT, hMT, hLG, hXL, hML, hRK⟩ := id hI
  have bad : ((∀ i, i < g → a ≠ nI i) ∨ (∀ i, i < 2 ^ o → b ≠ nI i)) → sr_Call mX5_fits (d + 4) [.ref 30, .int a, .int b] (hp Ls nz FI FJ kp) (fun v2 h2 => v2 = some (.int (sr_k (-1))) ∧ sp_I Ls xs h2) := by
    intro hb
    refine eX5_fits [23] ?_
    refine c5_isGuest hD hM (fun i hi e => ?_) (fun c => ?_)
    · refine c5_isThings hD hM (fun k hk e2 => ?_) (fun c => ?_)
      · rcases hb with hb | hb
        · exact absurd e (hb i hi)
        · exact absurd e2 (hb k hk)
      · exact ⟨rfl, .of hI⟩
    · exact ⟨rfl, .of hI⟩
  refine eX4_fits [23] ?_
  refine c4_isGuest hD hX (fun i hi e => ?_) (fun c => ?_)
  · refine c4_isThingSet hD hX (fun s hs e2 => ?_) (fun c => ?_)
    · refine c4_fits_loop hD hX e hi e2 hs ?_ T 0 _ _ (by omega) rfl rfl
      refine eX5_fits [23] ?_
      refine c5_isGuest hD hM (fun i2 hi2 e3 => ?_) (fun c3 => absurd e (c3 i hi))
      refine c5_isThings hD hM (fun k hk e3 => ?_) (fun c3 => absurd e2 (c3 s hs))
      refine c5_fits_loop hD hM e hi e2 hs ?_ T 0 _ _ (by omega) rfl rfl
      exact ⟨rfl, .of hI⟩
    · exact bad (Or.inr c)
  · exact bad (Or.inl c)
theorem c4_twins_loop {i : Nat} {x : Int32} (hD : sp_HD T g o kd lf th) (hX : sp_XH FI T g o kd lf th) (hXT : sp_XT FI g tn) (hTd : sp_TD T g tn) (hx : x = nI i) (hi : i < g) (h : P (some (.int (nI (sp_set (fun j => decide (j ≠ i ∧ lf j = sp_sec T kd lf tn i)) g)))) (hp Ls nz FI FJ kp)) : ∀ (m t : Nat) (z u : Int32), t + m = g → z = nI t → u = nI (sp_set (fun j => decide (j ≠ i ∧ lf j = sp_sec T kd lf tn i)) t) → sr_Go mX4_twins (d + 4) 14 [some (.ref 0), some (.int x), some (.int u), some (.int z)] [] (0, 0) (hp Ls nz FI FJ kp) P := by
  have hg := hD.1
  intro m
  induction m with
  | zero =>
    intro t z u ht hz hu
    refine eX4_twins [14] ?_
    refine sr_ite (c := z < FI 8 1) (fun c => ?_) (fun c => ?_)
    · exfalso; rw [hz, hX.2.1] at c; have := (nI_ltI (by omega) (by omega)).mp c; omega
    · have : t = g := by omega
      subst this
      rw [← hu] at h
      exact h
  | succ m ih =>
    intro t z u ht hz hu
    refine eX4_twins [14] ?_
    refine sr_ite (c := z < FI 8 1) (fun c => ?_) (fun c => ?_)
    · refine sr_ite (c := z = x) (fun c0 => ?_) (fun c0 => ?_)
      · have c0 : t = i := nI_inj (by omega) (by omega) (hz.symm.trans (c0.trans hx))
        refine ih (t + 1) _ _ (by omega) (by rw [hz]; exact nI_1 t) ?_
        rw [sp_set_n (by simp [c0])]
        exact hu
      · have c0 : t ≠ i := fun q => c0 (by rw [hz, hx, q])
        refine c4_isSecondOf (i := t) (j := i) hD hX hXT hTd hz (by omega) hx hi (fun c1 => ?_) (fun c1 => ?_)
        · refine ih (t + 1) _ _ (by omega) (by rw [hz]; exact nI_1 t) ?_
          show u ||| (nI 1 <<< (z &&& 31)) = _
          rw [hu, hz]
          exact sp_set_s (by omega) (by simp [c0, c1])
        · refine ih (t + 1) _ _ (by omega) (by rw [hz]; exact nI_1 t) ?_
          rw [sp_set_n (by simp [c1])]
          exact hu
    · exfalso; rw [hz, hX.2.1] at c; exact c (nI_lt (by omega) (by omega))
theorem c5_twins_loop {i : Nat} {x : Int32} (hD : sp_HD T g o kd lf th) (hX : sp_MH FI T g o kd lf th) (hXT : sp_MT FI g tn) (hTd : sp_TD T g tn) (hx : x = nI i) (hi : i < g) (h : P (some (.int (nI (sp_set (fun j => decide (j ≠ i ∧ lf j = sp_sec T kd lf tn i)) g)))) (hp Ls nz FI FJ kp)) : ∀ (m t : Nat) (z u : Int32), t + m = g → z = nI t → u = nI (sp_set (fun j => decide (j ≠ i ∧ lf j = sp_sec T kd lf tn i)) t) → sr_Go mX5_twins (d + 4) 14 [some (.ref 30), some (.int x), some (.int u), some (.int z)] [] (0, 0) (hp Ls nz FI FJ kp) P := by
  have hg := hD.1
  intro m
  induction m with
  | zero =>
    intro t z u ht hz hu
    refine eX5_twins [14] ?_
    refine sr_ite (c := z < FI 30 10) (fun c => ?_) (fun c => ?_)
    · exfalso; rw [hz, hX.2.1] at c; have := (nI_ltI (by omega) (by omega)).mp c; omega
    · have : t = g := by omega
      subst this
      rw [← hu] at h
      exact h
  | succ m ih =>
    intro t z u ht hz hu
    refine eX5_twins [14] ?_
    refine sr_ite (c := z < FI 30 10) (fun c => ?_) (fun c => ?_)
    · refine c5_isSecond (i := t) (j := i) hD hX hXT hTd hz (by omega) hx hi (fun c0 c1 => ?_) (fun c1 => ?_)
      · refine ih (t + 1) _ _ (by omega) (by rw [hz]; exact nI_1 t) ?_
        show u ||| (nI 1 <<< (z &&& 31)) = _
        rw [hu, hz]
        exact sp_set_s (by omega) (by simp [c0, c1])
      · refine ih (t + 1) _ _ (by omega) (by rw [hz]; exact nI_1 t) ?_
        show u ||| nI 0 = _
        rw [sp_set_n (by simp only [decide_eq_false_iff_not]; rintro ⟨q1, q2⟩; exact c1.elim q1 (fun q => q q2)), hu, nI_or, Nat.or_zero]
    · exfalso; rw [hz, hX.2.1] at c; exact c (nI_lt (by omega) (by omega))
theorem q_twins {a : Int32} (hI : sp_Inv xs nz FI FJ kp) : sp_two (sp_I Ls xs) mX4_twins mX5_twins (d + 4) [.int a] (hp Ls nz FI FJ kp) := by
  obtain ⟨hS, hO, hA, hB, hC, T, g, o, kd, lf, th, tn, D, vs, ac, gs, hD, hX, hM, hTd, hXT, hMT, hLG, hXL, hML, hRK⟩ := id hI
  refine eX4_twins [14] ?_
  refine c4_isGuest hD hX (fun i hi e => ?_) (fun c => ?_)
  · refine c4_twins_loop hD hX hXT hTd e hi ?_ g 0 _ _ (by omega) rfl rfl
    refine eX5_twins [14] ?_
    refine c5_isGuest hD hM (fun i2 hi2 e3 => ?_) (fun c3 => absurd e (c3 i hi))
    refine c5_twins_loop hD hM hMT hTd e hi ?_ g 0 _ _ (by omega) rfl rfl
    exact ⟨rfl, .of hI⟩
  · refine eX5_twins [14] ?_
    refine c5_isGuest hD hM (fun i2 hi2 e2 => absurd e2 (c i2 hi2)) (fun c3 => ?_)
    exact ⟨rfl, .of hI⟩
theorem sp_cnt_le (f : Nat → Bool) : ∀ n, sp_cnt f n ≤ n
  | 0 => Nat.le_refl _
  | n + 1 => by
    have := sp_cnt_le f n
    unfold sp_cnt
    split <;> omega
theorem c4_lives_loop {s : Nat} {y : Int32} (hD : sp_HD T g o kd lf th) (hX : sp_XH FI T g o kd lf th) (hy : y = nI s) (hs : s < 2 ^ o) (h : P (some (.int (nI (sp_cnt (fun l => decide (sp_things th l o = s)) (2 ^ T))))) (hp Ls nz (sr_u FI 0 11 (sp_fst (fun l => decide (sp_things th l o = s)) (2 ^ T))) FJ kp)) : ∀ (m l : Nat) (z u w : Int32), l + m = 2 ^ T → z = nI l → u = nI (sp_cnt (fun l => decide (sp_things th l o = s)) l) → w = sp_fst (fun l => decide (sp_things th l o = s)) l → sr_Go mX4_lives (d + 3) 31 [some (.ref 0), some (.int y), some (.int u), some (.int w), some (.int z)] [] (0, 0) (hp Ls nz FI FJ kp) P := by
  have hT := sp_pow_le hD.2.2.1
  have ho := hD.2.1
  have h8 : 2 ^ o ≤ 256 := nb_powle (T := 8) (by omega)
  intro m
  induction m with
  | zero =>
    intro l z u w hl hz hu hw
    refine eX4_lives [31] ?_
    refine c0_lifeCount hD hX ?_
    refine sr_ite (c := z < nI (2 ^ T)) (fun c => ?_) (fun c => ?_)
    · exfalso; rw [hz] at c; have := (nI_ltI (by omega) (by omega)).mp c; omega
    · have : l = 2 ^ T := by omega
      subst this
      refine c4_tell ?_
      rw [← hu, ← hw] at h
      exact h
  | succ m ih =>
    intro l z u w hl hz hu hw
    refine eX4_lives [31] ?_
    refine c0_lifeCount hD hX ?_
    refine sr_ite (c := z < nI (2 ^ T)) (fun c => ?_) (fun c => ?_)
    · refine c0_thingsOfLife (l := l) hD hX hz (by omega) ?_
      have hb := nb_things (th := th) (l := l) ho
      refine sr_ite (c := nI (sp_things th l o) = y) (fun c1 => ?_) (fun c1 => ?_)
      · rw [hy] at c1
        have c1 := nI_inj (by omega) (by omega) c1
        have hcl := sp_cnt_le (fun l => decide (sp_things th l o = s)) l
        refine sr_ite (c := u = 0) (fun c2 => ?_) (fun c2 => ?_)
        · rw [hu] at c2
          have c2 := nI_inj (b := 0) (by omega) (by omega) c2
          refine ih (l + 1) _ _ _ (by omega) (by rw [hz]; exact nI_1 l) (by rw [hu]; simp [sp_cnt, c1]; exact nI_1 _) ?_
          rw [hz]; simp [sp_fst, c1, c2]
        · have c2 : sp_cnt (fun l => decide (sp_things th l o = s)) l ≠ 0 := fun q => c2 (by rw [hu, q]; rfl)
          refine ih (l + 1) _ _ _ (by omega) (by rw [hz]; exact nI_1 l) (by rw [hu]; simp [sp_cnt, c1]; exact nI_1 _) ?_
          rw [hw]; simp [sp_fst, c1, c2]
      · have c1 : sp_things th l o ≠ s := fun q => c1 (by rw [hy, q])
        refine ih (l + 1) _ _ _ (by omega) (by rw [hz]; exact nI_1 l) (by rw [hu]; simp [sp_cnt, c1]) ?_
        rw [hw]; simp [sp_fst, c1]
    · exfalso; rw [hz] at c; exact c (nI_lt (by omega) (by omega))
theorem c5_lives_loop {s : Nat} {y : Int32} (hD : sp_HD T g o kd lf th) (hX : sp_MH FI T g o kd lf th) (hy : y = nI s) (hs : s < 2 ^ o) (h : P (some (.int (nI (sp_cnt (fun l => decide (sp_things th l o = s)) (2 ^ T))))) (hp Ls nz (sr_u FI 30 2 (sp_fst (fun l => decide (sp_things th l o = s)) (2 ^ T))) FJ kp)) : ∀ (m l : Nat) (z u w : Int32), l + m = 2 ^ T → z = nI l → u = nI (sp_cnt (fun l => decide (sp_things th l o = s)) l) → w = sp_fst (fun l => decide (sp_things th l o = s)) l → sr_Go mX5_lives (d + 3) 28 [some (.ref 30), some (.int y), some (.int u), some (.int w), some (.int z)] [] (0, 0) (hp Ls nz FI FJ kp) P := by
  have hT := sp_pow_le hD.2.2.1
  have ho := hD.2.1
  have h8 : 2 ^ o ≤ 256 := nb_powle (T := 8) (by omega)
  intro m
  induction m with
  | zero =>
    intro l z u w hl hz hu hw
    refine eX5_lives [28] ?_
    refine c5_allLives hD hX ?_
    refine sr_ite (c := z < nI (2 ^ T)) (fun c => ?_) (fun c => ?_)
    · exfalso; rw [hz] at c; have := (nI_ltI (by omega) (by omega)).mp c; omega
    · have : l = 2 ^ T := by omega
      subst this
      refine c5_tells ?_
      rw [← hu, ← hw] at h
      exact h
  | succ m ih =>
    intro l z u w hl hz hu hw
    refine eX5_lives [28] ?_
    refine c5_allLives hD hX ?_
    refine sr_ite (c := z < nI (2 ^ T)) (fun c => ?_) (fun c => ?_)
    · refine c5_thingsOf (l := l) hD hX hz (by omega) ?_
      have hb := nb_things (th := th) (l := l) ho
      refine sr_ite (c := nI (sp_things th l o) = y) (fun c1 => ?_) (fun c1 => ?_)
      · rw [hy] at c1
        have c1 := nI_inj (by omega) (by omega) c1
        have hcl := sp_cnt_le (fun l => decide (sp_things th l o = s)) l
        refine sr_ite (c := u = 0) (fun c2 => ?_) (fun c2 => ?_)
        · rw [hu] at c2
          have c2 := nI_inj (b := 0) (by omega) (by omega) c2
          refine ih (l + 1) _ _ _ (by omega) (by rw [hz]; exact nI_1 l) (by rw [hu]; simp [sp_cnt, c1]; exact nI_1 _) ?_
          rw [hz]; simp [sp_fst, c1, c2]
        · have c2 : sp_cnt (fun l => decide (sp_things th l o = s)) l ≠ 0 := fun q => c2 (by rw [hu, q]; rfl)
          refine ih (l + 1) _ _ _ (by omega) (by rw [hz]; exact nI_1 l) (by rw [hu]; simp [sp_cnt, c1]; exact nI_1 _) ?_
          rw [hw]; simp [sp_fst, c1, c2]
      · have c1 : sp_things th l o ≠ s := fun q => c1 (by rw [hy, q])
        refine ih (l + 1) _ _ _ (by omega) (by rw [hz]; exact nI_1 l) (by rw [hu]; simp [sp_cnt, c1]) ?_
        rw [hw]; simp [sp_fst, c1]
    · exfalso; rw [hz] at c; exact c (nI_lt (by omega) (by omega))
theorem q_lives {b : Int32} (hI : sp_Inv xs nz FI FJ kp) : sp_two (sp_I Ls xs) mX4_lives mX5_lives (d + 4) [.int b] (hp Ls nz FI FJ kp) := by
  obtain ⟨hS, hO, hA, hB, hC, T, g, o, kd, lf, th, tn, D, vs, ac, gs, hD, hX, hM, hTd, hXT, hMT, hLG, hXL, hML, hRK⟩ := id hI
  refine eX4_lives [31] ?_
  refine sr_ite (c := FI 8 1 = 0) (fun c => ?_) (fun c => ?_)
  · rw [hX.2.1] at c
    refine eX5_lives [28] ?_
    refine sr_ite (c := FI 30 10 = 0) (fun c2 => ?_) (fun c2 => absurd (by rw [hM.2.1]; exact c) c2)
    exact ⟨rfl, .of hI⟩
  refine c4_isThingSet hD hX (fun s hs e2 => ?_) (fun c1 => ?_)
  · refine c4_lives_loop hD hX e2 hs ?_ (2 ^ T) 0 _ _ _ (by omega) rfl rfl rfl
    refine eX5_lives [28] ?_
    refine sr_ite (c := FI 30 10 = 0) (fun c2 => absurd (by rw [hX.2.1, ← hM.2.1]; exact c2) c) (fun c2 => ?_)
    refine c5_isThings (FI := sr_u FI 0 11 _) hD hM (fun k hk e3 => ?_) (fun c3 => absurd e2 (c3 s hs))
    refine c5_lives_loop (FI := sr_u FI 0 11 _) hD hM e2 hs ?_ (2 ^ T) 0 _ _ _ (by omega) rfl rfl rfl
    exact ⟨rfl, .of (sp_Inv_tell hI _)⟩
  · refine eX5_lives [28] ?_
    refine sr_ite (c := FI 30 10 = 0) (fun c2 => absurd (by rw [hX.2.1, ← hM.2.1]; exact c2) c) (fun c2 => ?_)
    refine c5_isThings hD hM (fun k hk e3 => absurd e3 (c1 k hk)) (fun c3 => ?_)
    exact ⟨rfl, .of hI⟩
end ST
