/-! pairs of calls: drawer, nearest -/
def sp_drw (W : Nat → Int32) (L0 : Int32) : Nat → Int32 × Int32
  | 0 => (0, L0)
  | i + 1 => if W i < (sp_drw W L0 i).2 then (nI i, W i) else sp_drw W L0 i
theorem sp_drw_eq {W : Nat → Int32} {L0 L1 : Int32} (h0 : W 0 < L0) (h1 : W 0 < L1) : ∀ n, sp_drw W L0 (n + 1) = sp_drw W L1 (n + 1)
  | 0 => by simp [sp_drw, h0, h1]
  | n + 1 => by
    rw [sp_drw, sp_drw_eq h0 h1 n]
    rfl
def sp_dW (T : Nat) (th : Nat → Nat) (k l : Nat) (u : Nat) : Int32 := if nI (sp_cnt (fun t => sp_hs th (sp_second k l T t) u) T) < nI T - nI (sp_cnt (fun t => sp_hs th (sp_second k l T t) u) T) then nI T - nI (sp_cnt (fun t => sp_hs th (sp_second k l T t) u) T) else nI (sp_cnt (fun t => sp_hs th (sp_second k l T t) u) T)
theorem sp_dW_lt {T : Nat} {th : Nat → Nat} {k l u : Nat} (hT : T ≤ 6) {L : Nat} (hL : T < L) (hL2 : L < 2147483648) : sp_dW T th k l u < nI L := by
  have h := sp_cnt_le (fun t => sp_hs th (sp_second k l T t) u) T
  unfold sp_dW
  rw [nI_sub h]
  split
  · exact nI_lt (by omega) hL2
  · exact nI_lt (by omega) hL2
/-- the nearest life -/
def sp_nr (f : Nat → Nat) (hs : Nat → Bool) : Nat → Option Nat
  | 0 => none
  | l + 1 => if hs l && (match sp_nr f hs l with
    | none => true
    | some b => decide (f l < f b)) then some l else sp_nr f hs l
theorem sp_nr_lt {f : Nat → Nat} {hs : Nat → Bool} : ∀ {l b : Nat}, sp_nr f hs l = some b → b < l
  | 0, b, h => by simp [sp_nr] at h
  | l + 1, b, h => by
    rw [sp_nr] at h
    by_cases c : (hs l && (match sp_nr f hs l with
      | none => true
      | some b => decide (f l < f b))) = true
    · rw [if_pos c] at h
      have := Option.some.inj h; omega
    · rw [if_neg c] at h
      have := sp_nr_lt h; omega
def sp_oI (q : Option Nat) : Int32 := match q with
  | none => sr_k (-9)
  | some b => nI b
def sp_oF (f : Nat → Nat) (L : Nat) (q : Option Nat) : Int32 := match q with
  | none => nI L
  | some b => nI (f b)
section DR
variable {Ls nz d T g o : Nat} {kd lf th tn v : Nat → Nat} {xs : Nat → Int32} {FI : Nat → Nat → Int32} {FJ : Nat → Nat → Int64} {kp : Nat → Option Nat} {P : Option Value → sr_H → Prop} {h9 : sr_H}
theorem c4_drawer_loop {i : Nat} {x L0 : Int32} (hD : sp_HD T g o kd lf th) (hX : sp_XH FI T g o kd lf th) (hx : x = nI i) (hi : i < g) (h : P (some (.int (sp_drw (sp_dW T th (kd i) (lf i)) L0 o).1)) (hp Ls nz (sr_u FI 0 11 (sp_drw (sp_dW T th (kd i) (lf i)) L0 o).2) FJ kp)) : ∀ k, k ≤ o → ∀ (z s f : Int32) (e1 e2 : Option Value), z = nI k → (s, f) = sp_drw (sp_dW T th (kd i) (lf i)) L0 k → sr_Go mX4_drawer (d + 3) 25 [some (.ref 0), some (.int x), some (.int s), some (.int f), some (.int z), e1, e2] [] (0, 0) (hp Ls nz FI FJ kp) P := by
  have ho := hD.2.1
  refine sp_for (fun z s f e1 e2 hz hs => ?_) (fun k hk ih z s f e1 e2 hz hs => ?_)
  · refine eX4_drawer [25] ?_
    refine sr_ite (c := z < FI 8 2) (fun c => absurd c (by rw [hz, hX.2.2.1]; exact nI_nlt (by omega) (by omega))) (fun c => ?_)
    refine c4_tell ?_
    rw [← hs] at h; exact h
  · refine eX4_drawer [25] ?_
    refine sr_ite (c := z < FI 8 2) (fun c => ?_) (fun c => absurd (by rw [hz, hX.2.2.1]; exact nI_lt hk (by omega)) c)
    refine c4_turnsWith hD hX hx hi hz hk ?_
    have e9 : (if nI (sp_cnt (fun t => sp_hs th (sp_second (kd i) (lf i) T t) k) T) < FI 8 0 - nI (sp_cnt (fun t => sp_hs th (sp_second (kd i) (lf i) T t) k) T) then FI 8 0 - nI (sp_cnt (fun t => sp_hs th (sp_second (kd i) (lf i) T t) k) T) else nI (sp_cnt (fun t => sp_hs th (sp_second (kd i) (lf i) T t) k) T)) = sp_dW T th (kd i) (lf i) k := by rw [hX.1]; rfl
    refine sr_ite (c := (if nI (sp_cnt (fun t => sp_hs th (sp_second (kd i) (lf i) T t) k) T) < FI 8 0 - nI (sp_cnt (fun t => sp_hs th (sp_second (kd i) (lf i) T t) k) T) then FI 8 0 - nI (sp_cnt (fun t => sp_hs th (sp_second (kd i) (lf i) T t) k) T) else nI (sp_cnt (fun t => sp_hs th (sp_second (kd i) (lf i) T t) k) T)) < f) (fun c2 => ?_) (fun c2 => ?_)
    · refine ih _ _ _ _ _ (by rw [hz]; exact nI_1 k) ?_
      rw [e9] at c2
      rw [sp_drw, ← hs, if_pos c2, ← e9, hz]; rfl
    · refine ih _ _ _ _ _ (by rw [hz]; exact nI_1 k) ?_
      rw [e9] at c2
      rw [sp_drw, ← hs, if_neg c2]
theorem c5_drawer_loop {i : Nat} {x L0 : Int32} (hD : sp_HD T g o kd lf th) (hX : sp_MH FI T g o kd lf th) (hx : x = nI i) (hi : i < g) (h : P (some (.int (sp_drw (sp_dW T th (kd i) (lf i)) L0 o).1)) (hp Ls nz (sr_u FI 30 2 (sp_drw (sp_dW T th (kd i) (lf i)) L0 o).2) FJ kp)) : ∀ k, k ≤ o → ∀ (z s f : Int32) (e1 e2 : Option Value), z = nI k → (s, f) = sp_drw (sp_dW T th (kd i) (lf i)) L0 k → sr_Go mX5_drawer (d + 3) 18 [some (.ref 30), some (.int x), some (.int s), some (.int f), some (.int z), e1, e2] [] (0, 0) (hp Ls nz FI FJ kp) P := by
  have ho := hD.2.1
  refine sp_for (fun z s f e1 e2 hz hs => ?_) (fun k hk ih z s f e1 e2 hz hs => ?_)
  · refine eX5_drawer [18] ?_
    refine sr_ite (c := z < FI 30 12) (fun c => absurd c (by rw [hz, hX.2.2.1]; exact nI_nlt (by omega) (by omega))) (fun c => ?_)
    refine c5_tells ?_
    rw [← hs] at h; exact h
  · refine eX5_drawer [18, 60] ?_
    refine sr_ite (c := z < FI 30 12) (fun c => ?_) (fun c => absurd (by rw [hz, hX.2.2.1]; exact nI_lt hk (by omega)) c)
    refine c5_thereBy hD hX hx hi hz hk ?_
    have e9 : (if FI 30 11 - nI (sp_cnt (fun t => sp_hs th (sp_second (kd i) (lf i) T t) k) T) < nI (sp_cnt (fun t => sp_hs th (sp_second (kd i) (lf i) T t) k) T) then nI (sp_cnt (fun t => sp_hs th (sp_second (kd i) (lf i) T t) k) T) else FI 30 11 - nI (sp_cnt (fun t => sp_hs th (sp_second (kd i) (lf i) T t) k) T)) = sp_dW T th (kd i) (lf i) k := by rw [hX.1, ← nb_max2]; rfl
    have l60 : ∀ (w : Int32) (e3 e4 : Option Value), w = sp_dW T th (kd i) (lf i) k → sr_Go mX5_drawer (d + 3) 60 [some (.ref 30), some (.int x), some (.int s), some (.int f), some (.int z), some (.int (nI (sp_cnt (fun t => sp_hs th (sp_second (kd i) (lf i) T t) k) T))), e4] [.int w] (0, 0) (hp Ls nz FI FJ kp) P := by
      intro w e3 e4 hw
      refine eX5_drawer [18] ?_
      refine sr_ite (c := w < f) (fun c2 => ?_) (fun c2 => ?_)
      · refine sr_ite (c := w < f) (fun c3 => ?_) (fun c3 => absurd c2 c3)
        refine ih _ _ _ _ _ (by rw [hz]; exact nI_1 k) ?_
        rw [sp_drw, ← hs, ← hw, if_pos c2, hz]
      · refine sr_ite (c := w < f) (fun c3 => absurd c3 c2) (fun c3 => ?_)
        refine ih _ _ _ _ _ (by rw [hz]; exact nI_1 k) ?_
        rw [sp_drw, ← hs, ← hw, if_neg c2]
    refine sr_ite (c := FI 30 11 - nI (sp_cnt (fun t => sp_hs th (sp_second (kd i) (lf i) T t) k) T) < nI (sp_cnt (fun t => sp_hs th (sp_second (kd i) (lf i) T t) k) T)) (fun c2 => ?_) (fun c2 => ?_)
    · rw [if_pos c2] at e9
      exact l60 _ none _ e9
    · rw [if_neg c2] at e9
      exact l60 _ none _ e9
theorem q_drawer {a : Int32} (hI : sp_Inv xs nz FI FJ kp) : sp_two (sp_I Ls xs) mX4_drawer mX5_drawer (d + 4) [.int a] (hp Ls nz FI FJ kp) := by
  obtain ⟨hS, hO, hA, hB, hC, T, g, o, kd, lf, th, tn, D, vs, ac, gs, hD, hX, hM, hTd, hXT, hMT, hLG, hXL, hML, hRK⟩ := id hI
  refine eX4_drawer [25] ?_
  refine c4_isGuest' hD hX (fun i hi e z hz => ?_) (fun c z hz => ?_)
  · refine sr_n1 hz ?_
    have hT6 := hD.2.2.1
    have e9 : FI 8 0 + nI 1 = nI (T + 1) := by rw [hX.1, nI_add]
    obtain ⟨o', ho'⟩ : ∃ o', o = o' + 1 := ⟨o - 1, by have := (hD.2.2.2.1 (by omega)).2; omega⟩
    have key : sp_drw (sp_dW T th (kd i) (lf i)) (FI 8 0 + nI 1) o = sp_drw (sp_dW T th (kd i) (lf i)) (nI 1000000) o := by
      rw [ho', e9]
      exact sp_drw_eq (sp_dW_lt hT6 (by omega) (by omega)) (sp_dW_lt hT6 (by omega) (by omega)) o'
    refine c4_drawer_loop (L0 := FI 8 0 + nI 1) hD hX e hi ?_ 0 (by omega) _ _ _ _ _ rfl rfl
    refine eX5_drawer [18] ?_
    refine c5_isGuest' (FI := sr_u FI 0 11 _) hD hM (fun i2 hi2 e2 z hz => ?_) (fun c3 => absurd e (c3 i hi))
    refine sr_n1 hz ?_
    refine c5_drawer_loop (L0 := nI 1000000) (FI := sr_u FI 0 11 _) hD hM e hi ?_ 0 (by omega) _ _ _ _ _ rfl rfl
    rw [key]
    exact ⟨rfl, .of (sp_Inv_tell hI _)⟩
  · refine sr_n0 hz ?_
    refine eX5_drawer [18] ?_
    refine c5_isGuest' hD hM (fun i2 hi2 e2 => absurd e2 (c i2 hi2)) (fun c3 z hz => ?_)
    refine sr_n0 hz ?_
    exact ⟨rfl, .of hI⟩
theorem c0_lifeHas' {l i : Nat} {x y : Int32} (hD : sp_HD T g o kd lf th) (hX : sp_XH FI T g o kd lf th) (hx : x = nI l) (hl : l < 2 ^ T) (hy : y = nI i) (hi : i < o) (h1 : sp_hs th l i = true → ∀ z, z = 1 → P (some (.int z)) (hp Ls nz FI FJ kp)) (h0 : sp_hs th l i = false → ∀ z, z = 0 → P (some (.int z)) (hp Ls nz FI FJ kp)) : sr_Call mX0_lifeHas d [.ref 8, .int x, .int y] (hp Ls nz FI FJ kp) P := c0_lifeHas hD hX hx hl hy hi (fun c => h1 c 1 rfl) (fun c => h0 c 0 rfl)
theorem c5_isHad' {l i : Nat} {x y : Int32} (hD : sp_HD T g o kd lf th) (hX : sp_MH FI T g o kd lf th) (hx : x = nI l) (hl : l < 2 ^ T) (hy : y = nI i) (hi : i < o) (h1 : sp_hs th l i = true → ∀ z, z = 1 → P (some (.int z)) (hp Ls nz FI FJ kp)) (h0 : sp_hs th l i = false → ∀ z, z = 0 → P (some (.int z)) (hp Ls nz FI FJ kp)) : sr_Call mX5_isHad d [.ref 30, .int x, .int y] (hp Ls nz FI FJ kp) P := c5_isHad hD hX hx hl hy hi (fun c => h1 c 1 rfl) (fun c => h0 c 0 rfl)
theorem sp_oI_ne {n : Nat} (h : n < 1000) : ¬ nI n = sr_k (-9) := by
  intro q
  have := congrArg Int32.toInt q
  rw [nI_toInt (by omega)] at this
  have h2 : (sr_k (-9)).toInt = -9 := by decide +kernel
  omega
theorem c4_near_loop {i u : Nat} {x y : Int32} (hD : sp_HD T g o kd lf th) (hX : sp_XH FI T g o kd lf th) (hx : x = nI i) (hi : i < g) (hy : y = nI u) (hu : u < o) (h : ∀ q, q = sp_nr (fun l => sp_pop (l ^^^ lf i)) (fun l => sp_hs th l u) (2 ^ T) → (q = none → P (some (.int (sr_k (-9)))) (hp Ls nz FI FJ kp)) ∧ ∀ b, q = some b → P (some (.int (nI (sp_pop (b ^^^ lf i))))) (hp Ls nz (sr_u FI 0 11 (nI b)) FJ kp)) : ∀ k, k ≤ 2 ^ T → ∀ (z s f : Int32) (e : Option Value), z = nI k → s = sp_oI (sp_nr (fun l => sp_pop (l ^^^ lf i)) (fun l => sp_hs th l u) k) → f = sp_oF (fun l => sp_pop (l ^^^ lf i)) (T + 1) (sp_nr (fun l => sp_pop (l ^^^ lf i)) (fun l => sp_hs th l u) k) → sr_Go mX4_nearest (d + 3) 35 [some (.ref 0), some (.int x), some (.int y), some (.int s), some (.int f), some (.int z), e] [] (0, 0) (hp Ls nz FI FJ kp) P := by
  have hg := hD.1
  have hT6 := hD.2.2.1
  have hp6 := sp_pow_le hT6
  have hl := (hD.2.2.2.2.1 i hi).2
  refine sp_for (fun z s f e hz hs hf => ?_) (fun k hk ih z s f e hz hs hf => ?_)
  · refine eX4_nearest [35] ?_
    refine c0_lifeCount hD hX ?_
    refine sr_ite (c := z < nI (2 ^ T)) (fun c => absurd c (by rw [hz]; exact nI_nlt (by omega) (by omega))) (fun c => ?_)
    cases hq : sp_nr (fun l => sp_pop (l ^^^ lf i)) (fun l => sp_hs th l u) (2 ^ T) with
    | none =>
      rw [hq] at hs hf
      refine sr_ite (c := s = sr_k (-9)) (fun c => ?_) (fun c => absurd hs c)
      exact (h _ hq.symm).1 rfl
    | some b =>
      rw [hq] at hs hf
      have hb := sp_nr_lt hq
      refine sr_ite (c := s = sr_k (-9)) (fun c => absurd (hs.symm.trans c) (sp_oI_ne (by omega))) (fun c => ?_)
      refine c4_tell ?_
      have := (h _ hq.symm).2 b rfl
      rw [hs, hf]
      exact this
  · have hk6 : k ^^^ lf i < 2 ^ T := Nat.xor_lt_two_pow hk hl
    have hpk := nb_popT T (by omega) _ hk6
    refine eX4_nearest [35] ?_
    refine c0_lifeCount hD hX ?_
    refine sr_ite (c := z < nI (2 ^ T)) (fun c => ?_) (fun c => absurd (by rw [hz]; exact nI_lt hk (by omega)) c)
    refine ⟨i, ⟨hx, show i < 5 by omega⟩, ?_⟩
    refine c6_bitCount (l := k ^^^ lf i) (by show z ^^^ FI 10 i = _; rw [hz, (hX.2.2.2.1 i hi).2, nI_xor]) (by omega) ?_
    refine sr_ite (c := nI (sp_pop (k ^^^ lf i)) < f) (fun c2 => ?_) (fun c2 => ?_)
    · refine c0_lifeHas' hD hX hz hk hy hu (fun c3 w hw => ?_) (fun c3 w hw => ?_)
      · refine sr_n1 hw ?_
        have hn : sp_nr (fun l => sp_pop (l ^^^ lf i)) (fun l => sp_hs th l u) (k + 1) = some k := by
          unfold sp_nr
          cases hq : sp_nr (fun l => sp_pop (l ^^^ lf i)) (fun l => sp_hs th l u) k with
          | none => simp [c3]
          | some b =>
            rw [hq] at hf
            rw [hf] at c2
            have c2 : nI (sp_pop (k ^^^ lf i)) < nI (sp_pop (b ^^^ lf i)) := c2
            have hb := sp_nr_lt hq
            have hpb := nb_popT T (by omega) (b ^^^ lf i) (Nat.xor_lt_two_pow (by omega) hl)
            have c2 := (nI_ltI (by omega) (by omega)).mp c2
            simp [c3, c2]
        refine ih _ _ _ _ (by rw [hz]; exact nI_1 k) ?_ ?_
        · rw [hn]; exact hz
        · rw [hn]; rfl
      · refine sr_n0 hw ?_
        have hn : sp_nr (fun l => sp_pop (l ^^^ lf i)) (fun l => sp_hs th l u) (k + 1) = sp_nr (fun l => sp_pop (l ^^^ lf i)) (fun l => sp_hs th l u) k := by
          rw [sp_nr]; simp [c3]
        exact ih _ _ _ _ (by rw [hz]; exact nI_1 k) (by rw [hn]; exact hs) (by rw [hn]; exact hf)
    · have hn : sp_nr (fun l => sp_pop (l ^^^ lf i)) (fun l => sp_hs th l u) (k + 1) = sp_nr (fun l => sp_pop (l ^^^ lf i)) (fun l => sp_hs th l u) k := by
        rw [sp_nr]
        cases hq : sp_nr (fun l => sp_pop (l ^^^ lf i)) (fun l => sp_hs th l u) k with
        | none =>
          exfalso
          rw [hq] at hf
          rw [hf] at c2
          exact c2 (nI_lt (by omega) (by omega))
        | some b =>
          rw [hq] at hf
          rw [hf] at c2
          have c2 : ¬ nI (sp_pop (k ^^^ lf i)) < nI (sp_pop (b ^^^ lf i)) := c2
          have hb := sp_nr_lt hq
          have hpb := nb_popT T (by omega) (b ^^^ lf i) (Nat.xor_lt_two_pow (by omega) hl)
          have c2 : ¬ sp_pop (k ^^^ lf i) < sp_pop (b ^^^ lf i) := fun q => c2 (nI_lt q (by omega))
          simp [c2]
      exact ih _ _ _ _ (by rw [hz]; exact nI_1 k) (by rw [hn]; exact hs) (by rw [hn]; exact hf)
theorem c5_near_loop {i u : Nat} {x y : Int32} (hD : sp_HD T g o kd lf th) (hX : sp_MH FI T g o kd lf th) (hx : x = nI i) (hi : i < g) (hy : y = nI u) (hu : u < o) (h : ∀ q, q = sp_nr (fun l => sp_pop (l ^^^ lf i)) (fun l => sp_hs th l u) (2 ^ T) → (q = none → P (some (.int (sr_k (-9)))) (hp Ls nz FI FJ kp)) ∧ ∀ b, q = some b → P (some (.int (nI (sp_pop (b ^^^ lf i))))) (hp Ls nz (sr_u FI 30 2 (nI b)) FJ kp)) : ∀ k, k ≤ 2 ^ T → ∀ (z s : Int32) (e : Option Value), z = nI k → s = sp_oI (sp_nr (fun l => sp_pop (l ^^^ lf i)) (fun l => sp_hs th l u) k) → sr_Go mX5_nearest (d + 3) 24 [some (.ref 30), some (.int x), some (.int y), some (.int s), some (.int z), e] [] (0, 0) (hp Ls nz FI FJ kp) P := by
  have hg := hD.1
  have hT6 := hD.2.2.1
  have hp6 := sp_pow_le hT6
  have hl := (hD.2.2.2.2.1 i hi).2
  have e38 := (hX.2.2.2.1 i hi).2
  refine sp_for (fun z s e hz hs => ?_) (fun k hk ih z s e hz hs => ?_)
  · refine eX5_nearest [24] ?_
    refine c5_allLives hD hX ?_
    refine sr_ite (c := z < nI (2 ^ T)) (fun c => absurd c (by rw [hz]; exact nI_nlt (by omega) (by omega))) (fun c => ?_)
    cases hq : sp_nr (fun l => sp_pop (l ^^^ lf i)) (fun l => sp_hs th l u) (2 ^ T) with
    | none =>
      rw [hq] at hs
      refine sr_ite (c := s = sr_k (-9)) (fun c => ?_) (fun c => absurd hs c)
      exact (h _ hq.symm).1 rfl
    | some b =>
      rw [hq] at hs
      have hb := sp_nr_lt hq
      refine sr_ite (c := s = sr_k (-9)) (fun c => absurd (hs.symm.trans c) (sp_oI_ne (by omega))) (fun c => ?_)
      refine ⟨i, ⟨hx, show i < 5 by omega⟩, ?_⟩
      refine c5_bits (l := b ^^^ lf i) (by show s ^^^ FI 38 i = _; rw [hs, e38]; exact nI_xor _ _) (by have := Nat.xor_lt_two_pow hb hl; omega) ?_
      refine c5_tells ?_
      have := (h _ hq.symm).2 b rfl
      rw [hs]
      exact this
  · have hk6 : k ^^^ lf i < 2 ^ T := Nat.xor_lt_two_pow hk hl
    refine eX5_nearest [24, 70] ?_
    refine c5_allLives hD hX ?_
    refine sr_ite (c := z < nI (2 ^ T)) (fun c => ?_) (fun c => absurd (by rw [hz]; exact nI_lt hk (by omega)) c)
    have keep : sp_nr (fun l => sp_pop (l ^^^ lf i)) (fun l => sp_hs th l u) (k + 1) = sp_nr (fun l => sp_pop (l ^^^ lf i)) (fun l => sp_hs th l u) k → ∀ e, sr_Go mX5_nearest (d + 3) 24 [some (.ref 30), some (.int x), some (.int y), some (.int s), some (.int (z + nI 1)), e] [] (0, 0) (hp Ls nz FI FJ kp) P := by
      intro hn e
      exact ih _ _ _ (by rw [hz]; exact nI_1 k) (by rw [hn]; exact hs)
    have take : sp_nr (fun l => sp_pop (l ^^^ lf i)) (fun l => sp_hs th l u) (k + 1) = some k → ∀ e, sr_Go mX5_nearest (d + 3) 24 [some (.ref 30), some (.int x), some (.int y), some (.int z), some (.int (z + nI 1)), e] [] (0, 0) (hp Ls nz FI FJ kp) P := by
      intro hn e
      exact ih _ _ _ (by rw [hz]; exact nI_1 k) (by rw [hn]; exact hz)
    have no : sp_hs th k u = false → sp_nr (fun l => sp_pop (l ^^^ lf i)) (fun l => sp_hs th l u) (k + 1) = sp_nr (fun l => sp_pop (l ^^^ lf i)) (fun l => sp_hs th l u) k := by
      intro c3
      rw [sp_nr]; simp [c3]
    have g1 : (sp_hs th k u = true → sp_nr (fun l => sp_pop (l ^^^ lf i)) (fun l => sp_hs th l u) (k + 1) = some k) → ∀ w, w = 1 → sr_Go mX5_nearest (d + 3) 70 [some (.ref 30), some (.int x), some (.int y), some (.int s), some (.int z), e] [.int w] (0, 0) (hp Ls nz FI FJ kp) P := by
      intro hn w hw
      refine eX5_nearest [24] ?_
      refine c5_isHad' hD hX hz hk hy hu (fun c3 z hz => ?_) (fun c3 z hz => ?_)
      · refine sr_n1 hz ?_
        refine sr_n1 hw ?_
        exact take (hn c3) _
      · refine sr_n0 hz ?_
        exact keep (no c3) _
    have g0 : (sp_hs th k u = true → sp_nr (fun l => sp_pop (l ^^^ lf i)) (fun l => sp_hs th l u) (k + 1) = sp_nr (fun l => sp_pop (l ^^^ lf i)) (fun l => sp_hs th l u) k) → ∀ w, w = 0 → sr_Go mX5_nearest (d + 3) 70 [some (.ref 30), some (.int x), some (.int y), some (.int s), some (.int z), e] [.int w] (0, 0) (hp Ls nz FI FJ kp) P := by
      intro hn w hw
      refine eX5_nearest [24] ?_
      refine c5_isHad' hD hX hz hk hy hu (fun c3 z hz => ?_) (fun c3 z hz => ?_)
      · refine sr_n1 hz ?_
        refine sr_n0 hw ?_
        exact keep (hn c3) _
      · refine sr_n0 hz ?_
        exact keep (no c3) _
    cases hq : sp_nr (fun l => sp_pop (l ^^^ lf i)) (fun l => sp_hs th l u) k with
    | none =>
      have hs2 := hs
      rw [hq] at hs2
      refine sr_ite (c := s = sr_k (-9)) (fun c => ?_) (fun c => absurd hs2 c)
      refine g1 (fun c3 => ?_) _ rfl
      rw [sp_nr, hq]; simp [c3]
    | some b =>
      have hs2 := hs
      rw [hq] at hs2
      have hb := sp_nr_lt hq
      have hb6 : b ^^^ lf i < 2 ^ T := Nat.xor_lt_two_pow (by omega) hl
      have hpk := nb_popT T (by omega) _ hk6
      have hpb := nb_popT T (by omega) _ hb6
      refine sr_ite (c := s = sr_k (-9)) (fun c => absurd (hs2.symm.trans c) (sp_oI_ne (by omega))) (fun c => ?_)
      refine ⟨i, ⟨hx, show i < 5 by omega⟩, ?_⟩
      refine c5_bits (l := k ^^^ lf i) (by show z ^^^ FI 38 i = _; rw [hz, e38]; exact nI_xor _ _) (by omega) ?_
      refine ⟨i, ⟨hx, show i < 5 by omega⟩, ?_⟩
      refine c5_bits (l := b ^^^ lf i) (by show s ^^^ FI 38 i = _; rw [hs2, e38]; exact nI_xor _ _) (by omega) ?_
      refine sr_ite (c := nI (sp_pop (k ^^^ lf i)) < nI (sp_pop (b ^^^ lf i))) (fun c2 => ?_) (fun c2 => ?_)
      · have c2 := (nI_ltI (by omega) (by omega)).mp c2
        refine g1 (fun c3 => ?_) _ rfl
        rw [sp_nr, hq]; simp [c3, c2]
      · have c2 : ¬ sp_pop (k ^^^ lf i) < sp_pop (b ^^^ lf i) := fun q => c2 (nI_lt q (by omega))
        refine g0 (fun c3 => ?_) _ rfl
        rw [sp_nr, hq]; simp [c2]
theorem c4_isThing' {x : Int32} (hD : sp_HD T g o kd lf th) (hX : sp_XH FI T g o kd lf th) (h1 : ∀ i, i < o → x = nI i → ∀ z, z = 1 → P (some (.int z)) (hp Ls nz FI FJ kp)) (h0 : (∀ i, i < o → x ≠ nI i) → ∀ z, z = 0 → P (some (.int z)) (hp Ls nz FI FJ kp)) : sr_Call mX4_isThing d [.ref 0, .int x] (hp Ls nz FI FJ kp) P := c4_isThing hD hX (fun i hi e => h1 i hi e 1 rfl) (fun c => h0 c 0 rfl)
theorem c5_isThing' {x : Int32} (hD : sp_HD T g o kd lf th) (hX : sp_MH FI T g o kd lf th) (h1 : ∀ i, i < o → x = nI i → ∀ z, z = 1 → P (some (.int z)) (hp Ls nz FI FJ kp)) (h0 : (∀ i, i < o → x ≠ nI i) → ∀ z, z = 0 → P (some (.int z)) (hp Ls nz FI FJ kp)) : sr_Call mX5_isThing (d + 1) [.ref 30, .int x] (hp Ls nz FI FJ kp) P := c5_isThing hD hX (fun i hi e => h1 i hi e 1 rfl) (fun c => h0 c 0 rfl)
theorem q_nearest {a b : Int32} (hI : sp_Inv xs nz FI FJ kp) : sp_two (sp_I Ls xs) mX4_nearest mX5_nearest (d + 4) [.int a, .int b] (hp Ls nz FI FJ kp) := by
  obtain ⟨hS, hO, hA, hB, hC, T, g, o, kd, lf, th, tn, D, vs, ac, gs, hD, hX, hM, hTd, hXT, hMT, hLG, hXL, hML, hRK⟩ := id hI
  have bad : ((∀ i, i < g → a ≠ nI i) ∨ (∀ i, i < o → b ≠ nI i)) → sr_Call mX5_nearest (d + 4) [.ref 30, .int a, .int b] (hp Ls nz FI FJ kp) (fun v2 h2 => v2 = some (.int (sr_k (-1))) ∧ sp_I Ls xs h2) := by
    intro hb
    refine eX5_nearest [24] ?_
    refine c5_isGuest' hD hM (fun i hi e z hz => ?_) (fun c z hz => ?_)
    · refine sr_n1 hz ?_
      refine c5_isThing' hD hM (fun k hk e2 z hz => ?_) (fun c z hz => ?_)
      · rcases hb with hb | hb
        · exact absurd e (hb i hi)
        · exact absurd e2 (hb k hk)
      · refine sr_n0 hz ?_
        exact ⟨rfl, .of hI⟩
    · refine sr_n0 hz ?_
      exact ⟨rfl, .of hI⟩
  refine eX4_nearest [35] ?_
  refine c4_isGuest' hD hX (fun i hi e z hz => ?_) (fun c z hz => ?_)
  · refine sr_n1 hz ?_
    refine c4_isThing' hD hX (fun u hu eu z hz => ?_) (fun c z hz => ?_)
    · refine sr_n1 hz ?_
      refine c4_near_loop hD hX e hi eu hu (fun q hq => ⟨fun hn => ?_, fun b hb => ?_⟩) 0 (Nat.zero_le _) _ _ _ _ rfl rfl (by show FI 8 0 + nI 1 = nI (T + 1); rw [hX.1, nI_add])
      · refine eX5_nearest [24] ?_
        refine c5_isGuest' hD hM (fun i2 hi2 e2 z hz => ?_) (fun c3 => absurd e (c3 i hi))
        refine sr_n1 hz ?_
        refine c5_isThing' hD hM (fun k hk e2 z hz => ?_) (fun c3 => absurd eu (c3 u hu))
        refine sr_n1 hz ?_
        refine c5_near_loop hD hM e hi eu hu (fun q2 hq2 => ⟨fun hn2 => ?_, fun b hb => ?_⟩) 0 (Nat.zero_le _) _ _ _ rfl rfl
        · exact ⟨rfl, .of hI⟩
        · rw [hb, ← hq, hn] at hq2; exact absurd hq2 (by simp)
      · refine eX5_nearest [24] ?_
        refine c5_isGuest' (FI := sr_u FI 0 11 _) hD hM (fun i2 hi2 e2 z hz => ?_) (fun c3 => absurd e (c3 i hi))
        refine sr_n1 hz ?_
        refine c5_isThing' (FI := sr_u FI 0 11 _) hD hM (fun k hk e2 z hz => ?_) (fun c3 => absurd eu (c3 u hu))
        refine sr_n1 hz ?_
        refine c5_near_loop (FI := sr_u FI 0 11 _) hD hM e hi eu hu (fun q2 hq2 => ⟨fun hn2 => ?_, fun b2 hb2 => ?_⟩) 0 (Nat.zero_le _) _ _ _ rfl rfl
        · rw [hn2, ← hq, hb] at hq2; exact absurd hq2 (by simp)
        · rw [hb2, ← hq, hb] at hq2
          have := Option.some.inj hq2
          subst this
          exact ⟨rfl, .of (sp_Inv_tell hI _)⟩
    · refine sr_n0 hz ?_
      exact bad (Or.inr c)
  · refine sr_n0 hz ?_
    exact bad (Or.inl c)
end DR
