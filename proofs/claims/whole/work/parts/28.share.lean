/-! pairs of calls: spread, odds -/
theorem sp_gcd (a b : Nat) : Nat.gcd b (a % b) = Nat.gcd a b := by
  rw [Nat.gcd_comm a b, Nat.gcd_rec b a, Nat.gcd_comm]
def sp_ssum (f : Nat → Nat) : Nat → Nat
  | 0 => 0
  | i + 1 => sp_ssum f i + f i
section SH
variable {Ls nz d T g o : Nat} {kd lf th tn v : Nat → Nat} {xs : Nat → Int32} {FI : Nat → Nat → Int32} {FJ : Nat → Nat → Int64} {kp : Nat → Option Nat} {P : Option Value → sr_H → Prop} {h9 : sr_H}
theorem c4_cm_loop {G : Nat} {x0 y0 : Int32} (h : P (some (.int (nI G))) h9) : ∀ (m a b i : Nat) (x y z : Int32) (e : Option Value), b < m → a < 1000 → b + i ≤ 6 → Nat.gcd a b = G → x = nI a → y = nI b → z = nI i → sr_Go mX4_commonMeasure d 7 [some (.int x0), some (.int y0), some (.int x), some (.int y), some (.int z), e] [] (0, 0) h9 P := by
  intro m
  induction m with
  | zero => intro a b i x y z e h1; omega
  | succ m ih =>
    intro a b i x y z e h1 h2 h3 hG hx hy hz
    refine eX4_commonMeasure [7] ?_
    refine sr_ite (c := nI 6 < z) (fun c => absurd c (by rw [hz]; exact nI_nlt (by omega) (by omega))) (fun c => ?_)
    refine sr_ite (c := 0 < y) (fun c2 => ?_) (fun c2 => ?_)
    · have hb0 : 0 < b := by
        rcases Nat.eq_zero_or_pos b with q | q
        · subst q; subst hy; exact absurd c2 (by decide +kernel)
        · exact q
      refine ⟨by rw [hy]; exact nI_ne0 hb0 (by omega), ?_⟩
      have hlt := Nat.mod_lt a hb0
      refine ih b (a % b) (i + 1) _ _ _ _ (by omega) (by omega) (by omega) ?_ hy ?_ (by rw [hz]; exact nI_1 i)
      · rw [sp_gcd]; exact hG
      · show x - x / y * y = _
        rw [hx, hy]; exact pk_rem (by omega) hb0 (by omega)
    · have hb0 : b = 0 := by
        rcases Nat.eq_zero_or_pos b with q | q
        · exact q
        · exfalso; rw [hy] at c2; exact c2 (nI_lt (a := 0) q (by omega))
      subst hb0
      rw [Nat.gcd_zero_right] at hG
      subst hG; subst hx
      exact h
theorem c4_commonMeasure {u l : Nat} {x y : Int32} (hx : x = nI u) (hu : u < 1000) (hy : y = nI l) (hl : l ≤ 6) (h : P (some (.int (nI (Nat.gcd u l)))) h9) : sr_Call mX4_commonMeasure d [.int x, .int y] h9 P := by
  refine eX4_commonMeasure [7] ?_
  exact c4_cm_loop h 7 u l 0 _ _ _ _ (by omega) hu (by omega) rfl hx hy rfl
theorem c4_tellShare {u l : Nat} {x y : Int32} (hx : x = nI u) (hu : u < 1000) (hy : y = nI l) (hl : l ≤ 6) (hl0 : 0 < l) (h : P none (hp Ls nz FI (sr_u (sr_u FJ 0 12 (nI u / nI (Nat.gcd u l)).toInt64) 0 13 (nI l / nI (Nat.gcd u l)).toInt64) kp)) : sr_Call mX4_tellShare (d + 1) [.ref 0, .int x, .int y] (hp Ls nz FI FJ kp) P := by
  have hG0 : 0 < Nat.gcd u l := Nat.gcd_pos_of_pos_right u hl0
  have hG1 : Nat.gcd u l ≤ l := Nat.gcd_le_right u hl0
  have e9 : (if nI 1 < nI (Nat.gcd u l) then nI (Nat.gcd u l) else nI 1) = nI (Nat.gcd u l) := by
    split
    · rfl
    · rename_i c
      have : Nat.gcd u l = 1 := by
        by_cases q : 1 < Nat.gcd u l
        · exact absurd (nI_lt q (by omega)) c
        · omega
      rw [this]
  have ne : ¬ nI (Nat.gcd u l) = 0 := nI_ne0 hG0 (by omega)
  refine eX4_tellShare [] ?_
  refine c4_commonMeasure hx hu hy hl ?_
  refine ⟨by show ¬ (if nI 1 < nI (Nat.gcd u l) then nI (Nat.gcd u l) else nI 1) = 0; rw [e9]; exact ne, ⟨by show ¬ (if nI 1 < nI (Nat.gcd u l) then nI (Nat.gcd u l) else nI 1) = 0; rw [e9]; exact ne, ?_⟩⟩
  show P none (hp Ls nz FI (sr_u (sr_u FJ 0 12 (x / (if nI 1 < nI (Nat.gcd u l) then nI (Nat.gcd u l) else nI 1)).toInt64) 0 13 (y / (if nI 1 < nI (Nat.gcd u l) then nI (Nat.gcd u l) else nI 1)).toInt64) kp)
  rw [e9, hx, hy]
  exact h
theorem c5_fr_loop {u l : Nat} {x0 y0 : Int32} (hx0 : x0 = nI u) (hy0 : y0 = nI l) (hl : l ≤ 6) (hl0 : 0 < l) (h : P (some (.int (sr_k 1))) (hp Ls nz FI (sr_u (sr_u FJ 30 3 (nI u / nI (Nat.gcd u l)).toInt64) 30 4 (nI l / nI (Nat.gcd u l)).toInt64) kp)) : ∀ (m a b : Nat) (x y : Int32) (e : Option Value), b < m → a < 1000 → b ≤ 6 → Nat.gcd a b = Nat.gcd u l → x = nI a → y = nI b → sr_Go mX5_fraction d 5 [some (.ref 30), some (.int x0), some (.int y0), some (.int x), some (.int y), e] [] (0, 0) (hp Ls nz FI FJ kp) P := by
  have hG0 : 0 < Nat.gcd u l := Nat.gcd_pos_of_pos_right u hl0
  have hG1 : Nat.gcd u l ≤ l := Nat.gcd_le_right u hl0
  intro m
  induction m with
  | zero => intro a b x y e h1; omega
  | succ m ih =>
    intro a b x y e h1 h2 h3 hG hx hy
    refine eX5_fraction [5] ?_
    refine sr_ite (c := y = 0) (fun c2 => ?_) (fun c2 => ?_)
    · have hb0 : b = 0 := nI_inj (by omega) (by omega) (hy.symm.trans c2)
      subst hb0
      rw [Nat.gcd_zero_right] at hG
      subst hG
      have ne : ¬ x = 0 := by rw [hx]; exact nI_ne0 hG0 (by omega)
      refine ⟨ne, ⟨ne, ?_⟩⟩
      subst hx; subst hx0; subst hy0
      exact h
    · have hb0 : 0 < b := by
        rcases Nat.eq_zero_or_pos b with q | q
        · subst q; exact absurd hy c2
        · exact q
      refine ⟨c2, ?_⟩
      have hlt := Nat.mod_lt a hb0
      refine ih b (a % b) _ _ _ (by omega) (by omega) (by omega) ?_ hy ?_
      · rw [sp_gcd]; exact hG
      · show x - x / y * y = _
        rw [hx, hy]; exact pk_rem (by omega) hb0 (by omega)
theorem c5_fraction {u l : Nat} {x y : Int32} (hx : x = nI u) (hu : u < 1000) (hy : y = nI l) (hl : l ≤ 6) (hl0 : 0 < l) (h : P (some (.int (sr_k 1))) (hp Ls nz FI (sr_u (sr_u FJ 30 3 (nI u / nI (Nat.gcd u l)).toInt64) 30 4 (nI l / nI (Nat.gcd u l)).toInt64) kp)) : sr_Call mX5_fraction d [.ref 30, .int x, .int y] (hp Ls nz FI FJ kp) P := by
  refine eX5_fraction [5] ?_
  exact c5_fr_loop hx hy hl hl0 h 7 u l _ _ _ (by omega) hu hl rfl hx hy
theorem sp_Inv_share (h : sp_Inv xs nz FI FJ kp) (a b : Int64) : sp_Inv xs nz FI (sr_u (sr_u (sr_u (sr_u FJ 0 12 a) 0 13 b) 30 3 a) 30 4 b) kp := by
  obtain ⟨hS, hO, hA, hB, hC, hH⟩ := h
  exact ⟨hS, hO, ⟨hA.1, hA.2.1, hA.2.2.1, rfl, rfl⟩, hB, hC, hH⟩
theorem c4_spread_loop {i : Nat} {x : Int32} (hD : sp_HD T g o kd lf th) (hX : sp_XH FI T g o kd lf th) (hx : x = nI i) (hi : i < g) (h : ∀ y, y = nI (sp_ssum (fun t => sp_pop (lf i ^^^ sp_second (kd i) (lf i) T t)) T) → sr_Go mX4_spread (d + 3) 56 [some (.ref 0), some (.int x), some (.int y), some (.int (nI T))] [] (0, 0) (hp Ls nz FI FJ kp) P) : ∀ k, k ≤ T → ∀ (z s : Int32), z = nI k → s = nI (sp_ssum (fun t => sp_pop (lf i ^^^ sp_second (kd i) (lf i) T t)) k) → sr_Go mX4_spread (d + 3) 14 [some (.ref 0), some (.int x), some (.int s), some (.int z)] [] (0, 0) (hp Ls nz FI FJ kp) P := by
  have hT6 := hD.2.2.1
  have hg := hD.1
  obtain ⟨hk, hl⟩ := hD.2.2.2.2.1 i hi
  refine sp_for (fun z s hz hs => ?_) (fun k hk2 ih z s hz hs => ?_)
  · refine eX4_spread [14, 56] ?_
    refine sr_ite (c := z < FI 8 0) (fun c => absurd c (by rw [hz, hX.1]; exact nI_nlt (by omega) (by omega))) (fun c => ?_)
    have := h s hs
    rw [← hz] at this
    exact this
  · refine eX4_spread [14, 56] ?_
    refine sr_ite (c := z < FI 8 0) (fun c => ?_) (fun c => absurd (by rw [hz, hX.1]; exact nI_lt hk2 (by omega)) c)
    refine ⟨i, ⟨hx, show i < 5 by omega⟩, ?_⟩
    refine c0_secondLifeAt (i := i) (t := k) hD hX hx hi hz hk2 ?_
    refine c6_bitCount (l := lf i ^^^ sp_second (kd i) (lf i) T k) (by show FI 10 i ^^^ _ = _; rw [(hX.2.2.2.1 i hi).2, nI_xor]) (nb_xor64 hT6 hl (sp_second_lt hk (by omega) hk2 hl)) ?_
    refine ih _ _ (by rw [hz]; exact nI_1 k) ?_
    show s + nI _ = _
    rw [hs, nI_add]; rfl
theorem c5_spread_loop {i : Nat} {x : Int32} (hD : sp_HD T g o kd lf th) (hX : sp_MH FI T g o kd lf th) (hx : x = nI i) (hi : i < g) (h : ∀ y, y = nI (sp_ssum (fun t => sp_pop (lf i ^^^ sp_second (kd i) (lf i) T t)) T) → sr_Go mX5_spread (d + 3) 47 [some (.ref 30), some (.int x), some (.int y), some (.int (nI T))] [] (0, 0) (hp Ls nz FI FJ kp) P) : ∀ k, k ≤ T → ∀ (z s : Int32), z = nI k → s = nI (sp_ssum (fun t => sp_pop (lf i ^^^ sp_second (kd i) (lf i) T t)) k) → sr_Go mX5_spread (d + 3) 14 [some (.ref 30), some (.int x), some (.int s), some (.int z)] [] (0, 0) (hp Ls nz FI FJ kp) P := by
  have hT6 := hD.2.2.1
  have hg := hD.1
  obtain ⟨hk, hl⟩ := hD.2.2.2.2.1 i hi
  refine sp_for (fun z s hz hs => ?_) (fun k hk2 ih z s hz hs => ?_)
  · refine eX5_spread [14, 47] ?_
    refine sr_ite (c := z < FI 30 11) (fun c => absurd c (by rw [hz, hX.1]; exact nI_nlt (by omega) (by omega))) (fun c => ?_)
    have := h s hs
    rw [← hz] at this
    exact this
  · refine eX5_spread [14, 47] ?_
    refine sr_ite (c := z < FI 30 11) (fun c => ?_) (fun c => absurd (by rw [hz, hX.1]; exact nI_lt hk2 (by omega)) c)
    refine ⟨i, ⟨hx, show i < 5 by omega⟩, ?_⟩
    refine c5_secondBy (i := i) (t := k) hD hX hx hi hz hk2 ?_
    refine c5_bits (l := lf i ^^^ sp_second (kd i) (lf i) T k) (by show FI 38 i ^^^ _ = _; rw [(hX.2.2.2.1 i hi).2, nI_xor]) (nb_xor64 hT6 hl (sp_second_lt hk (by omega) hk2 hl)) ?_
    refine ih _ _ (by rw [hz]; exact nI_1 k) ?_
    show s + nI _ = _
    rw [hs, nI_add]; rfl
theorem sp_ssum_le {f : Nat → Nat} {B : Nat} : ∀ n, (∀ i, i < n → f i ≤ B) → sp_ssum f n ≤ n * B
  | 0, _ => by simp [sp_ssum]
  | n + 1, h => by
    have h1 := sp_ssum_le n (fun i hi => h i (by omega))
    have h2 := h n (by omega)
    rw [sp_ssum, Nat.succ_mul]; omega
theorem q_spread {a : Int32} (hI : sp_Inv xs nz FI FJ kp) : sp_two (sp_I Ls xs) mX4_spread mX5_spread (d + 4) [.int a] (hp Ls nz FI FJ kp) := by
  obtain ⟨hS, hO, hA, hB, hC, T, g, o, kd, lf, th, tn, D, vs, ac, gs, hD, hX, hM, hTd, hXT, hMT, hLG, hXL, hML, hRK⟩ := id hI
  refine eX4_spread [14] ?_
  refine c4_isGuest' hD hX (fun i hi e z hz => ?_) (fun c z hz => ?_)
  · refine sr_n1 hz ?_
    have hT6 := hD.2.2.1
    have hT2 := (hD.2.2.2.1 (by omega)).1
    obtain ⟨hk, hl⟩ := hD.2.2.2.2.1 i hi
    have hsum : sp_ssum (fun t => sp_pop (lf i ^^^ sp_second (kd i) (lf i) T t)) T < 1000 := by
      have h1 := sp_ssum_le (B := T) T (fun t ht => nb_popT T (by omega) _ (Nat.xor_lt_two_pow hl (sp_second_lt hk (by omega) ht hl)))
      have h2 : T * T ≤ 6 * 6 := Nat.mul_le_mul hT6 hT6
      exact Nat.lt_of_le_of_lt (Nat.le_trans h1 h2) (by omega)
    refine c4_spread_loop hD hX e hi (fun y hy => ?_) 0 (by omega) _ _ rfl rfl
    refine eX4_spread [] ?_
    refine c4_tellShare hy hsum hX.1 hT6 (by omega) ?_
    refine eX5_spread [14] ?_
    refine c5_isGuest' hD hM (fun i2 hi2 e2 z hz => ?_) (fun c3 => absurd e (c3 i hi))
    refine sr_n1 hz ?_
    refine c5_spread_loop hD hM e hi (fun y hy => ?_) 0 (by omega) _ _ rfl rfl
    refine eX5_spread [] ?_
    refine c5_fraction hy hsum hM.1 hT6 (by omega) ?_
    exact ⟨rfl, .of (sp_Inv_share hI _ _)⟩
  · refine sr_n0 hz ?_
    refine eX5_spread [14] ?_
    refine c5_isGuest' hD hM (fun i2 hi2 e2 => absurd e2 (c i2 hi2)) (fun c3 z hz => ?_)
    refine sr_n0 hz ?_
    exact ⟨rfl, .of hI⟩
theorem q_odds {a b : Int32} (hI : sp_Inv xs nz FI FJ kp) : sp_two (sp_I Ls xs) mX4_odds mX5_odds (d + 4) [.int a, .int b] (hp Ls nz FI FJ kp) := by
  obtain ⟨hS, hO, hA, hB, hC, T, g, o, kd, lf, th, tn, D, vs, ac, gs, hD, hX, hM, hTd, hXT, hMT, hLG, hXL, hML, hRK⟩ := id hI
  have bad : ((∀ i, i < g → a ≠ nI i) ∨ (∀ i, i < o → b ≠ nI i)) → sr_Call mX5_odds (d + 4) [.ref 30, .int a, .int b] (hp Ls nz FI FJ kp) (fun v2 h2 => v2 = some (.int (sr_k (-1))) ∧ sp_I Ls xs h2) := by
    intro hb
    refine eX5_odds [] ?_
    refine c5_isGuest' hD hM (fun i hi e z hz => ?_) (fun c z hz => ?_)
    · refine sr_n1 hz ?_
      refine c5_isThing' hD hM (fun k hk e2 z hz => ?_) (fun c z hz => ?_)
      · rcases hb with hb | hb
        · exact absurd e (hb i hi)
        · exact absurd e2 (hb k hk)
      · refine sr_n0 hz ?_
        exact ⟨rfl, .of hI⟩
    · refine sr_n0 hz ?_
      exact ⟨rfl, .of hI⟩
  refine eX4_odds [] ?_
  refine c4_isGuest' hD hX (fun i hi e z hz => ?_) (fun c z hz => ?_)
  · refine sr_n1 hz ?_
    refine c4_isThing' hD hX (fun u hu eu z hz => ?_) (fun c z hz => ?_)
    · refine sr_n1 hz ?_
      have hT6 := hD.2.2.1
      have hT2 := (hD.2.2.2.1 (by omega)).1
      have hc := sp_cnt_le (fun t => sp_hs th (sp_second (kd i) (lf i) T t) u) T
      refine c4_turnsWith hD hX e hi eu hu ?_
      refine c4_tellShare rfl (by omega) hX.1 hT6 (by omega) ?_
      refine eX5_odds [] ?_
      refine c5_isGuest' hD hM (fun i2 hi2 e2 z hz => ?_) (fun c3 => absurd e (c3 i hi))
      refine sr_n1 hz ?_
      refine c5_isThing' hD hM (fun k hk e2 z hz => ?_) (fun c3 => absurd eu (c3 u hu))
      refine sr_n1 hz ?_
      refine c5_thereBy hD hM e hi eu hu ?_
      refine c5_fraction rfl (by omega) hM.1 hT6 (by omega) ?_
      exact ⟨rfl, .of (sp_Inv_share hI _ _)⟩
    · refine sr_n0 hz ?_
      exact bad (Or.inr c)
  · refine sr_n0 hz ?_
    exact bad (Or.inl c)
end SH
