/-! pairs of calls: cheapest, pairs, drawer, nearest -/
theorem nb_max2 (x y : Int32) : (if x < y then y else x) = (if y < x then x else y) := by
  by_cases h : x < y
  · rw [if_pos h, if_neg]
    intro q
    have h1 := Int32.lt_iff_toInt_lt.mp h
    have h2 := Int32.lt_iff_toInt_lt.mp q
    omega
  · rw [if_neg h]
    by_cases h2 : y < x
    · rw [if_pos h2]
    · rw [if_neg h2]
      apply Int32.toInt_inj.mp
      have h3 : ¬ x.toInt < y.toInt := fun q => h (Int32.lt_iff_toInt_lt.mpr q)
      have h4 : ¬ y.toInt < x.toInt := fun q => h2 (Int32.lt_iff_toInt_lt.mpr q)
      omega
theorem nb_s0 (x : Int32) : x = x - sr_k 0 := (Int32.sub_zero x).symm
section PA
variable {Ls nz d T g o : Nat} {kd lf th tn v : Nat → Nat} {xs : Nat → Int32} {FI : Nat → Nat → Int32} {FJ : Nat → Nat → Int64} {kp : Nat → Option Nat} {P : Option Value → sr_H → Prop} {h9 : sr_H}
theorem c4_chp_loop {i A : Nat} {x law all Q : Int32} (hD : sp_HD T g o kd lf th) (hX : sp_XH FI T g o kd lf th) (hT : sp_XT FI g tn) (hTd : sp_TD T g tn) (hQ : sp_aln T o kd lf th tn i Q) (hx : x = nI i) (hi : i < g) (hA : all = nI A) (hA6 : A ≤ 60) (h : P (some (.int (sp_chp Q law all A))) (hp Ls nz (sr_u FI 0 11 (sp_bil Q law (all - sp_chp Q law all A) (sp_chp Q law all A))) FJ kp)) : ∀ k, k ≤ A → ∀ (z s t : Int32) (e : Option Value), z = nI (k + 1) → s = sp_chp Q law all k → t = sp_bil Q law (all - s) s → sr_Go mX4_cheapest (d + 5) 53 [some (.ref 0), some (.int x), some (.int law), some (.int all), some (.int s), some (.int t), some (.int z), e] [] (0, 0) (hp Ls nz FI FJ kp) P := by
  refine sp_for (fun z s t e hz hs ht => ?_) (fun k hk ih z s t e hz hs ht => ?_)
  · refine eX4_cheapest [53] ?_
    refine sr_ite (c := all < z) (fun c => ?_) (fun c => absurd (by rw [hz, hA]; exact nI_lt (by omega) (by omega)) c)
    refine c4_tell ?_
    rw [← hs, ← ht] at h; exact h
  · refine eX4_cheapest [53] ?_
    refine sr_ite (c := all < z) (fun c => absurd c (by rw [hz, hA]; exact nI_nlt (by omega) (by omega))) (fun c => ?_)
    refine c4_billFor hD hX hT hTd hQ hx hi ?_
    refine sr_ite (c := sp_bil Q law (all - z) z < t) (fun c2 => ?_) (fun c2 => ?_)
    · refine ih _ _ _ _ (by rw [hz]; exact nI_1 (k + 1)) ?_ rfl
      rw [sp_chp, ← hz, ← hs, ← ht, if_pos c2]
    · refine ih _ _ _ _ (by rw [hz]; exact nI_1 (k + 1)) ?_ ht
      rw [sp_chp, ← hz, ← hs, ← ht, if_neg c2]
theorem c5_chp_loop {i A : Nat} {x law all Q : Int32} (hD : sp_HD T g o kd lf th) (hX : sp_MH FI T g o kd lf th) (hT : sp_MT FI g tn) (hTd : sp_TD T g tn) (hQ : sp_aln T o kd lf th tn i Q) (hx : x = nI i) (hi : i < g) (hA : all = nI A) (hA6 : A ≤ 60) (h : P (some (.int (sp_chp Q law all A))) (hp Ls nz (sr_u FI 30 2 (sp_bil Q law (all - sp_chp Q law all A) (sp_chp Q law all A))) FJ kp)) : ∀ k, k ≤ A → ∀ (z s : Int32), z = nI (k + 1) → s = sp_chp Q law all k → sr_Go mX5_cheapest (d + 5) 44 [some (.ref 30), some (.int x), some (.int law), some (.int all), some (.int s), some (.int z)] [] (0, 0) (hp Ls nz FI FJ kp) P := by
  refine sp_for (fun z s hz hs => ?_) (fun k hk ih z s hz hs => ?_)
  · refine eX5_cheapest [44] ?_
    refine sr_ite (c := all < z) (fun c => ?_) (fun c => absurd (by rw [hz, hA]; exact nI_lt (by omega) (by omega)) c)
    refine c5_billOf hD hX hT hTd hQ hx hi ?_
    refine c5_tells ?_
    rw [← hs] at h; exact h
  · refine eX5_cheapest [44] ?_
    refine sr_ite (c := all < z) (fun c => absurd c (by rw [hz, hA]; exact nI_nlt (by omega) (by omega))) (fun c => ?_)
    refine c5_billOf hD hX hT hTd hQ hx hi ?_
    refine c5_billOf hD hX hT hTd hQ hx hi ?_
    refine sr_ite (c := sp_bil Q law (all - z) z < sp_bil Q law (all - s) s) (fun c2 => ?_) (fun c2 => ?_)
    · refine ih _ _ (by rw [hz]; exact nI_1 (k + 1)) ?_
      rw [sp_chp, ← hz, ← hs, if_pos c2]
    · refine ih _ _ (by rw [hz]; exact nI_1 (k + 1)) ?_
      rw [sp_chp, ← hz, ← hs, if_neg c2]
theorem q_cheapest {a b : Int32} (hI : sp_Inv xs nz FI FJ kp) : sp_two (sp_I Ls xs) mX4_cheapest mX5_cheapest (d + 5) [.int a, .int b] (hp Ls nz FI FJ kp) := by
  obtain ⟨hS, hO, hA, hB, hC, T, g, o, kd, lf, th, tn, D, vs, ac, gs, hD, hX, hM, hTd, hXT, hMT, hLG, hXL, hML, hRK⟩ := id hI
  have hg := hD.1
  have bad : ((∀ i, i < g → a ≠ nI i) ∨ (∀ i, i < 3 → b ≠ nI i)) → sr_Call mX5_cheapest (d + 5) [.ref 30, .int a, .int b] (hp Ls nz FI FJ kp) (fun v2 h2 => v2 = some (.int (sr_k (-1))) ∧ sp_I Ls xs h2) := by
    intro hb
    refine eX5_cheapest [44] ?_
    refine c5_isGuest' hD hM (fun i hi e z hz => ?_) (fun c z hz => ?_)
    · refine sr_n1 hz ?_
      refine c5_inN' (b := 3) rfl rfl (by omega) (fun k hk e2 z hz => ?_) (fun c z hz => ?_)
      · rcases hb with hb | hb
        · exact absurd e (hb i hi)
        · exact absurd e2 (hb k hk)
      · refine sr_n0 hz ?_
        exact ⟨rfl, .of hI⟩
    · refine sr_n0 hz ?_
      exact ⟨rfl, .of hI⟩
  refine eX4_cheapest [53] ?_
  refine c4_isGuest' hD hX (fun i hi e z hz => ?_) (fun c z hz => ?_)
  · refine sr_n1 hz ?_
    refine c4_isLaw' (fun w hw ew z hz => ?_) (fun c z hz => ?_)
    · refine sr_n1 hz ?_
      obtain ⟨Q, hQ⟩ := sp_alnE T hD.2.1 kd lf th tn i
      have hA6 := (sp_NVof hLG).2.2 i (by omega)
      refine c1_hoursOf0 (sp_XNof hXL) e (by omega) rfl ?_
      refine c1_hoursOf1 (sp_XNof hXL) e (by omega) rfl ?_
      refine c4_billFor hD hX hXT hTd hQ e hi ?_
      refine c4_chp_loop (A := vs D (2 + i) + vs D (7 + i)) hD hX hXT hTd hQ e hi (nI_add _ _) hA6 ?_ 0 (by omega) _ _ _ _ rfl rfl (congrArg (fun u => sp_bil Q b u (sr_k 0)) (nb_s0 _))
      refine eX5_cheapest [44] ?_
      refine c5_isGuest' (FI := sr_u FI 0 11 _) hD hM (fun i2 hi2 e2 z hz => ?_) (fun c3 => absurd e (c3 i hi))
      refine sr_n1 hz ?_
      refine c5_inN' (b := 3) rfl rfl (by omega) (fun k hk e2 z hz => ?_) (fun c => absurd ew (c w hw))
      refine sr_n1 hz ?_
      refine ⟨2 + i, ⟨show nI 2 + a = _ by rw [e, nI_add], show 2 + i < 12 by omega⟩, ?_⟩
      refine ⟨7 + i, ⟨show nI 7 + a = _ by rw [e, nI_add], show 7 + i < 12 by omega⟩, ?_⟩
      have h2 : FI 43 (2 + i) = nI (vs D (2 + i)) := hML.2.1 _ (by omega)
      have h7 : FI 43 (7 + i) = nI (vs D (7 + i)) := hML.2.1 _ (by omega)
      have e9 : FI 43 (2 + i) + FI 43 (7 + i) = nI (vs D (2 + i)) + nI (vs D (7 + i)) := by rw [h2, h7]
      refine c5_chp_loop (FI := sr_u FI 0 11 _) (A := vs D (2 + i) + vs D (7 + i)) hD hM hMT hTd hQ e hi (e9.trans (nI_add _ _)) hA6 ?_ 0 (by omega) _ _ rfl rfl
      refine ⟨?_, ?_⟩
      · show some (Value.int (sp_chp Q b (FI 43 (2 + i) + FI 43 (7 + i)) _)) = _
        rw [e9]
      · show sp_I Ls xs (hp Ls nz (sr_u (sr_u FI 0 11 _) 30 2 (sp_bil Q b (FI 43 (2 + i) + FI 43 (7 + i) - sp_chp Q b (FI 43 (2 + i) + FI 43 (7 + i)) _) (sp_chp Q b (FI 43 (2 + i) + FI 43 (7 + i)) _))) FJ kp)
        rw [e9]
        exact .of (sp_Inv_tell hI _)
    · refine sr_n0 hz ?_
      exact bad (Or.inr c)
  · refine sr_n0 hz ?_
    exact bad (Or.inl c)
/-- pairs -/
def sp_pst (R : Nat → Nat → Bool) (a b : Nat) (q : Int32 × Int32) : Int32 × Int32 := if R a b then (q.1 + nI 1, if q.1 = 0 then nI 6 * nI a + nI b else q.2) else q
def sp_pin (R : Nat → Nat → Bool) (a : Nat) : Nat → Int32 × Int32 → Int32 × Int32
  | 0, q => q
  | k + 1, q => sp_pst R a (a + 1 + k) (sp_pin R a k q)
def sp_pou (R : Nat → Nat → Bool) (n : Nat) : Nat → Int32 × Int32
  | 0 => (0, sr_k (-9))
  | a + 1 => sp_pin R a (n - (a + 1)) (sp_pou R n a)
def sp_each (T : Nat) (kd lf tn : Nat → Nat) (a b : Nat) : Bool := decide (lf b = sp_sec T kd lf tn a) && decide (lf a = sp_sec T kd lf tn b)
theorem c4_isSecondOf' {i j : Nat} {x y : Int32} (hD : sp_HD T g o kd lf th) (hX : sp_XH FI T g o kd lf th) (hT : sp_XT FI g tn) (hTd : sp_TD T g tn) (hx : x = nI i) (hi : i < g) (hy : y = nI j) (hj : j < g) (h1 : lf i = sp_sec T kd lf tn j → ∀ z, z = 1 → P (some (.int z)) (hp Ls nz FI FJ kp)) (h0 : lf i ≠ sp_sec T kd lf tn j → ∀ z, z = 0 → P (some (.int z)) (hp Ls nz FI FJ kp)) : sr_Call mX4_isSecondOf (d + 3) [.ref 0, .int x, .int y] (hp Ls nz FI FJ kp) P := c4_isSecondOf hD hX hT hTd hx hi hy hj (fun c => h1 c 1 rfl) (fun c => h0 c 0 rfl)
theorem c5_isSecond' {i j : Nat} {x y : Int32} (hD : sp_HD T g o kd lf th) (hX : sp_MH FI T g o kd lf th) (hT : sp_MT FI g tn) (hTd : sp_TD T g tn) (hx : x = nI i) (hi : i < g) (hy : y = nI j) (hj : j < g) (h1 : i ≠ j → lf i = sp_sec T kd lf tn j → ∀ z, z = 1 → P (some (.int z)) (hp Ls nz FI FJ kp)) (h0 : (i = j ∨ lf i ≠ sp_sec T kd lf tn j) → ∀ z, z = 0 → P (some (.int z)) (hp Ls nz FI FJ kp)) : sr_Call mX5_isSecond (d + 3) [.ref 30, .int x, .int y] (hp Ls nz FI FJ kp) P := c5_isSecond hD hX hT hTd hx hi hy hj (fun a c => h1 a c 1 rfl) (fun c => h0 c 0 rfl)
theorem c4_pairs_loop (hD : sp_HD T g o kd lf th) (hX : sp_XH FI T g o kd lf th) (hT : sp_XT FI g tn) (hTd : sp_TD T g tn) (h : P (some (.int (sp_pou (sp_each T kd lf tn) g g).1)) (hp Ls nz (sr_u FI 0 11 (sp_pou (sp_each T kd lf tn) g g).2) FJ kp)) : ∀ k, k ≤ g → ∀ (z s f : Int32) (e : Option Value), z = nI k → (s, f) = sp_pou (sp_each T kd lf tn) g k → sr_Go mX4_pairs (d + 4) 7 [some (.ref 0), some (.int s), some (.int f), some (.int z), e] [] (0, 0) (hp Ls nz FI FJ kp) P := by
  have hg := hD.1
  refine sp_for (fun z s f e hz hs => ?_) (fun k hk ih z s f e hz hs => ?_)
  · refine eX4_pairs [7, 23] ?_
    refine sr_ite (c := z < FI 8 1) (fun c => absurd c (by rw [hz, hX.2.1]; exact nI_nlt (by omega) (by omega))) (fun c => ?_)
    refine c4_tell ?_
    rw [← hs] at h; exact h
  · refine eX4_pairs [7, 23] ?_
    refine sr_ite (c := z < FI 8 1) (fun c => ?_) (fun c => absurd (by rw [hz, hX.2.1]; exact nI_lt hk (by omega)) c)
    have inner : ∀ j, j ≤ g - (k + 1) → ∀ (y s2 f2 : Int32), y = nI (k + 1 + j) → (s2, f2) = sp_pin (sp_each T kd lf tn) k j (s, f) → sr_Go mX4_pairs (d + 4) 23 [some (.ref 0), some (.int s2), some (.int f2), some (.int z), some (.int y)] [] (0, 0) (hp Ls nz FI FJ kp) P := by
      refine sp_for (fun y s2 f2 hy hs2 => ?_) (fun j hj ih2 y s2 f2 hy hs2 => ?_)
      · refine eX4_pairs [7, 23] ?_
        refine sr_ite (c := y < FI 8 1) (fun c => absurd c (by rw [hy, hX.2.1]; exact nI_nlt (by omega) (by omega))) (fun c => ?_)
        refine ih _ _ _ _ (by rw [hz]; exact nI_1 k) ?_
        rw [sp_pou, ← hs, hs2]
      · refine eX4_pairs [7, 23] ?_
        refine sr_ite (c := y < FI 8 1) (fun c => ?_) (fun c => absurd (by rw [hy, hX.2.1]; exact nI_lt (by omega) (by omega)) c)
        refine c4_isSecondOf' hD hX hT hTd hy (by omega) hz (by omega) (fun c1 w hw => ?_) (fun c1 w hw => ?_)
        · refine sr_n1 hw ?_
          refine c4_isSecondOf' hD hX hT hTd hz (by omega) hy (by omega) (fun c2 w hw => ?_) (fun c2 w hw => ?_)
          · refine sr_n1 hw ?_
            have hR : sp_each T kd lf tn k (k + 1 + j) = true := by simp [sp_each, c1, c2]
            refine sr_ite (c := s2 = 0) (fun c3 => ?_) (fun c3 => ?_)
            · refine ih2 _ _ _ (by rw [hy]; exact nI_1 _) ?_
              rw [sp_pin, ← hs2, sp_pst, if_pos hR, if_pos c3, hz, hy]; rfl
            · refine ih2 _ _ _ (by rw [hy]; exact nI_1 _) ?_
              rw [sp_pin, ← hs2, sp_pst, if_pos hR, if_neg c3]; rfl
          · refine sr_n0 hw ?_
            refine ih2 _ _ _ (by rw [hy]; exact nI_1 _) ?_
            rw [sp_pin, ← hs2, sp_pst, if_neg (by simp [sp_each, c2])]
        · refine sr_n0 hw ?_
          refine ih2 _ _ _ (by rw [hy]; exact nI_1 _) ?_
          rw [sp_pin, ← hs2, sp_pst, if_neg (by simp [sp_each, c1])]
    exact inner 0 (by omega) _ _ _ (by show z + nI 1 = _; rw [hz]; exact nI_1 k) rfl
theorem c5_pairs_loop (hD : sp_HD T g o kd lf th) (hX : sp_MH FI T g o kd lf th) (hT : sp_MT FI g tn) (hTd : sp_TD T g tn) (h : P (some (.int (sp_pou (sp_each T kd lf tn) g g).1)) (hp Ls nz (sr_u FI 30 2 (sp_pou (sp_each T kd lf tn) g g).2) FJ kp)) : ∀ k, k ≤ g → ∀ (z s f : Int32) (e : Option Value), z = nI k → (s, f) = sp_pou (sp_each T kd lf tn) g k → sr_Go mX5_pairs (d + 4) 7 [some (.ref 30), some (.int s), some (.int f), some (.int z), e] [] (0, 0) (hp Ls nz FI FJ kp) P := by
  have hg := hD.1
  refine sp_for (fun z s f e hz hs => ?_) (fun k hk ih z s f e hz hs => ?_)
  · refine eX5_pairs [7, 20] ?_
    refine sr_ite (c := z < FI 30 10) (fun c => absurd c (by rw [hz, hX.2.1]; exact nI_nlt (by omega) (by omega))) (fun c => ?_)
    refine c5_tells ?_
    rw [← hs] at h; exact h
  · refine eX5_pairs [7, 20] ?_
    refine sr_ite (c := z < FI 30 10) (fun c => ?_) (fun c => absurd (by rw [hz, hX.2.1]; exact nI_lt hk (by omega)) c)
    have inner : ∀ j, j ≤ g - (k + 1) → ∀ (y s2 f2 : Int32), y = nI (k + 1 + j) → (s2, f2) = sp_pin (sp_each T kd lf tn) k j (s, f) → sr_Go mX5_pairs (d + 4) 20 [some (.ref 30), some (.int s2), some (.int f2), some (.int z), some (.int y)] [] (0, 0) (hp Ls nz FI FJ kp) P := by
      refine sp_for (fun y s2 f2 hy hs2 => ?_) (fun j hj ih2 y s2 f2 hy hs2 => ?_)
      · refine eX5_pairs [7, 20] ?_
        refine sr_ite (c := y < FI 30 10) (fun c => absurd c (by rw [hy, hX.2.1]; exact nI_nlt (by omega) (by omega))) (fun c => ?_)
        refine ih _ _ _ _ (by rw [hz]; exact nI_1 k) ?_
        rw [sp_pou, ← hs, hs2]
      · refine eX5_pairs [7, 20] ?_
        refine sr_ite (c := y < FI 30 10) (fun c => ?_) (fun c => absurd (by rw [hy, hX.2.1]; exact nI_lt (by omega) (by omega)) c)
        refine c5_isSecond' hD hX hT hTd hz (by omega) hy (by omega) (fun _ c1 w hw => ?_) (fun c1 w hw => ?_)
        · refine sr_n1 hw ?_
          refine c5_isSecond' hD hX hT hTd hy (by omega) hz (by omega) (fun _ c2 w hw => ?_) (fun c2 w hw => ?_)
          · refine sr_n1 hw ?_
            have hR : sp_each T kd lf tn k (k + 1 + j) = true := by simp [sp_each, c1, c2]
            refine sr_ite (c := s2 = 0) (fun c3 => ?_) (fun c3 => ?_)
            · refine ih2 _ _ _ (by rw [hy]; exact nI_1 _) ?_
              rw [sp_pin, ← hs2, sp_pst, if_pos hR, if_pos c3, hz, hy]; rfl
            · refine ih2 _ _ _ (by rw [hy]; exact nI_1 _) ?_
              rw [sp_pin, ← hs2, sp_pst, if_pos hR, if_neg c3]; rfl
          · refine sr_n0 hw ?_
            refine ih2 _ _ _ (by rw [hy]; exact nI_1 _) ?_
            have c2 : lf (k + 1 + j) ≠ sp_sec T kd lf tn k := c2.resolve_left (by omega)
            rw [sp_pin, ← hs2, sp_pst, if_neg (by simp [sp_each, c2])]
        · refine sr_n0 hw ?_
          refine ih2 _ _ _ (by rw [hy]; exact nI_1 _) ?_
          have c1 : lf k ≠ sp_sec T kd lf tn (k + 1 + j) := c1.resolve_left (by omega)
          rw [sp_pin, ← hs2, sp_pst, if_neg (by simp [sp_each, c1])]
    exact inner 0 (by omega) _ _ _ (by show z + nI 1 = _; rw [hz]; exact nI_1 k) rfl
theorem q_pairs (hI : sp_Inv xs nz FI FJ kp) : sp_two (sp_I Ls xs) mX4_pairs mX5_pairs (d + 4) [] (hp Ls nz FI FJ kp) := by
  obtain ⟨hS, hO, hA, hB, hC, T, g, o, kd, lf, th, tn, D, vs, ac, gs, hD, hX, hM, hTd, hXT, hMT, hLG, hXL, hML, hRK⟩ := id hI
  refine eX4_pairs [7, 23] ?_
  refine c4_pairs_loop hD hX hXT hTd ?_ 0 (by omega) _ _ _ _ rfl rfl
  refine eX5_pairs [7, 20] ?_
  refine c5_pairs_loop (FI := sr_u FI 0 11 _) hD hM hMT hTd ?_ 0 (by omega) _ _ _ _ rfl rfl
  exact ⟨rfl, .of (sp_Inv_tell hI _)⟩
end PA
