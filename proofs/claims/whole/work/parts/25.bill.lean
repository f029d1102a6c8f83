/-! pairs of calls: bill, pays, cheapest, pairs, drawer, nearest -/
theorem nb_andl {a : Nat} (ha : a < 256) (y : Int32) : ∃ l, l < 256 ∧ nI a &&& y = nI l := by
  refine ⟨a &&& y.toBitVec.toNat, Nat.lt_of_le_of_lt Nat.and_le_left ha, ?_⟩
  rw [← nI_and]
  have : nI y.toBitVec.toNat = y := by
    apply Int32.toBitVec_inj.mp
    show BitVec.ofNat 32 y.toBitVec.toNat = y.toBitVec
    simp
  rw [this]
def sp_bil (Q law own sec : Int32) : Int32 := if law = 0 then nI 2 * own + nI 3 * sec else if law = nI 1 then own + sec + (if 0 < sec then nI 2 * Q else 0) else (if sec < own then own * own else sec * sec)
def sp_pay (Q own sec : Int32) : Nat → Int32
  | 0 => 0
  | i + 1 => if sp_bil Q (nI i) sec own < sp_bil Q (nI i) own sec then sp_pay Q own sec i ||| (nI 1 <<< (nI i &&& 31)) else sp_pay Q own sec i
/-- the cheapest share of the second room, of n tried -/
def sp_chp (Q law all : Int32) : Nat → Int32
  | 0 => 0
  | i + 1 => if sp_bil Q law (all - nI (i + 1)) (nI (i + 1)) < sp_bil Q law (all - sp_chp Q law all i) (sp_chp Q law all i) then nI (i + 1) else sp_chp Q law all i
theorem nb_max (x y : Int32) : (if x < y then y else x) * (if x < y then y else x) = (if y < x then x * x else y * y) := by
  by_cases h : x < y
  · rw [if_pos h, if_neg]
    intro q
    have h1 := Int32.lt_iff_toInt_lt.mp h
    have h2 := Int32.lt_iff_toInt_lt.mp q
    omega
  · rw [if_neg h]
    by_cases h2 : y < x
    · rw [if_pos h2]
    · rw [if_neg h2]
      have : x = y := by
        apply Int32.toInt_inj.mp
        have h3 : ¬ x.toInt < y.toInt := fun q => h (Int32.lt_iff_toInt_lt.mpr q)
        have h4 : ¬ y.toInt < x.toInt := fun q => h2 (Int32.lt_iff_toInt_lt.mpr q)
        omega
      rw [this]
section BI
variable {Ls nz d T g o : Nat} {kd lf th tn v : Nat → Nat} {xs : Nat → Int32} {FI : Nat → Nat → Int32} {FJ : Nat → Nat → Int64} {kp : Nat → Option Nat} {P : Option Value → sr_H → Prop} {h9 : sr_H}
def sp_aln (T o : Nat) (kd lf th tn : Nat → Nat) (i : Nat) (Q : Int32) : Prop := ∃ l, l < 256 ∧ nI (sp_things th (sp_sec T kd lf tn i) o) &&& (nI (sp_things th (lf i) o) ^^^ sr_k (-1)) = nI l ∧ Q = nI (sp_pop l)
theorem sp_alnE (T : Nat) {o : Nat} (ho : o ≤ 8) (kd lf th tn : Nat → Nat) (i : Nat) : ∃ Q, sp_aln T o kd lf th tn i Q := by
  obtain ⟨l, h1, h2⟩ := nb_andl (nb_things (th := th) (l := sp_sec T kd lf tn i) ho) (nI (sp_things th (lf i) o) ^^^ sr_k (-1))
  exact ⟨_, l, h1, h2, rfl⟩
theorem c4_billFor {i : Nat} {x law own sec Q : Int32} (hD : sp_HD T g o kd lf th) (hX : sp_XH FI T g o kd lf th) (hT : sp_XT FI g tn) (hTd : sp_TD T g tn) (hQ : sp_aln T o kd lf th tn i Q) (hx : x = nI i) (hi : i < g) (h : P (some (.int (sp_bil Q law own sec))) (hp Ls nz FI FJ kp)) : sr_Call mX4_billFor (d + 4) [.ref 0, .int x, .int law, .int own, .int sec] (hp Ls nz FI FJ kp) P := by
  obtain ⟨l, hl, e1, e2⟩ := hQ
  refine eX4_billFor [] ?_
  refine sr_ite (c := law = 0) (fun c => ?_) (fun c => ?_)
  · rw [sp_bil, if_pos c] at h; exact h
  refine sr_ite (c := law = nI 1) (fun c1 => ?_) (fun c1 => ?_)
  · rw [sp_bil, if_neg c, if_pos c1] at h
    refine c4_thingsIn1 hD hX hT hTd hx hi rfl ?_
    refine c4_thingsIn0 hD hX hx hi rfl ?_
    refine sr_ite (c := 0 < sec) (fun c2 => ?_) (fun c2 => ?_)
    · refine c6_bitCount e1 hl ?_
      rw [if_pos c2, e2] at h
      exact h
    · rw [if_neg c2] at h
      exact h
  · rw [sp_bil, if_neg c, if_neg c1, ← nb_max] at h
    exact h
theorem c5_billOf {i : Nat} {x law own sec Q : Int32} (hD : sp_HD T g o kd lf th) (hX : sp_MH FI T g o kd lf th) (hT : sp_MT FI g tn) (hTd : sp_TD T g tn) (hQ : sp_aln T o kd lf th tn i Q) (hx : x = nI i) (hi : i < g) (h : P (some (.int (sp_bil Q law own sec))) (hp Ls nz FI FJ kp)) : sr_Call mX5_billOf (d + 4) [.ref 30, .int x, .int law, .int own, .int sec] (hp Ls nz FI FJ kp) P := by
  obtain ⟨l, hl, e1, e2⟩ := hQ
  refine eX5_billOf [] ?_
  refine sr_ite (c := law = sr_k 0) (fun c => ?_) (fun c => ?_)
  · have c : law = 0 := c
    rw [sp_bil, if_pos c] at h; exact h
  have c : ¬ law = 0 := c
  refine sr_ite (c := law = nI 1) (fun c1 => ?_) (fun c1 => ?_)
  · rw [sp_bil, if_neg c, if_pos c1] at h
    refine sr_ite (c := 0 < sec) (fun c2 => ?_) (fun c2 => ?_)
    · refine c5_roomOf1 hD hX hT hTd hx hi rfl ?_
      refine c5_roomOf0 hD hX hx hi rfl ?_
      refine c5_bits e1 hl ?_
      rw [if_pos c2, e2] at h
      exact h
    · rw [if_neg c2] at h
      exact h
  · rw [sp_bil, if_neg c, if_neg c1] at h
    refine sr_ite (c := sec < own) (fun c2 => ?_) (fun c2 => ?_)
    · rw [if_pos c2] at h; exact h
    · rw [if_neg c2] at h; exact h
theorem c4_isLaw' {x : Int32} (h1 : ∀ i, i < 3 → x = nI i → ∀ z, z = 1 → P (some (.int z)) h9) (h0 : (∀ i, i < 3 → x ≠ nI i) → ∀ z, z = 0 → P (some (.int z)) h9) : sr_Call mX4_isLaw d [.int x] h9 P := c4_isLaw (fun i hi e => h1 i hi e 1 rfl) (fun c => h0 c 0 rfl)
theorem q_bill {a b : Int32} (hI : sp_Inv xs nz FI FJ kp) : sp_two (sp_I Ls xs) mX4_bill mX5_bill (d + 5) [.int a, .int b] (hp Ls nz FI FJ kp) := by
  obtain ⟨hS, hO, hA, hB, hC, T, g, o, kd, lf, th, tn, D, vs, ac, gs, hD, hX, hM, hTd, hXT, hMT, hLG, hXL, hML, hRK⟩ := id hI
  have hg := hD.1
  have bad : ((∀ i, i < g → a ≠ nI i) ∨ (∀ i, i < 3 → b ≠ nI i)) → sr_Call mX5_bill (d + 5) [.ref 30, .int a, .int b] (hp Ls nz FI FJ kp) (fun v2 h2 => v2 = some (.int (sr_k (-1))) ∧ sp_I Ls xs h2) := by
    intro hb
    refine eX5_bill [] ?_
    refine c5_isGuest' hD hM (fun i hi e z hz => ?_) (fun c z hz => ?_)
    · refine sr_n1 hz ?_
      refine c5_inN' (b := 3) rfl rfl (by omega) (fun k hk e2 z hz => ?_) (fun c z hz => ?_)
      · rcases hb with hb | hb
        · exact absurd e (hb i hi)
        · exact absurd e2 (hb k hk)
      · refine sr_n0 hz ?_
        exact ⟨rfl, .of hI⟩
    · refine sr_n0 hz ?_
      exact ⟨rfl, .of hI⟩
  refine eX4_bill [] ?_
  refine c4_isGuest' hD hX (fun i hi e z hz => ?_) (fun c z hz => ?_)
  · refine sr_n1 hz ?_
    refine c4_isLaw' (fun w hw ew z hz => ?_) (fun c z hz => ?_)
    · refine sr_n1 hz ?_
      obtain ⟨Q, hQ⟩ := sp_alnE T hD.2.1 kd lf th tn i
      refine c1_hoursOf0 (sp_XNof hXL) e (by omega) rfl ?_
      refine c1_hoursOf1 (sp_XNof hXL) e (by omega) rfl ?_
      refine c4_billFor hD hX hXT hTd hQ e hi ?_
      refine eX5_bill [] ?_
      refine c5_isGuest' hD hM (fun i2 hi2 e2 z hz => ?_) (fun c3 => absurd e (c3 i hi))
      refine sr_n1 hz ?_
      refine c5_inN' (b := 3) rfl rfl (by omega) (fun k hk e2 z hz => ?_) (fun c => absurd ew (c w hw))
      refine sr_n1 hz ?_
      refine ⟨2 + i, ⟨show nI 2 + a = _ by rw [e, nI_add], show 2 + i < 12 by omega⟩, ?_⟩
      refine ⟨7 + i, ⟨show nI 7 + a = _ by rw [e, nI_add], show 7 + i < 12 by omega⟩, ?_⟩
      have h2 : FI 43 (2 + i) = nI (vs D (2 + i)) := hML.2.1 _ (by omega)
      have h7 : FI 43 (7 + i) = nI (vs D (7 + i)) := hML.2.1 _ (by omega)
      refine c5_billOf hD hM hMT hTd hQ e hi ?_
      refine ⟨?_, .of hI⟩
      show some (Value.int (sp_bil Q b (FI 43 (2 + i)) (FI 43 (7 + i)))) = _
      rw [h2, h7]
    · refine sr_n0 hz ?_
      exact bad (Or.inr c)
  · refine sr_n0 hz ?_
    exact bad (Or.inl c)
theorem c4_pays_loop {i : Nat} {x own sec Q : Int32} (hD : sp_HD T g o kd lf th) (hX : sp_XH FI T g o kd lf th) (hT : sp_XT FI g tn) (hTd : sp_TD T g tn) (hQ : sp_aln T o kd lf th tn i Q) (hx : x = nI i) (hi : i < g) (h : P (some (.int (sp_pay Q own sec 3))) (hp Ls nz FI FJ kp)) : ∀ k, k ≤ 3 → ∀ z s : Int32, z = nI k → s = sp_pay Q own sec k → sr_Go mX4_pays (d + 5) 36 [some (.ref 0), some (.int x), some (.int own), some (.int sec), some (.int s), some (.int z)] [] (0, 0) (hp Ls nz FI FJ kp) P := by
  refine sp_for (fun z s hz hs => ?_) (fun k hk ih z s hz hs => ?_)
  · subst hz
    refine eX4_pays [36] ?_
    rw [hs]; exact h
  · refine eX4_pays [36] ?_
    refine sr_ite (c := z < nI 3) (fun c => ?_) (fun c => absurd (by rw [hz]; exact nI_lt hk (by omega)) c)
    refine c4_billFor hD hX hT hTd hQ hx hi ?_
    refine c4_billFor hD hX hT hTd hQ hx hi ?_
    subst hz
    refine sr_ite (c := sp_bil Q (nI k) sec own < sp_bil Q (nI k) own sec) (fun c => ?_) (fun c => ?_)
    · refine ih _ _ (nI_1 k) ?_
      rw [sp_pay, if_pos c, hs]; rfl
    · refine ih _ _ (nI_1 k) ?_
      rw [sp_pay, if_neg c, hs]
theorem c5_pays_loop {i : Nat} {x own sec Q : Int32} (hD : sp_HD T g o kd lf th) (hX : sp_MH FI T g o kd lf th) (hT : sp_MT FI g tn) (hTd : sp_TD T g tn) (hQ : sp_aln T o kd lf th tn i Q) (hx : x = nI i) (hi : i < g) (h : P (some (.int (sp_pay Q own sec 3))) (hp Ls nz FI FJ kp)) : ∀ k, k ≤ 3 → ∀ z s : Int32, z = nI k → s = sp_pay Q own sec k → sr_Go mX5_pays (d + 5) 35 [some (.ref 30), some (.int x), some (.int own), some (.int sec), some (.int s), some (.int z)] [] (0, 0) (hp Ls nz FI FJ kp) P := by
  refine sp_for (fun z s hz hs => ?_) (fun k hk ih z s hz hs => ?_)
  · subst hz
    refine eX5_pays [35] ?_
    rw [hs]; exact h
  · refine eX5_pays [35] ?_
    refine sr_ite (c := z < nI 3) (fun c => ?_) (fun c => absurd (by rw [hz]; exact nI_lt hk (by omega)) c)
    refine c5_billOf hD hX hT hTd hQ hx hi ?_
    refine c5_billOf hD hX hT hTd hQ hx hi ?_
    subst hz
    refine sr_ite (c := sp_bil Q (nI k) sec own < sp_bil Q (nI k) own sec) (fun c => ?_) (fun c => ?_)
    · refine ih _ _ (nI_1 k) ?_
      rw [sp_pay, if_pos c, hs]; rfl
    · refine ih _ _ (nI_1 k) ?_
      rw [sp_pay, if_neg c, hs]
      exact Int32.or_zero
theorem q_pays {a : Int32} (hI : sp_Inv xs nz FI FJ kp) : sp_two (sp_I Ls xs) mX4_pays mX5_pays (d + 5) [.int a] (hp Ls nz FI FJ kp) := by
  obtain ⟨hS, hO, hA, hB, hC, T, g, o, kd, lf, th, tn, D, vs, ac, gs, hD, hX, hM, hTd, hXT, hMT, hLG, hXL, hML, hRK⟩ := id hI
  have hg := hD.1
  refine eX4_pays [36] ?_
  refine c4_isGuest' hD hX (fun i hi e z hz => ?_) (fun c z hz => ?_)
  · refine sr_n1 hz ?_
    obtain ⟨Q, hQ⟩ := sp_alnE T hD.2.1 kd lf th tn i
    refine c1_hoursOf0 (sp_XNof hXL) e (by omega) rfl ?_
    refine c1_hoursOf1 (sp_XNof hXL) e (by omega) rfl ?_
    refine c4_pays_loop hD hX hXT hTd hQ e hi ?_ 0 (by omega) _ _ rfl rfl
    refine eX5_pays [35] ?_
    refine c5_isGuest' hD hM (fun i2 hi2 e2 z hz => ?_) (fun c3 => absurd e (c3 i hi))
    refine sr_n1 hz ?_
    refine ⟨2 + i, ⟨show nI 2 + a = _ by rw [e, nI_add], show 2 + i < 12 by omega⟩, ?_⟩
    refine ⟨7 + i, ⟨show nI 7 + a = _ by rw [e, nI_add], show 7 + i < 12 by omega⟩, ?_⟩
    have h2 : FI 43 (2 + i) = nI (vs D (2 + i)) := hML.2.1 _ (by omega)
    have h7 : FI 43 (7 + i) = nI (vs D (7 + i)) := hML.2.1 _ (by omega)
    refine c5_pays_loop hD hM hMT hTd hQ e hi ?_ 0 (by omega) _ _ rfl rfl
    refine ⟨?_, .of hI⟩
    show some (Value.int (sp_pay Q (FI 43 (2 + i)) (FI 43 (7 + i)) 3)) = _
    rw [h2, h7]
  · refine sr_n0 hz ?_
    refine eX5_pays [35] ?_
    refine c5_isGuest' hD hM (fun i2 hi2 e2 => absurd e2 (c i2 hi2)) (fun c3 z hz => ?_)
    refine sr_n0 hz ?_
    exact ⟨rfl, .of hI⟩
end BI
