/-! what the searches leave -/
section FZ
variable {Ls nz d T g o D n c i j k : Nat} {S L : Nat → Nat} {R : Nat → Nat → Prop} {W : Nat → Prop} {kd lf th tn : Nat → Nat} {xs : Nat → Int32} {FI F F' : Nat → Nat → Int32} {FJ : Nat → Nat → Int64} {kp : Nat → Option Nat} {P : Option Value → sr_H → Prop} {h9 : sr_H}
theorem sp_full (hS : ∀ i, i < n → S i < 2 ^ o) : sp_told S n (2 ^ o - 1) := by
  intro i hi j hj
  rw [Nat.and_two_pow_sub_one_eq_mod, Nat.and_two_pow_sub_one_eq_mod, Nat.mod_eq_of_lt (hS i hi), Nat.mod_eq_of_lt (hS j (by omega))]
  by_cases e : S i = S j
  · exact Or.inl e
  · exact Or.inr e
theorem sp_XH_fr (fr : ∀ r, 8 ≤ r → r ≤ 24 → F' r = F r) (hX : sp_XH F T g o kd lf th) : sp_XH F' T g o kd lf th := by
  unfold sp_XH at hX ⊢
  rw [fr 8 (by omega) (by omega), fr 9 (by omega) (by omega), fr 10 (by omega) (by omega), fr 12 (by omega) (by omega), fr 13 (by omega) (by omega)]; exact hX
theorem sp_MH_fr (fr : ∀ r, 37 ≤ r → r ≤ 40 → F' r = F r) (fr30 : ∀ k, 10 ≤ k → k ≤ 12 → F' 30 k = F 30 k) (hX : sp_MH F T g o kd lf th) : sp_MH F' T g o kd lf th := by
  unfold sp_MH at hX ⊢
  rw [fr 37 (by omega) (by omega), fr 38 (by omega) (by omega), fr 40 (by omega) (by omega), fr30 10 (by omega) (by omega), fr30 11 (by omega) (by omega), fr30 12 (by omega) (by omega)]; exact hX
theorem sp_fr_KP50 (h : ∀ r, 45 ≤ r → r ≠ 50 → F r = FI r) {j : Nat} (hK : sp_KP FI kp nz T g j) : sp_KP F kp nz T g j := by
  rcases hK with ⟨e, hk⟩ | ⟨e, hg, z, hz, hk, D, vs, ac, gs, tn, hLG, hTD, hXL, hXT, r1, r2, r3, r4⟩
  · refine Or.inl ⟨by rw [h 45 (by omega) (by omega)]; exact e, hk.imp id (fun ⟨z, hz, q1, q2⟩ => ⟨z, hz, q1, by rw [h _ (by omega) (by omega)]; exact q2⟩)⟩
  · refine Or.inr ⟨by rw [h 45 (by omega) (by omega)]; exact e, hg, z, hz, hk, D, vs, ac, gs, tn, hLG, hTD, ?_, ?_, ?_, ?_, ?_, ?_⟩
    · unfold sp_XL at hXL ⊢
      rw [h (5 * z + 51) (by omega) (by omega), h (5 * z + 51 + 2) (by omega) (by omega), h (5 * z + 51 + 3) (by omega) (by omega), h (5 * z + 51 + 4) (by omega) (by omega)]
      exact hXL
    · rw [h (5 * z + 51 + 1) (by omega) (by omega)]; exact hXT
    · rw [h 46 (by omega) (by omega)]; exact r1
    · rw [h 47 (by omega) (by omega)]; exact r2
    · rw [h 48 (by omega) (by omega)]; exact r3
    · rw [h 49 (by omega) (by omega)]; exact r4
/-- what these searches leave as it is -/
theorem sp_Inv_few (hI : sp_Inv xs nz FI FJ kp) (fr : ∀ r, r ≠ 0 → r < 26 ∨ 28 < r → r ≠ 30 → r ≠ 50 → F r = FI r) (fr0 : ∀ k, k ≠ 8 → k ≠ 11 → F 0 k = FI 0 k) (fr30 : ∀ k, k ≠ 2 → k ≠ 32 → F 30 k = FI 30 k) (e : F 0 11 = F 30 2) : sp_Inv xs nz F FJ kp := by
  obtain ⟨hS, hO, hA, hB, hC, T, g, o, kd, lf, th, tn, D, vs, ac, gs, hD, hX, hM, hTd, hXT, hMT, hLG, hXL, hML, hRK⟩ := id hI
  refine ⟨?_, ?_, ?_, ?_, ?_, T, g, o, kd, lf, th, tn, D, vs, ac, gs, hD, sp_XH_fr (fun r h1 h2 => fr r (by omega) (by omega) (by omega) (by omega)) hX, sp_MH_fr (fun r h1 h2 => fr r (by omega) (by omega) (by omega) (by omega)) (fun k h1 h2 => fr30 k (by omega) (by omega)) hM, hTd, ?_, ?_, hLG, ?_, ?_, hRK.1, hRK.2.1, fun j hj => sp_fr_KP50 (fun r hr h9 => fr r (by omega) (by omega) (by omega) h9) (hRK.2.2 j hj)⟩
  · rw [fr 1000002 (by omega) (by omega) (by omega) (by omega)]; exact hS
  · unfold sp_RO at hO ⊢
    rw [fr 1000000 (by omega) (by omega) (by omega) (by omega), fr 1000001 (by omega) (by omega) (by omega) (by omega)]; exact hO
  · unfold sp_RA at hA ⊢
    refine ⟨e, ?_, ?_, hA.2.2.2⟩
    · rw [fr0 14 (by omega) (by omega), fr30 0 (by omega) (by omega)]; exact hA.2.1
    · rw [fr 29 (by omega) (by omega) (by omega) (by omega), fr 31 (by omega) (by omega) (by omega) (by omega)]; exact hA.2.2.1
  · unfold sp_RB at hB ⊢
    rw [fr 1 (by omega) (by omega) (by omega) (by omega), fr 2 (by omega) (by omega) (by omega) (by omega), fr 3 (by omega) (by omega) (by omega) (by omega), fr 32 (by omega) (by omega) (by omega) (by omega), fr 33 (by omega) (by omega) (by omega) (by omega)]; exact hB
  · unfold sp_RC at hC ⊢
    rw [fr 4 (by omega) (by omega) (by omega) (by omega), fr 5 (by omega) (by omega) (by omega) (by omega), fr 6 (by omega) (by omega) (by omega) (by omega), fr 35 (by omega) (by omega) (by omega) (by omega), fr 36 (by omega) (by omega) (by omega) (by omega)]; exact hC
  · unfold sp_XT at hXT ⊢
    rw [fr 21 (by omega) (by omega) (by omega) (by omega)]; exact hXT
  · unfold sp_MT at hMT ⊢
    rw [fr 39 (by omega) (by omega) (by omega) (by omega)]; exact hMT
  · unfold sp_XL at hXL ⊢
    rw [fr 20 (by omega) (by omega) (by omega) (by omega), fr (20 + 2) (by omega) (by omega) (by omega) (by omega), fr (20 + 3) (by omega) (by omega) (by omega) (by omega), fr (20 + 4) (by omega) (by omega) (by omega) (by omega)]; exact hXL
  · unfold sp_ML at hML ⊢
    rw [fr30 24 (by omega) (by omega), fr 43 (by omega) (by omega) (by omega) (by omega), fr 44 (by omega) (by omega) (by omega) (by omega)]; exact hML
end FZ
