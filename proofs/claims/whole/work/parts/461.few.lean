/-! the fewest: the class -/
section FX
variable {Ls nz d T g o D n c i j k : Nat} {S L : Nat → Nat} {R : Nat → Nat → Prop} {W : Nat → Prop} {kd lf th tn : Nat → Nat} {xs : Nat → Int32} {FI F F' : Nat → Nat → Int32} {FJ : Nat → Nat → Int64} {kp : Nat → Option Nat} {P : Option Value → sr_H → Prop} {h9 : sr_H}
theorem c4_fewest (ho : o ≤ 8) (h82 : F 8 2 = nI o) (hc : F 0 8 = nI c) (hc45 : c ≤ 45) (hW : ∀ k, k < 2 ^ o → ((∀ e, e < c → F 26 e &&& nI k ≠ 0) ↔ W k)) (hN : (∀ k, k < 2 ^ o → ¬ W k) → P (some (.int (sr_k (-9)))) (hp Ls nz F FJ kp)) (hS : ∀ k, sp_ch W (2 ^ o) k → P (some (.int (nI k))) (hp Ls nz F FJ kp)) : sr_Call mX4_fewestTellingApart (d + 1) [.ref 0] (hp Ls nz F FJ kp) P := by
  have h256 := nb_p8 ho
  have es : (nI 1 <<< (F 8 2 &&& 31)) = nI (2 ^ o) := by rw [h82]; exact nI_shl1 o (by omega)
  have l1 : ∀ k, k ≤ 2 ^ o → ∀ b q z : Int32, z = nI k → ((b = sr_k (-9) ∧ q = nI 9 ∧ ∀ j, j < k → ¬ W j) ∨ ∃ k', k' < k ∧ b = nI k' ∧ q = nI (sp_pop k') ∧ W k' ∧ ∀ j, j < k → W j → sp_pop k' < sp_pop j ∨ (sp_pop k' = sp_pop j ∧ k' ≤ j)) → sr_Go mX4_fewestTellingApart (d + 1) 8 [some (.ref 0), some (.int b), some (.int q), some (.int z)] [] (0, 0) (hp Ls nz F FJ kp) P := by
    refine sp_for (fun b q z hz hq => ?_) (fun k hk ih b q z hz hq => ?_)
    · refine eX4_fewestTellingApart [8] ?_
      refine sr_ite (c := z < nI 1 <<< (F 8 2 &&& 31)) (fun q => absurd q (by rw [hz, es]; exact nI_nlt (Nat.le_refl _) (by omega))) (fun _ => ?_)
      rcases hq with ⟨e1, e2, e3⟩ | ⟨k', h1, e1, e2, h2, h3⟩
      · have := hN e3
        rw [← e1] at this
        exact this
      · have := hS k' ⟨h1, h2, h3⟩
        rw [← e1] at this
        exact this
    · have hp8 := nb_pop8 k (by omega)
      refine eX4_fewestTellingApart [8] ?_
      refine sr_ite (c := z < nI 1 <<< (F 8 2 &&& 31)) (fun _ => ?_) (fun q => absurd (by rw [hz, es]; exact nI_lt hk (by omega)) q)
      refine c6_bitCount (l := k) hz (by omega) ?_
      refine sr_ite (c := nI (sp_pop k) < q) (fun c1 => ?_) (fun c1 => ?_)
      · subst hz
        refine c4_tellsApart hc hc45 (fun w z hz => ?_) (fun w z hz => ?_)
        · refine sr_n1 hz ?_
          refine c6_bitCount (l := k) rfl (by omega) ?_
          have wk := (hW k hk).mp w
          refine ih _ _ _ (nI_1 k) (Or.inr ⟨k, by omega, rfl, rfl, wk, fun j hj wj => ?_⟩)
          by_cases e : j = k
          · rw [e]; exact Or.inr ⟨rfl, Nat.le_refl _⟩
          · rcases hq with ⟨e1, e2, e3⟩ | ⟨k', g1, e1, e2, g2, g3⟩
            · exact absurd wj (e3 j (by omega))
            · have := g3 j (by omega) wj
              have p2 := nb_pop8 k' (by omega)
              rw [e2] at c1
              have c1 := (nI_ltI (by omega) (by omega)).mp c1
              omega
        · refine sr_n0 hz ?_
          have wk : ¬ W k := fun q => w ((hW k hk).mpr q)
          refine ih _ _ _ (nI_1 k) ?_
          rcases hq with ⟨e1, e2, e3⟩ | ⟨k', g1, e1, e2, g2, g3⟩
          · refine Or.inl ⟨e1, e2, fun j hj => ?_⟩
            by_cases e : j = k
            · rw [e]; exact wk
            · exact e3 j (by omega)
          · refine Or.inr ⟨k', by omega, e1, e2, g2, fun j hj wj => ?_⟩
            by_cases e : j = k
            · rw [e] at wj; exact absurd wj wk
            · exact g3 j (by omega) wj
      · refine ih _ _ _ (by rw [hz]; exact nI_1 k) ?_
        rcases hq with ⟨e1, e2, e3⟩ | ⟨k', g1, e1, e2, g2, g3⟩
        · exact absurd (by rw [e2]; exact nI_lt (by omega) (by omega)) c1
        · have p2 := nb_pop8 k' (by omega)
          refine Or.inr ⟨k', by omega, e1, e2, g2, fun j hj wj => ?_⟩
          by_cases e : j = k
          · have : ¬ sp_pop k < sp_pop k' := fun q => c1 (by rw [e2]; exact nI_lt q (by omega))
            rw [e]; omega
          · exact g3 j (by omega) wj
  refine eX4_fewestTellingApart [8] ?_
  exact l1 0 (Nat.zero_le _) _ _ _ rfl (Or.inl ⟨rfl, rfl, fun j hj => absurd hj (by omega)⟩)
end FX
