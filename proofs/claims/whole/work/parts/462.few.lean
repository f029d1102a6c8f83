/-! the fewest: the reference -/
section FY
variable {Ls nz d T g o D n c i j k : Nat} {S L : Nat → Nat} {R : Nat → Nat → Prop} {W : Nat → Prop} {kd lf th tn : Nat → Nat} {xs : Nat → Int32} {FI F F' : Nat → Nat → Int32} {FJ : Nat → Nat → Int64} {kp : Nat → Option Nat} {P : Option Value → sr_H → Prop} {h9 : sr_H}
theorem c5_isTold {x y : Int32} (hS : ∀ i, i < n → F 50 i = nI (S i)) (hS2 : ∀ i, i < n → S i < 256) (hn : n ≤ 10) (hx : x = nI n) (hy : y = nI k) (hk : k < 256) (h1 : sp_told S n k → ∀ z, z = 1 → P (some (.int z)) (hp Ls nz F FJ kp)) (h0 : ¬ sp_told S n k → ∀ z, z = 0 → P (some (.int z)) (hp Ls nz F FJ kp)) : sr_Call mX5_isTold d [.ref 30, .int x, .int y] (hp Ls nz F FJ kp) P := by
  subst hx; subst hy
  have inner : ∀ i, i < n → (∀ (w z : Int32) u, z = nI (i + 1) → ((w = 1 ∧ sp_tl S k (i + 1) 0) ∨ (w = 0 ∧ ¬ sp_tl S k (i + 1) 0)) → sr_Go mX5_isTold d 5 [some (.ref 30), some (.int (nI n)), some (.int (nI k)), some (.int w), some (.int z), u] [] (0, 0) (hp Ls nz F FJ kp) P) → ∀ j, j ≤ i → ∀ w z v : Int32, z = nI i → v = nI j → ((w = 1 ∧ sp_tl S k i j) ∨ (w = 0 ∧ ¬ sp_tl S k i j)) → sr_Go mX5_isTold d 14 [some (.ref 30), some (.int (nI n)), some (.int (nI k)), some (.int w), some (.int z), some (.int v)] [] (0, 0) (hp Ls nz F FJ kp) P := by
    intro i hi out
    refine sp_for (fun w z v hz hv hw => ?_) (fun j hj ih w z v hz hv hw => ?_)
    · refine eX5_isTold [5, 14] ?_
      refine sr_ite (c := v < z) (fun q => absurd q (by rw [hz, hv]; exact nI_nlt (Nat.le_refl _) (by omega))) (fun _ => ?_)
      refine out w _ _ (by rw [hz]; exact nI_1 i) ?_
      exact hw.imp (fun q => ⟨q.1, sp_tl_n (j := 0) q.2⟩) (fun q => ⟨q.1, fun w => q.2 (sp_tl_b w)⟩)
    · refine eX5_isTold [5, 14] ?_
      refine sr_ite (c := v < z) (fun _ => ?_) (fun q => absurd (by rw [hz, hv]; exact nI_lt hj (by omega)) q)
      have two : sp_tl S k i j → (S i = S j ∨ (S i &&& k) ≠ (S j &&& k)) → sp_tl S k i (j + 1) := by
        intro h h2 i' j' a1 a2
        by_cases e : i' = i ∧ j' = j
        · rw [e.1, e.2]; exact h2
        · exact h i' j' a1 (by omega)
      have no : ¬ sp_tl S k i j → ¬ sp_tl S k i (j + 1) := fun h q => h (fun i' j' a1 a2 => q i' j' a1 (by omega))
      rcases hw with ⟨e, hw⟩ | ⟨e, hw⟩
      · refine sr_n1 e ?_
        refine ⟨i, ⟨hz, show i < 10 by omega⟩, ⟨j, ⟨hv, show j < 10 by omega⟩, ?_⟩⟩
        refine sr_ite (c := F 50 i = F 50 j) (fun c1 => ?_) (fun c1 => ?_)
        · rw [hS i hi, hS j (by omega)] at c1
          have := hS2 i hi
          have := hS2 j (by omega)
          have c1 := nI_inj (by omega) (by omega) c1
          exact ih _ _ _ hz (by rw [hv]; exact nI_1 j) (Or.inl ⟨rfl, two hw (Or.inl c1)⟩)
        · refine ⟨i, ⟨hz, show i < 10 by omega⟩, ⟨j, ⟨hv, show j < 10 by omega⟩, ?_⟩⟩
          refine sr_ite (c := F 50 i &&& nI k = F 50 j &&& nI k) (fun c2 => ?_) (fun c2 => ?_)
          · refine ih _ _ _ hz (by rw [hv]; exact nI_1 j) (Or.inr ⟨rfl, fun q => ?_⟩)
            rw [hS i hi, hS j (by omega), nI_and, nI_and] at c2
            have b1 : S i &&& k ≤ k := Nat.and_le_right
            have b2 : S j &&& k ≤ k := Nat.and_le_right
            have c2 := nI_inj (by omega) (by omega) c2
            rcases q i j hj (Or.inr ⟨rfl, by omega⟩) with q | q
            · exact c1 (by rw [hS i hi, hS j (by omega), q])
            · exact q c2
          · refine ih _ _ _ hz (by rw [hv]; exact nI_1 j) (Or.inl ⟨rfl, two hw (Or.inr (fun q => c2 ?_))⟩)
            rw [hS i hi, hS j (by omega), nI_and, nI_and, q]
      · refine sr_n0 e ?_
        exact ih _ _ _ hz (by rw [hv]; exact nI_1 j) (Or.inr ⟨rfl, no hw⟩)
  have outer : ∀ i, i ≤ n → ∀ (w z : Int32) u, z = nI i → ((w = 1 ∧ sp_tl S k i 0) ∨ (w = 0 ∧ ¬ sp_tl S k i 0)) → sr_Go mX5_isTold d 5 [some (.ref 30), some (.int (nI n)), some (.int (nI k)), some (.int w), some (.int z), u] [] (0, 0) (hp Ls nz F FJ kp) P := by
    refine sp_for (fun w z u hz hw => ?_) (fun i hi ih w z u hz hw => ?_)
    · refine eX5_isTold [5, 14] ?_
      refine sr_ite (c := z < nI n) (fun q => absurd q (by rw [hz]; exact nI_nlt (Nat.le_refl _) (by omega))) (fun _ => ?_)
      rcases hw with ⟨e, hw⟩ | ⟨e, hw⟩
      · exact ⟨Or.inr e, h1 (sp_tl_told.mp hw) w e⟩
      · exact ⟨Or.inl e, h0 (fun q => hw (sp_tl_told.mpr q)) w e⟩
    · refine eX5_isTold [5, 14] ?_
      refine sr_ite (c := z < nI n) (fun _ => ?_) (fun q => absurd (by rw [hz]; exact nI_lt hi (by omega)) q)
      exact inner i hi ih 0 (by omega) w z _ hz rfl hw
  refine eX5_isTold [5] ?_
  exact outer 0 (by omega) _ _ _ rfl (Or.inl ⟨rfl, fun i' j' a1 a2 => by omega⟩)
theorem c5_fewestBy {x : Int32} (ho : o ≤ 8) (hM : F 30 12 = nI o) (hS : ∀ i, i < n → F 50 i = nI (S i)) (hS2 : ∀ i, i < n → S i < 256) (hn : n ≤ 10) (hx : x = nI n) (full : sp_told S n (2 ^ o - 1)) (h : ∀ k, sp_ch (sp_told S n) (2 ^ o) k → P (some (.int (nI k))) (hp Ls nz F FJ kp)) : sr_Call mX5_fewestBy (d + 1) [.ref 30, .int x] (hp Ls nz F FJ kp) P := by
  have h256 := nb_p8 ho
  have hpos : 0 < 2 ^ o := Nat.two_pow_pos o
  have l1 : ∀ m, m ≤ 2 ^ o → ∀ b z : Int32, z = nI m + sr_k (-1) → (∃ k', b = nI k' ∧ k' < 2 ^ o ∧ sp_told S n k' ∧ ∀ j, m ≤ j → j < 2 ^ o → sp_told S n j → sp_pop k' < sp_pop j ∨ (sp_pop k' = sp_pop j ∧ k' ≤ j)) → sr_Go mX5_fewestBy (d + 1) 11 [some (.ref 30), some (.int x), some (.int b), some (.int z)] [] (0, 0) (hp Ls nz F FJ kp) P := by
    intro m
    induction m with
    | zero =>
      intro _ b z hz hq
      obtain ⟨k', e, h1, h2, h3⟩ := hq
      refine eX5_fewestBy [11] ?_
      refine sr_ite (c := z < 0) (fun _ => ?_) (fun q => absurd (by rw [hz]; decide) q)
      have := h k' ⟨h1, h2, fun j hj => h3 j (by omega) hj⟩
      rw [← e] at this
      exact this
    | succ m ih =>
      intro hm b z hz hq
      obtain ⟨k', e, h1, h2, h3⟩ := hq
      rw [nb_dec] at hz
      have p1 := nb_pop8 m (by omega)
      have p2 := nb_pop8 k' (by omega)
      refine eX5_fewestBy [11] ?_
      refine sr_ite (c := z < 0) (fun q => absurd q (by rw [hz]; exact nI_pos (by omega))) (fun _ => ?_)
      refine c5_bits (l := m) hz (by omega) ?_
      refine c5_bits (l := k') e (by omega) ?_
      refine sr_ite (c := nI (sp_pop k') < nI (sp_pop m)) (fun c1 => ?_) (fun c1 => ?_)
      · have c1 := (nI_ltI (by omega) (by omega)).mp c1
        refine ih (by omega) b _ (by rw [hz]) ⟨k', e, h1, h2, fun j a1 a2 a3 => ?_⟩
        by_cases e1 : j = m
        · rw [e1]; omega
        · exact h3 j (by omega) a2 a3
      · have c1 : ¬ sp_pop k' < sp_pop m := fun q => c1 (nI_lt q (by omega))
        refine c5_isTold hS hS2 hn hx hz (by omega) (fun w y hy => ?_) (fun w y hy => ?_)
        · refine sr_n1 hy ?_
          refine ih (by omega) z _ (by rw [hz]) ⟨m, hz, by omega, w, fun j a1 a2 a3 => ?_⟩
          by_cases e1 : j = m
          · rw [e1]; omega
          · have := h3 j (by omega) a2 a3; omega
        · refine sr_n0 hy ?_
          refine ih (by omega) b _ (by rw [hz]) ⟨k', e, h1, h2, fun j a1 a2 a3 => ?_⟩
          by_cases e1 : j = m
          · rw [e1] at a3; exact absurd a3 w
          · exact h3 j (by omega) a2 a3
  have es : (nI 1 <<< (F 30 12 &&& 31)) - nI 1 = nI (2 ^ o - 1) := by rw [hM, nI_shl1 o (by omega), nI_sub hpos]
  refine eX5_fewestBy [11] ?_
  exact l1 (2 ^ o) (Nat.le_refl _) _ _ (by rw [nb_pred]; show (nI 1 <<< (F 30 12 &&& 31)) - nI 1 = _; rw [es, nI_sub hpos]) ⟨2 ^ o - 1, es, by omega, full, fun j a1 a2 => by omega⟩
end FY
