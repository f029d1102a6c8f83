/-! the fewest that tell apart: looks, marks -/
def sp_ch (W : Nat → Prop) (M k : Nat) : Prop := k < M ∧ W k ∧ ∀ j, j < M → W j → sp_pop k < sp_pop j ∨ (sp_pop k = sp_pop j ∧ k ≤ j)
theorem sp_ch_inj {W : Nat → Prop} {M k k' : Nat} (h : sp_ch W M k) (h' : sp_ch W M k') : k = k' := by
  have h1 := h.2.2 k' h'.1 h'.2.1
  have h2 := h'.2.2 k h.1 h.2.1
  omega
theorem sp_ch_iff {W W' : Nat → Prop} {M k : Nat} (hW : ∀ k, k < M → (W k ↔ W' k)) (h : sp_ch W M k) : sp_ch W' M k := ⟨h.1, (hW k h.1).mp h.2.1, fun j hj hw => h.2.2 j hj ((hW j hj).mpr hw)⟩
theorem nb_pop8 : ∀ l, l < 256 → sp_pop l ≤ 8 := by decide +kernel
theorem nb_half : ∀ i, i < 10 → nI i / nI 2 = nI (i / 2) := by decide +kernel
theorem nb_p8 {o : Nat} (h : o ≤ 8) : 2 ^ o ≤ 256 := nb_powle (T := 8) h
def sp_told (S : Nat → Nat) (n k : Nat) : Prop := ∀ i, i < n → ∀ j, j < i → S i = S j ∨ (S i &&& k) ≠ (S j &&& k)
def sp_tl (S : Nat → Nat) (k i j : Nat) : Prop := ∀ i' j', j' < i' → (i' < i ∨ (i' = i ∧ j' < j)) → S i' = S j' ∨ (S i' &&& k) ≠ (S j' &&& k)
theorem sp_tl_n {S : Nat → Nat} {k i j : Nat} (h : sp_tl S k i i) : sp_tl S k (i + 1) 0 := fun i' j' h1 h2 => h i' j' h1 (by omega)
theorem sp_tl_b {S : Nat → Nat} {k i : Nat} (h : sp_tl S k (i + 1) 0) : sp_tl S k i i := fun i' j' h1 h2 => h i' j' h1 (by omega)
theorem sp_tl_told {S : Nat → Nat} {k n : Nat} : sp_tl S k n 0 ↔ sp_told S n k := ⟨fun h i hi j hj => h i j hj (Or.inl hi), fun h i j h1 h2 => h i (by omega) j h1⟩
def sp_df (S : Nat → Nat) (R : Nat → Nat → Prop) (i j k : Nat) : Prop := ∀ i' j', j' < i' → (i' < i ∨ (i' = i ∧ j' < j)) → R i' j' → (S i' &&& k) ≠ (S j' &&& k)
def sp_tri : Nat → Nat
  | 0 => 0
  | i + 1 => sp_tri i + i
theorem sp_tri_le : ∀ i, i < 10 → sp_tri i ≤ 36 := by decide
def sp_dl (F F' : Nat → Nat → Int32) (S : Nat → Nat) (R : Nat → Nat → Prop) (i j : Nat) : Prop := (∀ r, r ≠ 0 → r ≠ 26 → F' r = F r) ∧ (∀ k, k ≠ 8 → F' 0 k = F 0 k) ∧ ∃ c, c ≤ sp_tri i + j ∧ F' 0 8 = nI c ∧ ∀ k, k < 256 → ((∀ e, e < c → F' 26 e &&& nI k ≠ 0) ↔ sp_df S R i j k)
theorem nb_xa (a b k : Nat) : (a ^^^ b) &&& k = 0 ↔ a &&& k = b &&& k := by
  rw [Nat.and_xor_distrib_right]
  constructor
  · intro h
    have := congrArg (fun z => z ^^^ (b &&& k)) h
    simpa [Nat.xor_assoc] using this
  · intro h
    rw [h, Nat.xor_self]
section FW
variable {Ls nz d T g o D n c i j k : Nat} {S L : Nat → Nat} {R : Nat → Nat → Prop} {W : Nat → Prop} {kd lf th tn : Nat → Nat} {xs : Nat → Int32} {FI F F' : Nat → Nat → Int32} {FJ : Nat → Nat → Int64} {kp : Nat → Option Nat} {P : Option Value → sr_H → Prop} {h9 : sr_H}
theorem sp_dl_0 : sp_dl F (sr_u F 0 8 (nI 0)) S R 1 0 := ⟨fun r h1 h2 => sr_u_row _ _ h1, fun k hk => sr_u_ne _ _ hk, 0, by omega, sr_u_same _ _ _ _, fun k hk => ⟨fun _ i' j' h1 h2 => by omega, fun _ e he => absurd he (by omega)⟩⟩
theorem sp_dl_skip (h : sp_dl F F' S R i j) (hR : ¬ R i j) : sp_dl F F' S R i (j + 1) := by
  obtain ⟨h1, h2, c, hc, h3, h4⟩ := h
  refine ⟨h1, h2, c, by omega, h3, fun k hk => (h4 k hk).trans ⟨fun h i' j' a1 a2 a3 => ?_, fun h i' j' a1 a2 a3 => h i' j' a1 (by omega) a3⟩⟩
  by_cases e : i' = i ∧ j' = j
  · rw [e.1, e.2] at a3; exact absurd a3 hR
  · exact h i' j' a1 (by omega) a3
theorem sp_dl_next (h : sp_dl F F' S R i i) : sp_dl F F' S R (i + 1) 0 := by
  obtain ⟨h1, h2, c, hc, h3, h4⟩ := h
  refine ⟨h1, h2, c, hc, h3, fun k hk => (h4 k hk).trans ⟨fun h i' j' a1 a2 a3 => h i' j' a1 (by omega) a3, fun h i' j' a1 a2 a3 => h i' j' a1 (by omega) a3⟩⟩
theorem c4_addDifference {x : Int32} (h : sp_dl F F' S R i j) (hi : i < 10) (hj : j < i) (hR : R i j) (hx : x = nI (S i ^^^ S j)) (hS : S i < 256) (hS2 : S j < 256) (hk : ∀ F'', sp_dl F F'' S R i (j + 1) → P none (hp Ls nz F'' FJ kp)) : sr_Call mX4_addDifference d [.ref 0, .int x] (hp Ls nz F' FJ kp) P := by
  obtain ⟨h1, h2, c, hc, h3, h4⟩ := h
  have := sp_tri_le i hi
  have hc45 : c < 45 := by omega
  refine eX4_addDifference [] ?_
  refine sr_ite (c := F' 0 8 < nI 45) (fun _ => ?_) (fun q => absurd (by rw [h3]; exact nI_lt hc45 (by omega)) q)
  refine ⟨c, ⟨h3, hc45⟩, ?_⟩
  refine hk (sr_u (sr_u F' 26 c x) 0 8 (F' 0 8 + nI 1)) ⟨fun r a1 a2 => ?_, fun k a1 => ?_, c + 1, by omega, ?_, fun k hk => ?_⟩
  · rw [sr_u_row _ _ a1, sr_u_row _ _ a2]; exact h1 r a1 a2
  · rw [sr_u_ne _ _ a1, sr_u_row _ _ (by omega)]; exact h2 k a1
  · rw [sr_u_same, h3, nI_add]
  · rw [sr_u_row _ _ (by omega : (26 : Nat) ≠ 0)]
    have hl : (S i ^^^ S j) &&& k < 256 := Nat.lt_of_le_of_lt Nat.and_le_right hk
    constructor
    · intro q i' j' a1 a2 a3
      by_cases e : i' = i ∧ j' = j
      · rw [e.1, e.2]
        intro eq
        have q := q c (by omega)
        rw [sr_u_same, hx, nI_and, (nb_xa _ _ _).mpr eq] at q
        exact q nI_0
      · refine (h4 k hk).mp (fun e he => ?_) i' j' a1 (by omega) a3
        have := q e (by omega)
        rw [sr_u_ne _ _ (by omega)] at this
        exact this
    · intro q e he
      by_cases e1 : e = c
      · rw [e1, sr_u_same, hx, nI_and]
        intro z
        have z := nI_inj (by omega) (by omega) (z.trans nI_0.symm)
        exact q i j hj (Or.inr ⟨rfl, by omega⟩) hR ((nb_xa _ _ _).mp z)
      · rw [sr_u_ne _ _ e1]
        exact (h4 k hk).mpr (fun i' j' a1 a2 a3 => q i' j' a1 (by omega) a3) e (by omega)
theorem c4_tellsApart {x : Int32} (hc : F 0 8 = nI c) (hc45 : c ≤ 45) (h1 : (∀ e, e < c → F 26 e &&& x ≠ 0) → ∀ z, z = 1 → P (some (.int z)) (hp Ls nz F FJ kp)) (h0 : (¬ ∀ e, e < c → F 26 e &&& x ≠ 0) → ∀ z, z = 0 → P (some (.int z)) (hp Ls nz F FJ kp)) : sr_Call mX4_tellsApart d [.ref 0, .int x] (hp Ls nz F FJ kp) P := by
  have l1 : ∀ e, e ≤ c → ∀ z : Int32, z = nI e → (∀ e', e' < e → F 26 e' &&& x ≠ 0) → sr_Go mX4_tellsApart d 2 [some (.ref 0), some (.int x), some (.int z)] [] (0, 0) (hp Ls nz F FJ kp) P := by
    refine sp_for (fun z hz hq => ?_) (fun e he ih z hz hq => ?_)
    · refine eX4_tellsApart [2] ?_
      refine sr_ite (c := z < F 0 8) (fun q => absurd q (by rw [hz, hc]; exact nI_nlt (Nat.le_refl _) (by omega))) (fun _ => ?_)
      exact ⟨Or.inr rfl, h1 hq 1 rfl⟩
    · refine eX4_tellsApart [2] ?_
      refine sr_ite (c := z < F 0 8) (fun _ => ?_) (fun q => absurd (by rw [hz, hc]; exact nI_lt he (by omega)) q)
      refine sr_ite (c := z < nI 45) (fun _ => ?_) (fun q => absurd (by rw [hz]; exact nI_lt (by omega) (by omega)) q)
      refine ⟨e, ⟨hz, show e < 45 by omega⟩, ?_⟩
      refine sr_ite (c := F 26 e &&& x = 0) (fun q => ?_) (fun q => ?_)
      · exact ⟨Or.inl rfl, h0 (fun w => w e he q) 0 rfl⟩
      · refine ih _ (by rw [hz]; exact nI_1 e) (fun e' he' => ?_)
        by_cases c1 : e' = e
        · rw [c1]; exact q
        · exact hq e' (by omega)
  refine eX4_tellsApart [2] ?_
  exact l1 0 (by omega) _ rfl (fun e' he' => absurd he' (by omega))
end FW
