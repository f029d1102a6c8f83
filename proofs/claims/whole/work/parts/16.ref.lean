/-! contracts: refusals of papers and places -/
theorem sr_ifT {c A B : Prop} [Decidable c] (hc : c) (a : A) : (if c then A else B) := by rw [if_pos hc]; exact a
theorem sr_ifF {c A B : Prop} [Decidable c] (hc : ¬ c) (a : B) : (if c then A else B) := by rw [if_neg hc]; exact a
theorem sr_n1 {x : Int32} {A B : Prop} (hx : x = 1) (a : B) : (if x = 0 then A else B) := sr_ifF (by rw [hx]; decide) a
theorem sr_n0 {x : Int32} {A B : Prop} (hx : x = 0) (a : A) : (if x = 0 then A else B) := sr_ifT hx a
section CR
variable {Ls nz d : Nat} {FI : Nat → Nat → Int32} {FJ : Nat → Nat → Int64} {kp : Nat → Option Nat} {P : Option Value → sr_H → Prop}

theorem c3r_isNumber' {p : Int32} (h1 : ∀ k, k < 6 → p = nI k → ∀ z, z = 1 → P (some (.int z)) (hp Ls nz FI FJ kp)) (h0 : (∀ k, k < 6 → p ≠ nI k) → ∀ z, z = 0 → P (some (.int z)) (hp Ls nz FI FJ kp)) : sr_Call mX3_isNumber d [.ref 1, .int p] (hp Ls nz FI FJ kp) P := c3r_isNumber (fun k hk e => h1 k hk e 1 rfl) (fun c => h0 c 0 rfl)
theorem c4r_refP {p : Int32} (h0 : (∀ k, k < 6 → p ≠ nI k) → P (some (.int (sr_k (-1)))) (hp Ls nz FI FJ kp)) (h1 : ∀ a, a < 6 → p = nI a → FI 2 a < 0 → P (some (.int (sr_k (-3)))) (hp Ls nz (sr_u (sr_u FI 0 14 (nI 1)) 29 1 (FI 29 1 + 1)) FJ kp)) (h2 : ∀ a, a < 6 → p = nI a → ¬ FI 2 a < 0 → P (some (.int 0)) (hp Ls nz FI FJ kp)) : sr_Call mX4_refusalOfPaper (d + 2) [.ref 0, .ref 1, .int p] (hp Ls nz FI FJ kp) P := by
  refine eX4_refusalOfPaper [] ?_
  refine c3r_isNumber (fun a ha e => ?_) (fun c => ?_)
  · refine c3r_isMissing ha e (fun c => ?_) (fun c => ?_)
    · refine c4_found (a := 1) rfl (by omega) ?_
      exact h1 a ha e c
    · exact h2 a ha e c
  · exact h0 c
theorem c4r_refL {p i : Int32} (h0 : (∀ k, k < 6 → p ≠ nI k) → P (some (.int (sr_k (-1)))) (hp Ls nz FI FJ kp)) (h1 : ∀ a, a < 6 → p = nI a → FI 2 a < 0 → P (some (.int (sr_k (-3)))) (hp Ls nz (sr_u (sr_u FI 0 14 (nI 1)) 29 1 (FI 29 1 + 1)) FJ kp)) (h2 : ∀ a, a < 6 → p = nI a → ¬ FI 2 a < 0 → (i < 0 ∨ ¬ i < FI 2 a) → P (some (.int (sr_k (-3)))) (hp Ls nz (sr_u (sr_u FI 0 14 (nI 2)) 29 2 (FI 29 2 + 1)) FJ kp)) (h3 : ∀ a, a < 6 → p = nI a → ¬ FI 2 a < 0 → ¬ i < 0 → i < FI 2 a → P (some (.int 0)) (hp Ls nz FI FJ kp)) : sr_Call mX4_refusalOfPlace (d + 3) [.ref 0, .ref 1, .int p, .int i] (hp Ls nz FI FJ kp) P := by
  refine eX4_refusalOfPlace [] ?_
  refine c4r_refP (fun c => ?_) (fun a ha e c => ?_) (fun a ha e c => ?_)
  · exact h0 c
  · exact h1 a ha e c
  · refine c3r_isPlace ha e (fun c1 c2 => ?_) (fun c1 => ?_)
    · exact h3 a ha e c c1 c2
    · refine c4_found (a := 2) rfl (by omega) ?_
      exact h2 a ha e c c1
theorem c4r_make {p n v : Int32} (hw : FI 1 0 = nI 40) (h0 : ((∀ k, k < 6 → p ≠ nI k) ∨ nI 40 < n) → P (some (.int (sr_k (-1)))) (hp Ls nz FI FJ kp)) (h1 : ∀ a, a < 6 → p = nI a → n < 0 → P (some (.int (sr_k (-3)))) (hp Ls nz (sr_u (sr_u FI 0 14 (nI 5)) 29 5 (FI 29 5 + 1)) FJ kp)) (h2 : ∀ a k, a < 6 → k ≤ 40 → p = nI a → n = nI k → P (some (.int (nI k))) (hp Ls nz (sr_fill (sr_u FI 2 a (nI k)) 3 (a * 40) k v) FJ kp)) : sr_Call mX4_makePaper (d + 2) [.ref 0, .ref 1, .int p, .int n, .int v] (hp Ls nz FI FJ kp) P := by
  refine eX4_makePaper [] ?_
  refine c3r_isNumber' (fun a ha e z hz => ?_) (fun c z hz => ?_)
  · refine sr_n1 hz ?_
    refine sr_ite (c := FI 1 0 < n) (fun c => ?_) (fun c => ?_)
    · rw [hw] at c
      exact h0 (Or.inr c)
    · rw [hw] at c
      refine sr_ite (c := n < 0) (fun c2 => ?_) (fun c2 => ?_)
      · refine c4_found (a := 5) rfl (by omega) ?_
        exact h1 a ha e c2
      · obtain ⟨k, hk, e2⟩ := nI_leN (by omega) c2 c
        refine c3r_make hw ha e e2 hk ?_
        subst e2
        exact h2 a k ha hk e rfl
  · subst hz; exact h0 (Or.inl c)

theorem c3t_isNumber' {p : Int32} (h1 : ∀ k, k < 4 → p = nI k → ∀ z, z = 1 → P (some (.int z)) (hp Ls nz FI FJ kp)) (h0 : (∀ k, k < 4 → p ≠ nI k) → ∀ z, z = 0 → P (some (.int z)) (hp Ls nz FI FJ kp)) : sr_Call mX3_isNumber d [.ref 4, .int p] (hp Ls nz FI FJ kp) P := c3t_isNumber (fun k hk e => h1 k hk e 1 rfl) (fun c => h0 c 0 rfl)
theorem c4t_refP {p : Int32} (h0 : (∀ k, k < 4 → p ≠ nI k) → P (some (.int (sr_k (-1)))) (hp Ls nz FI FJ kp)) (h1 : ∀ a, a < 4 → p = nI a → FI 5 a < 0 → P (some (.int (sr_k (-3)))) (hp Ls nz (sr_u (sr_u FI 0 14 (nI 1)) 29 1 (FI 29 1 + 1)) FJ kp)) (h2 : ∀ a, a < 4 → p = nI a → ¬ FI 5 a < 0 → P (some (.int 0)) (hp Ls nz FI FJ kp)) : sr_Call mX4_refusalOfPaper (d + 2) [.ref 0, .ref 4, .int p] (hp Ls nz FI FJ kp) P := by
  refine eX4_refusalOfPaper [] ?_
  refine c3t_isNumber (fun a ha e => ?_) (fun c => ?_)
  · refine c3t_isMissing ha e (fun c => ?_) (fun c => ?_)
    · refine c4_found (a := 1) rfl (by omega) ?_
      exact h1 a ha e c
    · exact h2 a ha e c
  · exact h0 c
theorem c4t_refL {p i : Int32} (h0 : (∀ k, k < 4 → p ≠ nI k) → P (some (.int (sr_k (-1)))) (hp Ls nz FI FJ kp)) (h1 : ∀ a, a < 4 → p = nI a → FI 5 a < 0 → P (some (.int (sr_k (-3)))) (hp Ls nz (sr_u (sr_u FI 0 14 (nI 1)) 29 1 (FI 29 1 + 1)) FJ kp)) (h2 : ∀ a, a < 4 → p = nI a → ¬ FI 5 a < 0 → (i < 0 ∨ ¬ i < FI 5 a) → P (some (.int (sr_k (-3)))) (hp Ls nz (sr_u (sr_u FI 0 14 (nI 2)) 29 2 (FI 29 2 + 1)) FJ kp)) (h3 : ∀ a, a < 4 → p = nI a → ¬ FI 5 a < 0 → ¬ i < 0 → i < FI 5 a → P (some (.int 0)) (hp Ls nz FI FJ kp)) : sr_Call mX4_refusalOfPlace (d + 3) [.ref 0, .ref 4, .int p, .int i] (hp Ls nz FI FJ kp) P := by
  refine eX4_refusalOfPlace [] ?_
  refine c4t_refP (fun c => ?_) (fun a ha e c => ?_) (fun a ha e c => ?_)
  · exact h0 c
  · exact h1 a ha e c
  · refine c3t_isPlace ha e (fun c1 c2 => ?_) (fun c1 => ?_)
    · exact h3 a ha e c c1 c2
    · refine c4_found (a := 2) rfl (by omega) ?_
      exact h2 a ha e c c1
theorem c4t_make {p n v : Int32} (hw : FI 4 0 = nI 60) (h0 : ((∀ k, k < 4 → p ≠ nI k) ∨ nI 60 < n) → P (some (.int (sr_k (-1)))) (hp Ls nz FI FJ kp)) (h1 : ∀ a, a < 4 → p = nI a → n < 0 → P (some (.int (sr_k (-3)))) (hp Ls nz (sr_u (sr_u FI 0 14 (nI 5)) 29 5 (FI 29 5 + 1)) FJ kp)) (h2 : ∀ a k, a < 4 → k ≤ 60 → p = nI a → n = nI k → P (some (.int (nI k))) (hp Ls nz (sr_fill (sr_u FI 5 a (nI k)) 6 (a * 60) k v) FJ kp)) : sr_Call mX4_makePaper (d + 2) [.ref 0, .ref 4, .int p, .int n, .int v] (hp Ls nz FI FJ kp) P := by
  refine eX4_makePaper [] ?_
  refine c3t_isNumber' (fun a ha e z hz => ?_) (fun c z hz => ?_)
  · refine sr_n1 hz ?_
    refine sr_ite (c := FI 4 0 < n) (fun c => ?_) (fun c => ?_)
    · rw [hw] at c
      exact h0 (Or.inr c)
    · rw [hw] at c
      refine sr_ite (c := n < 0) (fun c2 => ?_) (fun c2 => ?_)
      · refine c4_found (a := 5) rfl (by omega) ?_
        exact h1 a ha e c2
      · obtain ⟨k, hk, e2⟩ := nI_leN (by omega) c2 c
        refine c3t_make hw ha e e2 hk ?_
        subst e2
        exact h2 a k ha hk e rfl
  · subst hz; exact h0 (Or.inl c)
end CR
