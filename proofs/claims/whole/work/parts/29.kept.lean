/-! nights at any cell; what is kept -/
theorem sr_cnd {b : Bool} {A : Prop} (h : b = true) (a : A) : (bif b then A else False) := by rw [h]; exact a
theorem hp_Kn {Ls nz z j : Nat} (hz : z < nz) (hn : nz ≤ 3) (hj : j < 5) : hp_K Ls nz (5 * z + 51 + j) = hp_kn.getD j (99, 0) := by
  rcases (show nz = 1 ∨ nz = 2 ∨ nz = 3 by omega) with rfl | rfl | rfl <;> rcases (show z = 0 ∨ z = 1 ∨ z = 2 by omega) with rfl | rfl | rfl <;> first | omega | (rcases (show j = 0 ∨ j = 1 ∨ j = 2 ∨ j = 3 ∨ j = 4 by omega) with rfl | rfl | rfl | rfl | rfl <;> rfl)
theorem hp_Rn {kp : Nat → Option Nat} {z k : Nat} (hz : z < 3) : hp_R kp (5 * z + 51) k = some (5 * z + 51 + (k - 2)) := by
  rcases (show z = 0 ∨ z = 1 ∨ z = 2 by omega) with rfl | rfl | rfl <;> rfl
def sp_ng (nz N : Nat) : Prop := N = 20 ∨ ∃ z, z < nz ∧ N = 5 * z + 51
section NG
variable {Ls nz N : Nat} {kp : Nat → Option Nat}
theorem ng_K (hn : nz ≤ 3) (h : sp_ng nz N) {j : Nat} (hj : j < 5) : hp_K Ls nz (N + j) = hp_kn.getD j (99, 0) := by
  rcases h with rfl | ⟨z, hz, rfl⟩
  · rcases (show j = 0 ∨ j = 1 ∨ j = 2 ∨ j = 3 ∨ j = 4 by omega) with rfl | rfl | rfl | rfl | rfl <;> rfl
  · exact hp_Kn hz hn hj
theorem ng_lt (hn : nz ≤ 3) (h : sp_ng nz N) {j : Nat} (hj : j < 5) : Nat.blt (N + j) 1000000 = true := by
  have : N + j < 1000000 := by
    rcases h with rfl | ⟨z, hz, rfl⟩ <;> omega
  exact Nat.ble_eq.mpr this
theorem ng_R (hn : nz ≤ 3) (h : sp_ng nz N) {k : Nat} (hk : 3 ≤ k) (hk6 : k ≤ 6) : hp_R kp N k = some (N + (k - 2)) := by
  rcases h with rfl | ⟨z, hz, rfl⟩
  · rcases (show k = 3 ∨ k = 4 ∨ k = 5 ∨ k = 6 by omega) with rfl | rfl | rfl | rfl <;> rfl
  · exact hp_Rn (by omega)
/-- it is a Night -/
theorem ng_is (hn : nz ≤ 3) (h : sp_ng nz N) : (Nat.beq (hp_K Ls nz N).1 1 && Nat.blt N 1000000) = true := by
  have h1 := ng_K (Ls := Ls) hn h (j := 0) (by omega)
  have h2 := ng_lt hn h (j := 0) (by omega)
  rw [Nat.add_zero] at h1 h2
  rw [h1, h2]; rfl
end NG
section KD
variable {Ls nz d T g o : Nat} {kd lf th tn v : Nat → Nat} {xs : Nat → Int32} {FI : Nat → Nat → Int32} {FJ : Nat → Nat → Int64} {kp : Nat → Option Nat} {P : Option Value → sr_H → Prop} {h9 : sr_H}
theorem c4_keptDeeds {j : Nat} {x : Int32} (hn : nz ≤ 3) (hK : sp_KP FI kp nz T g j) (hx : x = nI j) (hj : j < 3) (h0 : FI 45 j = 0 → P (some (.int (sr_k (-1)))) (hp Ls nz FI FJ kp)) (h1 : ∀ D, FI 45 j = 1 → FI 46 j = nI D → D ≤ 60 → P (some (.int (nI D))) (hp Ls nz FI FJ kp)) : sr_Call mX4_keptDeeds d [.ref 0, .int x] (hp Ls nz FI FJ kp) P := by
  have some_ : ∀ z, z < nz → kp j = some (5 * z + 51) → P (some (.int (FI (5 * z + 51) 0))) (hp Ls nz FI FJ kp) → sr_Call mX4_keptDeeds d [.ref 0, .int x] (hp Ls nz FI FJ kp) P := by
    intro z hz hk h
    refine eX4_keptDeeds [] ?_
    refine ⟨j, ⟨hx, hj⟩, ?_⟩
    change sr_wq _ _ _ _ _ _ (va_rf (kp j) :: []) _ _ _
    rw [hk]
    refine ⟨j, ⟨hx, hj⟩, ?_⟩
    change sr_wq _ _ _ _ _ _ (va_rf (kp j) :: []) _ _ _
    rw [hk]
    exact sr_cnd (ng_is hn (Or.inr ⟨z, hz, rfl⟩)) h
  rcases hK with ⟨e, hk | ⟨z, hz, hk, hf⟩⟩ | ⟨e, hg, z, hz, hk, D, vs, ac, gs, tn, hLG, hTD, hXL, hXT, hMD, hrest⟩
  · refine eX4_keptDeeds [] ?_
    refine ⟨j, ⟨hx, hj⟩, ?_⟩
    change sr_wq _ _ _ _ _ _ (va_rf (kp j) :: []) _ _ _
    rw [hk]
    exact h0 e
  · refine some_ z hz hk ?_
    rw [hf]
    exact h0 e
  · refine some_ z hz hk ?_
    rw [hXL.1]
    exact h1 D e hMD hLG.1
end KD
