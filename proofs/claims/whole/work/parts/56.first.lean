/-! the first state; the law from its entry -/
def hs_I0s (xs : Nat → Int32) : Nat → Nat → Int32 := fun r k => bif Nat.beq r 1000000 then nI (sp_let k) else bif Nat.beq r 1000001 then sp_abv k else bif Nat.beq r 1000002 then xs k else 0
def hs_J0 : Nat → Nat → Int64 := fun _ _ => 0
def hs_R0 : Nat → Nat → Option Nat := fun _ _ => none
def hs_Ie (xs : Nat → Int32) : Nat → Nat → Int32 := sr_fill (sr_fill (sr_fill (sr_u (sr_fill (sr_u (hs_I0s xs) 1 0 (nI 40)) 2 0 6 (-1)) 4 0 (nI 60)) 5 0 4 (-1)) 32 0 6 (-1)) 35 0 4 (-1)
def hs_Je : Nat → Nat → Int64 := sr_u (sr_u hs_J0 0 13 1) 30 4 1
section FS
variable {Ls d : Nat} {xs : Nat → Int32}
theorem hs_I0s_z {r : Nat} (h : r < 1000000) (k : Nat) : hs_I0s xs r k = 0 := by
  unfold hs_I0s
  have e : ∀ n, 1000000 ≤ n → Nat.beq r n = false := fun n hn => by
    cases q : Nat.beq r n with
    | false => rfl
    | true => have := Nat.eq_of_beq_eq_true q; omega
  rw [e 1000000 (by omega), e 1000001 (by omega), e 1000002 (by omega)]
  rfl
theorem hs_bl (n : Nat) : sr_bl n (hs_I0s xs) hs_J0 hs_R0 := fun r _ h k => ⟨hs_I0s_z h k, rfl, rfl⟩
theorem sp_Inv_0 : sp_Inv xs 0 (hs_Ie xs) hs_Je (fun _ => none) := by
  refine ⟨fun k => rfl, ⟨fun k _ => rfl, fun k _ => rfl⟩, ⟨rfl, rfl, fun k hk => rfl, rfl, rfl⟩, ⟨rfl, fun r hr => ?_⟩, ⟨rfl, fun r hr => ?_⟩, 0, 0, 0, fun _ => 0, fun _ => 0, fun _ => 0, fun _ => 0, 0, fun _ _ => 0, fun _ => 0, fun _ => 0, ⟨by omega, by omega, by omega, fun h => absurd h (by omega), fun i hi => absurd hi (by omega), fun i hi => absurd hi (by omega)⟩, ⟨rfl, rfl, rfl, fun i hi => absurd hi (by omega), fun i hi => absurd hi (by omega)⟩, ⟨rfl, rfl, rfl, fun i hi => absurd hi (by omega), fun i hi => absurd hi (by omega)⟩, fun i hi => absurd hi (by omega), fun i hi => absurd hi (by omega), fun i hi => absurd hi (by omega), ⟨by omega, fun e he => ⟨(by decide : 0 < 32), (by decide : 0 < 32), fun i hi => Nat.zero_le _⟩, fun e he => absurd he (by omega)⟩, ⟨rfl, rfl, rfl, fun i hi => ⟨rfl, rfl⟩, fun e he => absurd he (by omega)⟩, ⟨rfl, fun k hk => rfl, fun e he => absurd he (by omega)⟩, by decide, fun i j _ _ _ _ => rfl, fun j hj => Or.inl ⟨rfl, Or.inl rfl⟩⟩
  · rcases (show r = 0 ∨ r = 1 ∨ r = 2 ∨ r = 3 ∨ r = 4 ∨ r = 5 by omega) with rfl | rfl | rfl | rfl | rfl | rfl <;> exact ⟨rfl, Or.inl rfl⟩
  · rcases (show r = 0 ∨ r = 1 ∨ r = 2 ∨ r = 3 by omega) with rfl | rfl | rfl | rfl <;> exact ⟨rfl, Or.inl rfl⟩
theorem hs_refs : ∀ r, r < 51 → (hp_k0.getD r (99, 0)).1 < 6 → ∀ k, k < 34 → (sr_ts (hp_k0.getD r (99, 0)).1).getD k 0 = 2 → hs_FR hs_L hs_R0 r k = hp_R (fun _ => none) r k := by decide +kernel
theorem hs_nine : ∀ r, r < 51 → (hp_k0.getD r (99, 0)).1 = 9 → r = 25 := by decide +kernel
theorem hs_tsl : ∀ c, c < 6 → (sr_ts c).length ≤ 34 := by decide +kernel
theorem hs_Kp (r : Nat) : hs_K Ls 51 r = hp_K Ls 0 r := by
  unfold hs_K
  rw [hs_blt]
  by_cases c : r < 51
  · rw [show decide (r < 51) = true from decide_eq_true c]; rfl
  · rw [show decide (r < 51) = false from decide_eq_false c]
    cases q : Nat.ble 1000000 r with
    | true => rfl
    | false =>
      have q2 : ¬ 1000000 ≤ r := fun w => by rw [Nat.ble_eq.mpr w] at q; cases q
      show (99, 0) = hp_K Ls 0 r
      unfold hp_K
      rw [hs_blt, show decide (r < 51) = false from decide_eq_false c, q]
      rfl
theorem hp_Klo {r : Nat} (h : r < 51) : hp_K Ls 0 r = hp_k0.getD r (99, 0) := by
  unfold hp_K
  rw [hs_blt, show decide (r < 51) = true from decide_eq_true h]
  rfl
theorem hp_Khi {r : Nat} (h : ¬ r < 51) : (hp_K Ls 0 r).1 = 7 ∨ (hp_K Ls 0 r).1 = 99 := by
  unfold hp_K
  rw [hs_blt, show decide (r < 51) = false from decide_eq_false h]
  cases Nat.ble 1000000 r <;> cases Nat.beq r 1000000 <;> cases Nat.beq r 1000001 <;> cases Nat.beq r 1000002 <;> simp
theorem hs_like (FI : Nat → Nat → Int32) (FJ : Nat → Nat → Int64) : sr_like (hs Ls 51 FI FJ (hs_FR hs_L hs_R0)) (hp Ls 0 FI FJ (fun _ => none)) := by
  refine ⟨rfl, fun r => hs_Kp r, rfl, rfl, fun r hr k => ?_, fun r hr k hk ht => ?_⟩
  · have hr : (hs_K Ls 51 r).1 = 9 := hr
    rw [hs_Kp] at hr
    by_cases c : r < 51
    · rw [hp_Klo c] at hr
      have := hs_nine r c hr
      subst this
      show hs_FR hs_L hs_R0 25 k = none
      rw [hs_FR_row (by decide)]
      rfl
    · have := hp_Khi (Ls := Ls) c
      omega
  · have hr : (hs_K Ls 51 r).1 < 6 := hr
    have hk : k < (sr_ts (hs_K Ls 51 r).1).length := hk
    have ht : (sr_ts (hs_K Ls 51 r).1).getD k 0 = 2 := ht
    rw [hs_Kp] at hr hk ht
    by_cases c : r < 51
    · rw [hp_Klo c] at hr hk ht
      have := hs_tsl _ hr
      exact hs_refs r c hr k (by omega) ht
    · have := hp_Khi (Ls := Ls) c
      omega
theorem lw_all (hL : Ls ≤ 384) : sr_Go mL_law (d + 10) 0 (sr_en [.ref 1000002] 4) [] (371, 13545) (hs Ls 0 (hs_I0s xs) hs_J0 hs_R0) (fun v _ => v = some (.int 1)) := by
  refine eL_law [4] ?_
  refine ⟨⟨by decide, by decide, (by decide : 0 < 1000000)⟩, ?_⟩
  refine sr_heq (hs_new (n := 0) (FI := hs_I0s xs) (FJ := hs_J0) (FR := hs_R0) (kd := (4, 0)) (hs_bl 0) (by decide) rfl) ?_
  refine eL_law [8] ?_
  refine c4_init (d := d + 7) (FI := hs_I0s xs) (FJ := hs_J0) (FR := hs_R0) (hs_bl 1) (fun k => hs_I0s_z (by decide) k) rfl ?_
  refine eL_law [12] ?_
  refine ⟨⟨by decide, by decide, (by decide : 30 < 1000000)⟩, ?_⟩
  have i4 : ∀ r, 30 ≤ r → r < 1000000 → hs_I4 (hs_I0s xs) r = hs_I0s xs r := fun r h1 h2 => by
    unfold hs_I4
    rw [sr_fill_row _ _ (by omega), sr_u_row _ _ (by omega), sr_fill_row _ _ (by omega), sr_u_row _ _ (by omega)]
  have b30 : sr_bl 30 (hs_I4 (hs_I0s xs)) (sr_u hs_J0 0 13 1) (hs_FR [(1, 1, 2), (1, 2, 3), (0, 0, 1), (4, 1, 5), (4, 2, 6), (0, 1, 4), (7, 0, 4), (0, 2, 7), (8, 3, 9), (8, 4, 10), (8, 5, 11), (8, 6, 12), (8, 7, 13), (0, 3, 8), (14, 3, 15), (14, 4, 16), (14, 5, 17), (14, 6, 18), (14, 7, 19), (0, 4, 14), (20, 3, 21), (20, 4, 22), (20, 5, 23), (20, 6, 24), (0, 5, 20), (0, 6, 25), (0, 7, 26), (0, 9, 27), (0, 10, 28), (0, 15, 29)] hs_R0) := sr_bl.to (n := 30) (l := [(1, 1, 2), (1, 2, 3), (0, 0, 1), (4, 1, 5), (4, 2, 6), (0, 1, 4), (7, 0, 4), (0, 2, 7), (8, 3, 9), (8, 4, 10), (8, 5, 11), (8, 6, 12), (8, 7, 13), (0, 3, 8), (14, 3, 15), (14, 4, 16), (14, 5, 17), (14, 6, 18), (14, 7, 19), (0, 4, 14), (20, 3, 21), (20, 4, 22), (20, 5, 23), (20, 6, 24), (0, 5, 20), (0, 6, 25), (0, 7, 26), (0, 9, 27), (0, 10, 28), (0, 15, 29)]) (hs_bl (xs := xs) 1) (by decide) i4 (fun r h1 => sr_u_row _ _ (by omega)) rfl
  have b31 : sr_bl 31 (hs_I4 (hs_I0s xs)) (sr_u hs_J0 0 13 1) (hs_FR [(1, 1, 2), (1, 2, 3), (0, 0, 1), (4, 1, 5), (4, 2, 6), (0, 1, 4), (7, 0, 4), (0, 2, 7), (8, 3, 9), (8, 4, 10), (8, 5, 11), (8, 6, 12), (8, 7, 13), (0, 3, 8), (14, 3, 15), (14, 4, 16), (14, 5, 17), (14, 6, 18), (14, 7, 19), (0, 4, 14), (20, 3, 21), (20, 4, 22), (20, 5, 23), (20, 6, 24), (0, 5, 20), (0, 6, 25), (0, 7, 26), (0, 9, 27), (0, 10, 28), (0, 15, 29)] hs_R0) := fun r h1 h2 k => b30 r (by omega) h2 k
  refine sr_heq (hs_new (n := 30) (FI := hs_I4 (hs_I0s xs)) (FJ := sr_u hs_J0 0 13 1) (FR := hs_FR [(1, 1, 2), (1, 2, 3), (0, 0, 1), (4, 1, 5), (4, 2, 6), (0, 1, 4), (7, 0, 4), (0, 2, 7), (8, 3, 9), (8, 4, 10), (8, 5, 11), (8, 6, 12), (8, 7, 13), (0, 3, 8), (14, 3, 15), (14, 4, 16), (14, 5, 17), (14, 6, 18), (14, 7, 19), (0, 4, 14), (20, 3, 21), (20, 4, 22), (20, 5, 23), (20, 6, 24), (0, 5, 20), (0, 6, 25), (0, 7, 26), (0, 9, 27), (0, 10, 28), (0, 15, 29)] hs_R0) (kd := (5, 0)) b30 (by decide) rfl) ?_
  refine eL_law [16] ?_
  refine c5_init (d := d + 8) (FI := hs_I4 (hs_I0s xs)) (FJ := sr_u hs_J0 0 13 1) (FR := hs_FR [(1, 1, 2), (1, 2, 3), (0, 0, 1), (4, 1, 5), (4, 2, 6), (0, 1, 4), (7, 0, 4), (0, 2, 7), (8, 3, 9), (8, 4, 10), (8, 5, 11), (8, 6, 12), (8, 7, 13), (0, 3, 8), (14, 3, 15), (14, 4, 16), (14, 5, 17), (14, 6, 18), (14, 7, 19), (0, 4, 14), (20, 3, 21), (20, 4, 22), (20, 5, 23), (20, 6, 24), (0, 5, 20), (0, 6, 25), (0, 7, 26), (0, 9, 27), (0, 10, 28), (0, 15, 29)] hs_R0) b31 ?_
  refine eL_law [18] ?_
  refine sr_like_go (hs_like (hs_Ie xs) hs_Je) ?_
  exact lw_loop (d := d) hL 64 0 _ 0 (hs_Ie xs) hs_Je (fun _ => none) _ rfl (by omega) (by omega) (by decide) (by decide) sp_Inv_0
end FS
