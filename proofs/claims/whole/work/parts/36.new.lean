/-! a new night -/
def sp_K5 (K : Nat → Nat × Nat) (n : Nat) : Nat → Nat × Nat := fun r => if r = n + 4 then (7, 60) else if r = n + 3 then (7, 60) else if r = n + 2 then (7, 10) else if r = n + 1 then (7, 5) else if r = n then (1, 0) else K r
def sp_F5 (F : Nat → Nat → Int32) (n : Nat) : Nat → Nat → Int32 := fun r k => if r = n + 4 then 0 else if r = n + 3 then 0 else if r = n + 2 then 0 else if r = n + 1 then 0 else sr_u (sr_u (sr_u (fun r k => if r = n then 0 else F r k) n 0 0) n 1 0) n 2 0 r k
def sp_J5 (F : Nat → Nat → Int64) (n : Nat) : Nat → Nat → Int64 := fun r k => if r = n + 4 then 0 else if r = n + 3 then 0 else if r = n + 2 then 0 else if r = n + 1 then 0 else if r = n then 0 else F r k
def sp_R5 (R : Nat → Nat → Option Nat) (n : Nat) : Nat → Nat → Option Nat := sr_u (fun r k => if r = n + 4 then none else sr_u (fun r k => if r = n + 3 then none else sr_u (fun r k => if r = n + 2 then none else sr_u (fun r k => if r = n + 1 then none else (if r = n then none else R r k)) n 3 (some (n + 1)) r k) n 4 (some (n + 2)) r k) n 5 (some (n + 3)) r k) n 6 (some (n + 4))
theorem sp_F5_ne {F : Nat → Nat → Int32} {n r : Nat} (h : r < n ∨ n + 5 ≤ r) : sp_F5 F n r = F r := by
  funext k
  show (if r = n + 4 then 0 else if r = n + 3 then 0 else if r = n + 2 then 0 else if r = n + 1 then 0 else sr_u (sr_u (sr_u (fun r k => if r = n then 0 else F r k) n 0 0) n 1 0) n 2 0 r k) = _
  rw [if_neg (by omega), if_neg (by omega), if_neg (by omega), if_neg (by omega), sr_u_row _ _ (by omega), sr_u_row _ _ (by omega), sr_u_row _ _ (by omega)]
  exact if_neg (by omega)
theorem sp_J5_ne {F : Nat → Nat → Int64} {n r : Nat} (h : r < n ∨ n + 5 ≤ r) : sp_J5 F n r = F r := by
  funext k
  show (if r = n + 4 then 0 else if r = n + 3 then 0 else if r = n + 2 then 0 else if r = n + 1 then 0 else if r = n then 0 else F r k) = _
  rw [if_neg (by omega), if_neg (by omega), if_neg (by omega), if_neg (by omega), if_neg (by omega)]
theorem sp_R5_ne {R : Nat → Nat → Option Nat} {n r : Nat} (h : r < n ∨ n + 5 ≤ r) : sp_R5 R n r = R r := by
  funext k
  unfold sp_R5
  rw [sr_u_row _ _ (by omega), if_neg (by omega), sr_u_row _ _ (by omega), if_neg (by omega), sr_u_row _ _ (by omega), if_neg (by omega), sr_u_row _ _ (by omega), if_neg (by omega), if_neg (by omega)]
theorem sp_R5_at {R : Nat → Nat → Option Nat} {n k : Nat} (h3 : 3 ≤ k) (h6 : k ≤ 6) : sp_R5 R n n k = some (n + (k - 2)) := by
  unfold sp_R5
  rcases (show k = 3 ∨ k = 4 ∨ k = 5 ∨ k = 6 by omega) with rfl | rfl | rfl | rfl
  · rw [sr_u_ne _ _ (by omega), if_neg (by omega), sr_u_ne _ _ (by omega), if_neg (by omega), sr_u_ne _ _ (by omega), if_neg (by omega), sr_u_same]
  · rw [sr_u_ne _ _ (by omega), if_neg (by omega), sr_u_ne _ _ (by omega), if_neg (by omega), sr_u_same]
  · rw [sr_u_ne _ _ (by omega), if_neg (by omega), sr_u_same]
  · rw [sr_u_same]
theorem hp_Ks {Ls nz r : Nat} (hr : r < 51 + 5 * nz ∨ 51 + 5 * nz + 5 ≤ r) : hp_K Ls nz r = hp_K Ls (nz + 1) r := by
  unfold hp_K
  by_cases h1 : r < 51
  · have : Nat.blt r 51 = true := Nat.ble_eq.mpr h1
    rw [this]; rfl
  · have e1 : Nat.blt r 51 = false := by
      cases q : Nat.blt r 51 with
      | false => rfl
      | true => exact absurd (Nat.ble_eq.mp q) h1
    rw [e1]
    cases q : Nat.ble 1000000 r with
    | true => rfl
    | false =>
      show (bif Nat.blt r (51 + 5 * nz) then hp_kn.getD ((r - 51) % 5) (99, 0) else (99, 0)) = (bif Nat.blt r (51 + 5 * (nz + 1)) then hp_kn.getD ((r - 51) % 5) (99, 0) else (99, 0))
      rcases hr with hr | hr
      · have a1 : Nat.blt r (51 + 5 * nz) = true := Nat.ble_eq.mpr hr
        have a2 : Nat.blt r (51 + 5 * (nz + 1)) = true := Nat.ble_eq.mpr (by omega)
        rw [a1, a2]
      · have a1 : Nat.blt r (51 + 5 * nz) = false := by
          cases q : Nat.blt r (51 + 5 * nz) with
          | false => rfl
          | true => have := Nat.ble_eq.mp q; omega
        have a2 : Nat.blt r (51 + 5 * (nz + 1)) = false := by
          cases q : Nat.blt r (51 + 5 * (nz + 1)) with
          | false => rfl
          | true => have := Nat.ble_eq.mp q; omega
        rw [a1, a2]
theorem hp_K5 {Ls nz : Nat} (hn : nz ≤ 2) (r : Nat) : sp_K5 (hp_K Ls nz) (51 + 5 * nz) r = hp_K Ls (nz + 1) r := by
  have key := fun j hj => hp_Kn (Ls := Ls) (nz := nz + 1) (z := nz) (j := j) (by omega) (by omega) hj
  unfold sp_K5
  by_cases h4 : r = 51 + 5 * nz + 4
  · rw [if_pos h4, h4, show 51 + 5 * nz + 4 = 5 * nz + 51 + 4 by omega, key 4 (by omega)]; rfl
  rw [if_neg h4]
  by_cases h3 : r = 51 + 5 * nz + 3
  · rw [if_pos h3, h3, show 51 + 5 * nz + 3 = 5 * nz + 51 + 3 by omega, key 3 (by omega)]; rfl
  rw [if_neg h3]
  by_cases h2 : r = 51 + 5 * nz + 2
  · rw [if_pos h2, h2, show 51 + 5 * nz + 2 = 5 * nz + 51 + 2 by omega, key 2 (by omega)]; rfl
  rw [if_neg h2]
  by_cases h1 : r = 51 + 5 * nz + 1
  · rw [if_pos h1, h1, show 51 + 5 * nz + 1 = 5 * nz + 51 + 1 by omega, key 1 (by omega)]; rfl
  rw [if_neg h1]
  by_cases h0 : r = 51 + 5 * nz
  · rw [if_pos h0, h0, show 51 + 5 * nz = 5 * nz + 51 + 0 by omega, key 0 (by omega)]; rfl
  rw [if_neg h0]
  exact hp_Ks (by omega)
theorem hp_kB : ∀ r, r < 51 → (hp_k0.getD r (99, 0)).1 = 9 → r = 25 := by decide
theorem hp_knB : ∀ j, j < 5 → (hp_kn.getD j (99, 0)).1 ≠ 9 ∧ ((hp_kn.getD j (99, 0)).1 < 6 → j = 0) := by decide
theorem hp_Kcase {Ls nz r : Nat} (h : (hp_K Ls nz r).1 < 10) : (r < 51 ∧ hp_K Ls nz r = hp_k0.getD r (99, 0)) ∨ (1000000 ≤ r ∧ (hp_K Ls nz r).1 = 7) ∨ ∃ z j, z < nz ∧ j < 5 ∧ r = 5 * z + 51 + j ∧ hp_K Ls nz r = hp_kn.getD j (99, 0) := by
  unfold hp_K at h ⊢
  cases e1 : Nat.blt r 51 with
  | true => exact Or.inl ⟨Nat.ble_eq.mp e1, rfl⟩
  | false =>
    rw [e1] at h
    right
    cases e2 : Nat.ble 1000000 r with
    | true =>
      left
      refine ⟨Nat.ble_eq.mp e2, ?_⟩
      rw [e2] at h
      show (bif Nat.beq r 1000000 || Nat.beq r 1000001 then (7, 6) else bif Nat.beq r 1000002 then (7, Ls) else (99, 0) : Nat × Nat).1 = 7
      have h : (bif Nat.beq r 1000000 || Nat.beq r 1000001 then (7, 6) else bif Nat.beq r 1000002 then (7, Ls) else (99, 0) : Nat × Nat).1 < 10 := h
      cases q1 : (Nat.beq r 1000000 || Nat.beq r 1000001) with
      | true => rfl
      | false =>
        rw [q1] at h
        cases q2 : Nat.beq r 1000002 with
        | true => rfl
        | false => rw [q2] at h; exact absurd h (by show ¬ 99 < 10; omega)
    | false =>
      right
      rw [e2] at h
      have h : (bif Nat.blt r (51 + 5 * nz) then hp_kn.getD ((r - 51) % 5) (99, 0) else (99, 0) : Nat × Nat).1 < 10 := h
      have h51 : ¬ r < 51 := fun q => by rw [show Nat.blt r 51 = true from Nat.ble_eq.mpr q] at e1; exact absurd e1 (by decide)
      cases q : Nat.blt r (51 + 5 * nz) with
      | true =>
        have hq : r < 51 + 5 * nz := Nat.ble_eq.mp q
        refine ⟨(r - 51) / 5, (r - 51) % 5, by omega, by omega, by omega, ?_⟩
        rfl
      | false => rw [q] at h; exact absurd h (by show ¬ 99 < 10; omega)
theorem sp_like5 {Ls nz j : Nat} {FI : Nat → Nat → Int32} {FJ : Nat → Nat → Int64} {kp : Nat → Option Nat} (hn : nz ≤ 2) : sr_like (51 + 5 * nz + 5, sp_K5 (hp_K Ls nz) (51 + 5 * nz), sp_F5 FI (51 + 5 * nz), sp_J5 FJ (51 + 5 * nz), sr_u (sp_R5 (hp_R kp) (51 + 5 * nz)) 25 j (some (51 + 5 * nz))) (hp Ls (nz + 1) (sp_F5 FI (51 + 5 * nz)) (sp_J5 FJ (51 + 5 * nz)) (fun i => if i = j then some (5 * nz + 51) else kp i)) := by
  refine ⟨?_, fun r => hp_K5 hn r, rfl, rfl, fun r hr k => ?_, fun r hr k hk ht => ?_⟩
  · show 51 + 5 * nz + 5 = 51 + 5 * (nz + 1)
    omega
  · have hr : (sp_K5 (hp_K Ls nz) (51 + 5 * nz) r).1 = 9 := hr
    rw [hp_K5 hn] at hr
    have h25 : r = 25 := by
      rcases hp_Kcase (Ls := Ls) (nz := nz + 1) (r := r) (by omega) with ⟨h1, h2⟩ | ⟨h1, h2⟩ | ⟨z, i, h1, h2, h3, h4⟩
      · rw [h2] at hr; exact hp_kB r h1 hr
      · omega
      · rw [h4] at hr; exact absurd hr (hp_knB i h2).1
    subst h25
    show sr_u (sp_R5 (hp_R kp) (51 + 5 * nz)) 25 j (some (51 + 5 * nz)) 25 k = if k = j then some (5 * nz + 51) else kp k
    by_cases c : k = j
    · subst c
      rw [sr_u_same, if_pos rfl, Nat.add_comm]
    · rw [sr_u_ne _ _ c, if_neg c, sp_R5_ne (by omega)]; rfl
  · have hr : (sp_K5 (hp_K Ls nz) (51 + 5 * nz) r).1 < 6 := hr
    have hk : k < (sr_ts (sp_K5 (hp_K Ls nz) (51 + 5 * nz) r).1).length := hk
    have ht : (sr_ts (sp_K5 (hp_K Ls nz) (51 + 5 * nz) r).1).getD k 0 = 2 := ht
    rw [hp_K5 hn] at hr hk ht
    show sr_u (sp_R5 (hp_R kp) (51 + 5 * nz)) 25 j (some (51 + 5 * nz)) r k = hp_R (fun i => if i = j then some (5 * nz + 51) else kp i) r k
    rcases hp_Kcase (Ls := Ls) (nz := nz + 1) (r := r) (by omega) with ⟨h1, h2⟩ | ⟨h1, h2⟩ | ⟨z, i, h1, h2, h3, h4⟩
    · have h25 : r ≠ 25 := by
        intro q
        subst q
        rw [h2] at hr
        exact absurd hr (by decide)
      rw [sr_u_row _ _ h25, sp_R5_ne (by omega)]
      unfold hp_R
      have : Nat.beq r 25 = false := by
        cases q : Nat.beq r 25 with
        | false => rfl
        | true => exact absurd (Nat.eq_of_beq_eq_true q) h25
      rw [this]; rfl
    · omega
    · rw [h4] at hr hk ht
      have hi := (hp_knB i h2).2 hr
      subst hi
      have hk36 : 3 ≤ k ∧ k ≤ 6 := by
        have : ∀ k, k < (sr_ts (hp_kn.getD 0 (99, 0)).1).length → (sr_ts (hp_kn.getD 0 (99, 0)).1).getD k 0 = 2 → 3 ≤ k ∧ k ≤ 6 := by decide +kernel
        exact this k hk ht
      rw [h3, Nat.add_zero, hp_Rn (by omega), sr_u_row _ _ (by omega)]
      by_cases c : z = nz
      · subst c
        rw [show 5 * z + 51 = 51 + 5 * z by omega, sp_R5_at hk36.1 hk36.2]
      · rw [sp_R5_ne (by omega), hp_Rn (by omega)]
section KN
variable {Ls nz d : Nat} {xs : Nat → Int32} {FI : Nat → Nat → Int32} {FJ : Nat → Nat → Int64} {kp : Nat → Option Nat} {P : Option Value → sr_H → Prop}
theorem c4_keepNew {j : Nat} {x : Int32} (hn : nz ≤ 2) (hx : x = nI j) (hj : j < 3) (hk : kp j = none) (h : sr_Go mX4_keep (d + 2) 46 [some (.ref 0), some (.int x)] [] (0, 0) (hp Ls (nz + 1) (sp_F5 FI (51 + 5 * nz)) (sp_J5 FJ (51 + 5 * nz)) (fun i => if i = j then some (5 * nz + 51) else kp i)) P) : sr_Go mX4_keep (d + 2) 24 [some (.ref 0), some (.int x)] [] (5, 142) (hp Ls nz FI FJ kp) P := by
  have h := sr_like_go (sp_like5 (j := j) hn) h
  rcases (show nz = 0 ∨ nz = 1 ∨ nz = 2 by omega) with rfl | rfl | rfl
  · refine eX4_keep [46] ?_
    refine ⟨j, ⟨hx, hj⟩, ?_⟩
    change sr_wq _ _ _ _ _ _ (va_rf (kp j) :: []) _ _ _
    rw [hk]
    refine ⟨⟨by decide, by decide, by show 51 < 1000000; omega⟩, ?_⟩
    refine eX1_init [] ?_
    refine ⟨5, ⟨rfl, by decide, by decide, by decide, by show 52 < 1000000; omega, by decide⟩, ?_⟩
    refine ⟨10, ⟨rfl, by decide, by decide, by decide, by show 53 < 1000000; omega, by decide⟩, ?_⟩
    refine ⟨60, ⟨rfl, by decide, by decide, by decide, by show 54 < 1000000; omega, by decide⟩, ?_⟩
    refine ⟨60, ⟨rfl, by decide, by decide, by decide, by show 55 < 1000000; omega, by decide⟩, ?_⟩
    refine ⟨j, ⟨hx, hj⟩, ?_⟩
    exact h
  · refine eX4_keep [46] ?_
    refine ⟨j, ⟨hx, hj⟩, ?_⟩
    change sr_wq _ _ _ _ _ _ (va_rf (kp j) :: []) _ _ _
    rw [hk]
    refine ⟨⟨by decide, by decide, by show 56 < 1000000; omega⟩, ?_⟩
    refine eX1_init [] ?_
    refine ⟨5, ⟨rfl, by decide, by decide, by decide, by show 57 < 1000000; omega, by decide⟩, ?_⟩
    refine ⟨10, ⟨rfl, by decide, by decide, by decide, by show 58 < 1000000; omega, by decide⟩, ?_⟩
    refine ⟨60, ⟨rfl, by decide, by decide, by decide, by show 59 < 1000000; omega, by decide⟩, ?_⟩
    refine ⟨60, ⟨rfl, by decide, by decide, by decide, by show 60 < 1000000; omega, by decide⟩, ?_⟩
    refine ⟨j, ⟨hx, hj⟩, ?_⟩
    exact h
  · refine eX4_keep [46] ?_
    refine ⟨j, ⟨hx, hj⟩, ?_⟩
    change sr_wq _ _ _ _ _ _ (va_rf (kp j) :: []) _ _ _
    rw [hk]
    refine ⟨⟨by decide, by decide, by show 61 < 1000000; omega⟩, ?_⟩
    refine eX1_init [] ?_
    refine ⟨5, ⟨rfl, by decide, by decide, by decide, by show 62 < 1000000; omega, by decide⟩, ?_⟩
    refine ⟨10, ⟨rfl, by decide, by decide, by decide, by show 63 < 1000000; omega, by decide⟩, ?_⟩
    refine ⟨60, ⟨rfl, by decide, by decide, by decide, by show 64 < 1000000; omega, by decide⟩, ?_⟩
    refine ⟨60, ⟨rfl, by decide, by decide, by decide, by show 65 < 1000000; omega, by decide⟩, ?_⟩
    refine ⟨j, ⟨hx, hj⟩, ?_⟩
    exact h
end KN
