/-! what holds between the class's cells and the reference's -/
def sp_RA (FI : Nat → Nat → Int32) (FJ : Nat → Nat → Int64) : Prop := FI 0 11 = FI 30 2 ∧ FI 0 14 = FI 30 0 ∧ (∀ k, k < 6 → FI 29 k = FI 31 k) ∧ FJ 0 12 = FJ 30 3 ∧ FJ 0 13 = FJ 30 4
def sp_RB (FI : Nat → Nat → Int32) : Prop := FI 1 0 = nI 40 ∧ ∀ r, r < 6 → FI 2 r = FI 32 r ∧ (FI 2 r = -1 ∨ ∃ n, n ≤ 40 ∧ FI 2 r = nI n ∧ ∀ i, i < n → FI 3 (r * 40 + i) = FI 33 (40 * r + i))
def sp_RC (FI : Nat → Nat → Int32) : Prop := FI 4 0 = nI 60 ∧ ∀ r, r < 4 → FI 5 r = FI 35 r ∧ (FI 5 r = -1 ∨ ∃ n, n ≤ 60 ∧ FI 5 r = nI n ∧ ∀ i, i < n → FI 6 (r * 60 + i) = FI 36 (60 * r + i))
/-- what a deed does -/
def sp_app (v : Nat → Nat) (a g : Nat) : Nat → Nat := fun k => if a = 0 then (if k = 0 then v 0 ^^^ 2 ^ g else v k) else if a = 1 then (if k = 1 then v 1 ^^^ 2 ^ g else v k) else (if k = (if sp_bit (v 0) g = 1 then 7 + g else 2 + g) then v k + 1 else v k)
/-- D deeds, the states vs 0 .. vs D, what was done and by whom -/
def sp_LG (g D : Nat) (vs : Nat → Nat → Nat) (ac gs : Nat → Nat) : Prop := D ≤ 60 ∧ (∀ e, e ≤ D → vs e 0 < 32 ∧ vs e 1 < 32 ∧ ∀ i, i < 5 → vs e (2 + i) + vs e (7 + i) ≤ e) ∧ ∀ e, e < D → ac e < 3 ∧ gs e < g ∧ ∀ k, k < 12 → vs (e + 1) k = sp_app (vs e) (ac e) (gs e) k
/-- a night of the class at the cell N -/
def sp_XL (FI : Nat → Nat → Int32) (N D : Nat) (vs : Nat → Nat → Nat) (ac gs : Nat → Nat) : Prop := FI N 0 = nI D ∧ FI N 1 = nI (vs D 0) ∧ FI N 2 = nI (vs D 1) ∧ (∀ i, i < 5 → FI (N + 2) (2 * i) = nI (vs D (2 + i)) ∧ FI (N + 2) (2 * i + 1) = nI (vs D (7 + i))) ∧ ∀ e, e < D → FI (N + 3) e = nI (ac e) ∧ FI (N + 4) e = nI (gs e)
def sp_ML (FI : Nat → Nat → Int32) (D : Nat) (vs : Nat → Nat → Nat) : Prop := FI 30 24 = nI D ∧ (∀ k, k < 12 → FI 43 k = nI (vs D k)) ∧ ∀ e, e < D → ∀ k, k < 12 → FI 44 (12 * e + k) = nI (vs e k)
/-- what is kept in a place -/
def sp_KP (FI : Nat → Nat → Int32) (kp : Nat → Option Nat) (nz T g j : Nat) : Prop :=
  (FI 45 j = 0 ∧ (kp j = none ∨ ∃ z, z < nz ∧ kp j = some (5 * z + 51) ∧ FI (5 * z + 51) 0 = -1)) ∨
  (FI 45 j = 1 ∧ 0 < g ∧ ∃ z, z < nz ∧ kp j = some (5 * z + 51) ∧ ∃ D vs ac gs tn, sp_LG g D vs ac gs ∧ sp_TD T g tn ∧ sp_XL FI (5 * z + 51) D vs ac gs ∧ (∀ i, i < g → FI (5 * z + 51 + 1) i = nI (tn i)) ∧
    FI 46 j = nI D ∧ (∀ i, i < g → FI 47 (5 * j + i) = nI (tn i)) ∧ (∀ k, k < 12 → FI 48 (12 * j + k) = nI (vs D k)) ∧ ∀ e, e < D → ∀ k, k < 12 → FI 49 (720 * j + (12 * e + k)) = nI (vs e k))
def sp_nn (kp : Nat → Option Nat) : Nat := (if kp 0 = none then 1 else 0) + (if kp 1 = none then 1 else 0) + (if kp 2 = none then 1 else 0)
def sp_RK (FI : Nat → Nat → Int32) (kp : Nat → Option Nat) (nz T g : Nat) : Prop := nz + sp_nn kp ≤ 3 ∧ (∀ i j, i < 3 → j < 3 → i ≠ j → kp i = kp j → kp i = none) ∧ ∀ j, j < 3 → sp_KP FI kp nz T g j
/-- the hotel and the night -/
def sp_RH (FI : Nat → Nat → Int32) (kp : Nat → Option Nat) (nz T g o : Nat) (kd lf th tn : Nat → Nat) (D : Nat) (vs : Nat → Nat → Nat) (ac gs : Nat → Nat) : Prop :=
  sp_HD T g o kd lf th ∧ sp_XH FI T g o kd lf th ∧ sp_MH FI T g o kd lf th ∧ sp_TD T g tn ∧ sp_XT FI g tn ∧ sp_MT FI g tn ∧ sp_LG g D vs ac gs ∧ sp_XL FI 20 D vs ac gs ∧ sp_ML FI D vs ∧ sp_RK FI kp nz T g
def sp_Inv (xs : Nat → Int32) (nz : Nat) (FI : Nat → Nat → Int32) (FJ : Nat → Nat → Int64) (kp : Nat → Option Nat) : Prop :=
  (∀ k, FI 1000002 k = xs k) ∧ sp_RO FI ∧ sp_RA FI FJ ∧ sp_RB FI ∧ sp_RC FI ∧ ∃ T g o kd lf th tn D vs ac gs, sp_RH FI kp nz T g o kd lf th tn D vs ac gs
def sp_I (Ls : Nat) (xs : Nat → Int32) (h : sr_H) : Prop := ∃ nz FI FJ kp, h = hp Ls nz FI FJ kp ∧ sp_Inv xs nz FI FJ kp
theorem sp_I.of {Ls nz : Nat} {xs : Nat → Int32} {FI : Nat → Nat → Int32} {FJ : Nat → Nat → Int64} {kp : Nat → Option Nat} (h : sp_Inv xs nz FI FJ kp) : sp_I Ls xs (hp Ls nz FI FJ kp) := ⟨nz, FI, FJ, kp, rfl, h⟩
/-- between the two calls the reference still stands at its cell, and the script -/
def sp_mc (h1 : sr_H) (A : Prop) : Prop := bif Nat.beq (h1.2.1 30).1 5 && Nat.beq (h1.2.1 1000002).1 7 then A else False
/-- the two calls of one step of the law: the same answer, and I again -/
def sp_two (I : sr_H → Prop) (mX mM : sr_MD) (d : Nat) (As : List Value) (h : sr_H) : Prop := sr_Call mX d (.ref 0 :: As) h (fun v h1 => sp_mc h1 (sr_Call mM d (.ref 30 :: As) h1 (fun v2 h2 => v2 = v ∧ I h2)))
theorem sr_Go_mono {md : sr_MD} {d pc : Nat} {L : sr_L} {st : List Value} {b : Nat × Nat} {h : sr_H} {P P' : Option Value → sr_H → Prop} (hP : ∀ r h, P r h → P' r h) (k : sr_Go md d pc L st b h P) : sr_Go md d pc L st b h P' := by
  intro G p l e R s m args below meth c H locs cells slots Q ls F Rt hw lr hlen hlc hc1 hc2
  exact k G p l e R s m args below meth c H locs cells slots Q ls F (fun r h H locs cells slots pc ls p1 => Rt r h H locs cells slots pc ls (hP r h p1)) hw lr hlen hlc hc1 hc2
theorem sr_Call_mono {md : sr_MD} {d : Nat} {As : List Value} {h : sr_H} {P P' : Option Value → sr_H → Prop} (hP : ∀ r h, P r h → P' r h) (k : sr_Call md d As h P) : sr_Call md d As h P' := sr_Go_mono hP k
section RW
variable {Ls nz d : Nat} {xs : Nat → Int32} {FI : Nat → Nat → Int32} {FJ : Nat → Nat → Int64} {kp : Nat → Option Nat}
theorem sp_Inv_tell (h : sp_Inv xs nz FI FJ kp) (x : Int32) : sp_Inv xs nz (sr_u (sr_u FI 0 11 x) 30 2 x) FJ kp := by
  obtain ⟨hS, hO, hA, hB, hC, hH⟩ := h
  exact ⟨hS, hO, ⟨rfl, hA.2⟩, hB, hC, hH⟩
/-- a size isn't both -/
theorem sp_neg {x : Int32} {n : Nat} (hn : n < 1000) (h : x = nI n) : ¬ x < 0 := by rw [h]; exact nI_pos (by omega)
theorem sp_m1 {x : Int32} (h : x = -1) : x < 0 := by rw [h]; decide
/-- told findings -/
theorem sp_RA_f {a : Nat} (ha : a < 6) (hA : sp_RA FI FJ) : sp_RA (sr_u (sr_u (sr_u (sr_u FI 0 14 (nI a)) 29 a (FI 29 a + 1)) 30 0 (nI a)) 31 a (FI 31 a + 1)) FJ := by
  refine ⟨hA.1, rfl, fun k hk => ?_, hA.2.2.2⟩
  show sr_u (sr_u FI 0 14 (nI a)) 29 a (FI 29 a + 1) 29 k = sr_u (sr_u FI 30 0 (nI a)) 31 a (FI 31 a + 1) 31 k
  by_cases hka : k = a
  · subst hka
    rw [sr_u_same, sr_u_same, hA.2.2.1 k hk]
  · rw [sr_u_ne _ _ hka, sr_u_ne _ _ hka]
    exact hA.2.2.1 k hk
theorem sp_Inv_found (h : sp_Inv xs nz FI FJ kp) {a : Nat} (ha : a < 6) : sp_Inv xs nz (sr_u (sr_u (sr_u (sr_u FI 0 14 (nI a)) 29 a (FI 29 a + 1)) 30 0 (nI a)) 31 a (FI 31 a + 1)) FJ kp := by
  obtain ⟨hS, hO, hA, hB, hC, hH⟩ := h
  exact ⟨hS, hO, sp_RA_f ha hA, hB, hC, hH⟩
theorem c5_isRow' {P : Option Value → sr_H → Prop} {h9 : sr_H} {x : Int32} (h1 : ∀ k, k < 6 → x = nI k → ∀ z, z = 1 → P (some (.int z)) h9) (h0 : (∀ k, k < 6 → x ≠ nI k) → ∀ z, z = 0 → P (some (.int z)) h9) : sr_Call mX5_isRow (d + 1) [.int x] h9 P := c5_isRow (fun k hk e => h1 k hk e 1 rfl) (fun c => h0 c 0 rfl)
theorem sp_Inv_row (h : sp_Inv xs nz FI FJ kp) {r n : Nat} (hr : r < 6) (hn : n ≤ 40) : sp_Inv xs nz (sr_fill (sr_u (sr_fill (sr_u FI 2 r (nI n)) 3 (r * 40) n 0) 32 r (nI n)) 33 (40 * r) 40 0) FJ kp := by
  obtain ⟨hS, hO, hA, hB, hC, hH⟩ := h
  refine ⟨hS, hO, hA, ⟨hB.1, fun q hq => ?_⟩, hC, hH⟩
  show sr_u FI 2 r (nI n) 2 q = sr_u FI 32 r (nI n) 32 q ∧ (sr_u FI 2 r (nI n) 2 q = -1 ∨ ∃ m, m ≤ 40 ∧ sr_u FI 2 r (nI n) 2 q = nI m ∧ ∀ i, i < m → sr_fill FI 3 (r * 40) n 0 3 (q * 40 + i) = sr_fill FI 33 (40 * r) 40 0 33 (40 * q + i))
  by_cases hqr : q = r
  · subst hqr
    rw [sr_u_same, sr_u_same]
    refine ⟨rfl, Or.inr ⟨n, hn, rfl, fun i hi => ?_⟩⟩
    unfold sr_fill
    rw [if_pos (by omega), if_pos (by omega)]
  · rw [sr_u_ne _ _ hqr, sr_u_ne _ _ hqr]
    obtain ⟨h1, h2⟩ := hB.2 q hq
    refine ⟨h1, h2.imp id (fun ⟨m, m1, m2, m3⟩ => ⟨m, m1, m2, fun i hi => ?_⟩)⟩
    unfold sr_fill
    rw [if_neg (by omega), if_neg (by omega)]
    exact m3 i hi
theorem q_row {a b : Int32} (hI : sp_Inv xs nz FI FJ kp) : sp_two (sp_I Ls xs) mX4_row mX5_row (d + 3) [.int a, .int b] (hp Ls nz FI FJ kp) := by
  have hB := hI.2.2.2.1
  refine eX4_row [] ?_
  refine c4r_make hB.1 (fun c => ?_) (fun r hr e c => ?_) (fun r n hr hn e1 e2 => ?_)
  · refine eX5_row [34] ?_
    refine c5_isRow' (fun k hk e z hz => ?_) (fun c2 z hz => ?_)
    · rcases c with c | c
      · exact absurd e (c k hk)
      · refine sr_n1 hz ?_
        refine sr_ite (c := nI 40 < b) (fun c2 => ?_) (fun c2 => absurd c c2)
        exact ⟨rfl, .of hI⟩
    · subst hz; exact ⟨rfl, .of hI⟩
  · refine eX5_row [34] ?_
    refine c5_isRow' (fun k hk e z hz => ?_) (fun c2 => absurd e (c2 r hr))
    refine sr_n1 hz ?_
    refine sr_ite (c := nI 40 < b) (fun c2 => ?_) (fun c2 => ?_)
    · exfalso
      have h1 := Int32.lt_iff_toInt_lt.mp c
      have h2 := Int32.lt_iff_toInt_lt.mp c2
      rw [nI_toInt (by omega)] at h2
      have : (0 : Int32).toInt = 0 := rfl
      omega
    · refine sr_ite (c := b < 0) (fun c3 => ?_) (fun c3 => absurd c c3)
      refine c5_meets (a := 5) rfl (by omega) ?_
      exact ⟨rfl, .of (sp_Inv_found hI (a := 5) (by omega))⟩
  · subst e1; subst e2
    refine eX5_row [34] ?_
    refine c5_isRow' (fun k hk e z hz => ?_) (fun c2 => absurd rfl (c2 r hr))
    refine sr_n1 hz ?_
    refine sr_ite (c := nI 40 < nI n) (fun c2 => ?_) (fun c2 => ?_)
    · exact absurd c2 (nI_nlt (by omega) (by omega))
    · refine sr_ite (c := nI n < 0) (fun c3 => absurd c3 (nI_pos (by omega))) (fun c3 => ?_)
      refine ⟨r, ⟨rfl, hr⟩, ?_⟩
      have loop : ∀ (m i : Nat) (x : Int32), i + m = 40 → x = nI i → sr_Go mX5_row (d + 3) 34 [some (.ref 30), some (.int (nI r)), some (.int (nI n)), some (.int x)] [] (0, 0) (hp Ls nz (sr_fill (sr_u (sr_fill (sr_u FI 2 r (nI n)) 3 (r * 40) n 0) 32 r (nI n)) 33 (40 * r) i 0) FJ kp) (fun v2 h2 => v2 = some (.int (nI n)) ∧ sp_I Ls xs h2) := by
        intro m
        induction m with
        | zero =>
          intro i x hi hx
          refine eX5_row [34] ?_
          refine sr_ite (c := x < nI 40) (fun c => ?_) (fun c => ?_)
          · exfalso; rw [hx] at c; have := (nI_ltI (by omega) (by omega)).mp c; omega
          · have : i = 40 := by omega
            subst this
            exact ⟨rfl, .of (sp_Inv_row hI hr hn)⟩
        | succ m ih =>
          intro i x hi hx
          refine eX5_row [34] ?_
          refine sr_ite (c := x < nI 40) (fun c => ?_) (fun c => ?_)
          · refine ⟨40 * r + i, ⟨show nI 40 * nI r + x = _ by rw [hx, nI_mul, nI_add], show 40 * r + i < 240 by omega⟩, ?_⟩
            have := ih (i + 1) (x + nI 1) (by omega) (by rw [hx, nI_add])
            rw [← sr_fill_s] at this
            exact this
          · exfalso; rw [hx] at c; exact c (nI_lt (by omega) (by omega))
      have := loop 40 0 0 (by omega) rfl
      rw [sr_fill_0] at this
      exact this
end RW
