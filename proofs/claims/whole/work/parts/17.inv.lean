/-! what holds between the class's cells and the reference's -/
def sp_RA (FI : Nat → Nat → Int32) (FJ : Nat → Nat → Int64) : Prop := FI 0 11 = FI 30 2 ∧ FI 0 14 = FI 30 0 ∧ (∀ k, k < 6 → FI 29 k = FI 31 k) ∧ FJ 0 12 = FJ 30 3 ∧ FJ 0 13 = FJ 30 4
def sp_RB (FI : Nat → Nat → Int32) : Prop := FI 1 0 = nI 40 ∧ ∀ r, r < 6 → FI 2 r = FI 32 r ∧ (FI 2 r = -1 ∨ ∃ n, n ≤ 40 ∧ FI 2 r = nI n ∧ ∀ i, i < n → FI 3 (r * 40 + i) = FI 33 (40 * r + i))
def sp_RC (FI : Nat → Nat → Int32) : Prop := FI 4 0 = nI 60 ∧ ∀ r, r < 4 → FI 5 r = FI 35 r ∧ (FI 5 r = -1 ∨ ∃ n, n ≤ 60 ∧ FI 5 r = nI n ∧ ∀ i, i < n → FI 6 (r * 60 + i) = FI 36 (60 * r + i))
/-- the two calls of one step of the law: the same answer, and I again -/
def sp_two (I : sr_H → Prop) (mX mM : sr_MD) (d : Nat) (As : List Value) (h : sr_H) : Prop := sr_Call mX d (.ref 0 :: As) h (fun v h1 => sr_Call mM d (.ref 30 :: As) h1 (fun v2 h2 => v2 = v ∧ I h2))
theorem sr_Go_mono {md : sr_MD} {d pc : Nat} {L : sr_L} {st : List Value} {b : Nat × Nat} {h : sr_H} {P P' : Option Value → sr_H → Prop} (hP : ∀ r h, P r h → P' r h) (k : sr_Go md d pc L st b h P) : sr_Go md d pc L st b h P' := by
  intro G p l e R s m args below meth c H locs cells slots Q ls F Rt hw lr hlen hlc hc1 hc2
  exact k G p l e R s m args below meth c H locs cells slots Q ls F (fun r h H locs cells slots pc ls p1 => Rt r h H locs cells slots pc ls (hP r h p1)) hw lr hlen hlc hc1 hc2
theorem sr_Call_mono {md : sr_MD} {d : Nat} {As : List Value} {h : sr_H} {P P' : Option Value → sr_H → Prop} (hP : ∀ r h, P r h → P' r h) (k : sr_Call md d As h P) : sr_Call md d As h P' := sr_Go_mono hP k
section RW
variable {Ls nz d : Nat} {FI : Nat → Nat → Int32} {FJ : Nat → Nat → Int64} {kp : Nat → Option Nat} {I : sr_H → Prop}
/-- a size isn't both -/
theorem sp_neg {x : Int32} {n : Nat} (hn : n < 1000) (h : x = nI n) : ¬ x < 0 := by rw [h]; exact nI_pos (by omega)
theorem sp_m1 {x : Int32} (h : x = -1) : x < 0 := by rw [h]; decide
/-- told findings -/
theorem sp_RA_f {a : Nat} (ha : a < 6) (hA : sp_RA FI FJ) : sp_RA (sr_u (sr_u (sr_u (sr_u FI 0 14 (nI a)) 29 a (FI 29 a + 1)) 30 0 (nI a)) 31 a (FI 31 a + 1)) FJ := by
  refine ⟨hA.1, rfl, fun k hk => ?_, hA.2.2.2⟩
  show sr_u (sr_u FI 0 14 (nI a)) 29 a (FI 29 a + 1) 29 k = sr_u (sr_u FI 30 0 (nI a)) 31 a (FI 31 a + 1) 31 k
  by_cases hka : k = a
  · subst hka
    rw [sr_u_same, sr_u_same, hA.2.2.1 k hk]
  · rw [sr_u_ne _ _ hka, sr_u_ne _ _ hka]
    exact hA.2.2.1 k hk
theorem c5_isRow' {P : Option Value → sr_H → Prop} {h9 : sr_H} {x : Int32} (h1 : ∀ k, k < 6 → x = nI k → ∀ z, z = 1 → P (some (.int z)) h9) (h0 : (∀ k, k < 6 → x ≠ nI k) → ∀ z, z = 0 → P (some (.int z)) h9) : sr_Call mX5_isRow (d + 1) [.int x] h9 P := c5_isRow (fun k hk e => h1 k hk e 1 rfl) (fun c => h0 c 0 rfl)
theorem q_row {a b : Int32} (hA : sp_RA FI FJ) (hB : sp_RB FI) (K0 : I (hp Ls nz FI FJ kp)) (K1 : ∀ c, c < 6 → I (hp Ls nz (sr_u (sr_u (sr_u (sr_u FI 0 14 (nI c)) 29 c (FI 29 c + 1)) 30 0 (nI c)) 31 c (FI 31 c + 1)) FJ kp))
    (K2 : ∀ r n, r < 6 → n ≤ 40 → I (hp Ls nz (sr_fill (sr_u (sr_fill (sr_u FI 2 r (nI n)) 3 (r * 40) n 0) 32 r (nI n)) 33 (40 * r) 40 0) FJ kp)) : sp_two I mX4_row mX5_row (d + 3) [.int a, .int b] (hp Ls nz FI FJ kp) := by
  refine eX4_row [] ?_
  refine c4r_make hB.1 (fun c => ?_) (fun r hr e c => ?_) (fun r n hr hn e1 e2 => ?_)
  · refine eX5_row [34] ?_
    refine c5_isRow' (fun k hk e z hz => ?_) (fun c2 z hz => ?_)
    · rcases c with c | c
      · exact absurd e (c k hk)
      · refine sr_n1 hz ?_
        refine sr_ite (c := nI 40 < b) (fun c2 => ?_) (fun c2 => absurd c c2)
        exact ⟨rfl, K0⟩
    · subst hz; exact ⟨rfl, K0⟩
  · refine eX5_row [34] ?_
    refine c5_isRow' (fun k hk e z hz => ?_) (fun c2 => absurd e (c2 r hr))
    refine sr_n1 hz ?_
    refine sr_ite (c := nI 40 < b) (fun c2 => ?_) (fun c2 => ?_)
    · exfalso
      have h1 := Int32.lt_iff_toInt_lt.mp c
      have h2 := Int32.lt_iff_toInt_lt.mp c2
      rw [nI_toInt (by omega)] at h2
      have : (0 : Int32).toInt = 0 := rfl
      omega
    · refine sr_ite (c := b < 0) (fun c3 => ?_) (fun c3 => absurd c c3)
      refine c5_meets (a := 5) rfl (by omega) ?_
      exact ⟨rfl, K1 5 (by omega)⟩
  · subst e1; subst e2
    refine eX5_row [34] ?_
    refine c5_isRow' (fun k hk e z hz => ?_) (fun c2 => absurd rfl (c2 r hr))
    refine sr_n1 hz ?_
    refine sr_ite (c := nI 40 < nI n) (fun c2 => ?_) (fun c2 => ?_)
    · exact absurd c2 (nI_nlt (by omega) (by omega))
    · refine sr_ite (c := nI n < 0) (fun c3 => absurd c3 (nI_pos (by omega))) (fun c3 => ?_)
      refine ⟨r, ⟨rfl, hr⟩, ?_⟩
      have loop : ∀ (m i : Nat) (x : Int32), i + m = 40 → x = nI i → sr_Go mX5_row (d + 3) 34 [some (.ref 30), some (.int (nI r)), some (.int (nI n)), some (.int x)] [] (0, 0) (hp Ls nz (sr_fill (sr_u (sr_fill (sr_u FI 2 r (nI n)) 3 (r * 40) n 0) 32 r (nI n)) 33 (40 * r) i 0) FJ kp) (fun v2 h2 => v2 = some (.int (nI n)) ∧ I h2) := by
        intro m
        induction m with
        | zero =>
          intro i x hi hx
          refine eX5_row [34] ?_
          refine sr_ite (c := x < nI 40) (fun c => ?_) (fun c => ?_)
          · exfalso; rw [hx] at c; have := (nI_ltI (by omega) (by omega)).mp c; omega
          · have : i = 40 := by omega
            subst this
            exact ⟨rfl, K2 r n hr hn⟩
        | succ m ih =>
          intro i x hi hx
          refine eX5_row [34] ?_
          refine sr_ite (c := x < nI 40) (fun c => ?_) (fun c => ?_)
          · refine ⟨40 * r + i, ⟨show nI 40 * nI r + x = _ by rw [hx, nI_mul, nI_add], show 40 * r + i < 240 by omega⟩, ?_⟩
            have := ih (i + 1) (x + nI 1) (by omega) (by rw [hx, nI_add])
            rw [← sr_fill_s] at this
            exact this
          · exfalso; rw [hx] at c; exact c (nI_lt (by omega) (by omega))
      have := loop 40 0 0 (by omega) rfl
      rw [sr_fill_0] at this
      exact this
end RW
