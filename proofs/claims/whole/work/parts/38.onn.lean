/-! pairs of calls: on -/
section OO
variable {Ls nz d T g o D : Nat} {kd lf th tn v : Nat → Nat} {vs : Nat → Nat → Nat} {ac gs : Nat → Nat} {xs : Nat → Int32} {FI : Nat → Nat → Int32} {FJ : Nat → Nat → Int64} {kp : Nat → Option Nat} {P : Option Value → sr_H → Prop} {h9 : sr_H}
theorem sp_Inv_on {FI' : Nat → Nat → Int32} {D' : Nat} {tn' : Nat → Nat} {vs' : Nat → Nat → Nat} {ac' gs' : Nat → Nat} (hI : sp_Inv xs nz FI FJ kp) (hD : sp_HD T g o kd lf th) (hX : sp_XH FI T g o kd lf th) (hM : sp_MH FI T g o kd lf th) (hRK : sp_RK FI kp nz T g) (fr : ∀ r, (r < 20 ∨ 25 ≤ r) → r ≠ 30 → r ≠ 39 → r ≠ 43 → r ≠ 44 → FI' r = FI r) (fr30 : ∀ k, k ≠ 24 → FI' 30 k = FI 30 k) (hTd : sp_TD T g tn') (hXT : sp_XT FI' g tn') (hMT : sp_MT FI' g tn') (hLG' : sp_LG g D' vs' ac' gs') (hXL' : sp_XL FI' 20 D' vs' ac' gs') (hML' : sp_ML FI' D' vs') : sp_Inv xs nz FI' FJ kp := by
  obtain ⟨hS, hO, hA, hB, hC, -⟩ := hI
  have k : ∀ r, r < 20 → FI' r = FI r := fun r hr => fr r (Or.inl hr) (by omega) (by omega) (by omega) (by omega)
  have k2 : ∀ r, 25 ≤ r → r ≠ 30 → r ≠ 39 → r ≠ 43 → r ≠ 44 → FI' r = FI r := fun r hr => fr r (Or.inr hr)
  refine ⟨?_, ?_, ?_, ?_, ?_, T, g, o, kd, lf, th, tn', D', vs', ac', gs', hD, ?_, ?_, hTd, hXT, hMT, hLG', hXL', hML', hRK.1, hRK.2.1, fun j hj => sp_fr_KP (fun r hr => k2 r (by omega) (by omega) (by omega) (by omega) (by omega)) (hRK.2.2 j hj)⟩
  · rw [k2 1000002 (by omega) (by omega) (by omega) (by omega) (by omega)]; exact hS
  · unfold sp_RO at hO ⊢
    rw [k2 1000000 (by omega) (by omega) (by omega) (by omega) (by omega), k2 1000001 (by omega) (by omega) (by omega) (by omega) (by omega)]; exact hO
  · unfold sp_RA at hA ⊢
    rw [k 0 (by omega), fr30 2 (by decide), fr30 0 (by decide), k2 29 (by omega) (by omega) (by omega) (by omega) (by omega), k2 31 (by omega) (by omega) (by omega) (by omega) (by omega)]; exact hA
  · unfold sp_RB at hB ⊢
    rw [k 1 (by omega), k 2 (by omega), k 3 (by omega), k2 32 (by omega) (by omega) (by omega) (by omega) (by omega), k2 33 (by omega) (by omega) (by omega) (by omega) (by omega)]; exact hB
  · unfold sp_RC at hC ⊢
    rw [k 4 (by omega), k 5 (by omega), k 6 (by omega), k2 35 (by omega) (by omega) (by omega) (by omega) (by omega), k2 36 (by omega) (by omega) (by omega) (by omega) (by omega)]; exact hC
  · unfold sp_XH at hX ⊢
    rw [k 8 (by omega), k 9 (by omega), k 10 (by omega), k 12 (by omega), k 13 (by omega)]; exact hX
  · unfold sp_MH at hM ⊢
    rw [fr30 10 (by decide), fr30 11 (by decide), fr30 12 (by decide), k2 37 (by omega) (by omega) (by omega) (by omega) (by omega), k2 38 (by omega) (by omega) (by omega) (by omega) (by omega), k2 40 (by omega) (by omega) (by omega) (by omega) (by omega)]; exact hM
theorem c5_on {j : Nat} {x : Int32} {F : Nat → Nat → Int32} (hK : F 45 j = 1) (hDe : F 46 j = nI D) (hD : D ≤ 60) (hx : x = nI j) (hj : j < 3) (h : P (some (.int (nI D))) (hp Ls nz (sp_cq (sp_cq (sp_cq (sr_u F 30 24 (nI D)) 39 0 47 (5 * j) 5) 43 0 48 (12 * j) 12) 44 0 49 (720 * j) (12 * D)) FJ kp)) : sr_Call mX5_on (d + 1) [.ref 30, .int x] (hp Ls nz F FJ kp) P := by
  have l3 : ∀ k, k ≤ 12 * D → ∀ z : Int32, z = nI k → sr_Go mX5_on (d + 1) 98 [some (.ref 30), some (.int x), some (.int z)] [] (0, 0) (hp Ls nz (sp_cq (sp_cq (sp_cq (sr_u F 30 24 (nI D)) 39 0 47 (5 * j) 5) 43 0 48 (12 * j) 12) 44 0 49 (720 * j) k) FJ kp) P := by
    refine sp_for (fun z hz => ?_) (fun k hk ih z hz => ?_)
    · refine eX5_on [98] ?_
      refine sr_ite (c := z < nI 12 * nI D) (fun c => absurd c (by rw [hz, nI_mul]; exact nI_nlt (by omega) (by omega))) (fun c => ?_)
      exact h
    · refine eX5_on [98] ?_
      refine sr_ite (c := z < nI 12 * nI D) (fun c => ?_) (fun c => absurd (by rw [hz, nI_mul]; exact nI_lt hk (by omega)) c)
      refine ⟨720 * j + k, ⟨show nI 720 * x + z = _ by rw [hx, hz, nI_mul, nI_add], show 720 * j + k < 2160 by omega⟩, ?_⟩
      refine ⟨k, ⟨hz, show k < 720 by omega⟩, ?_⟩
      have := ih (z + nI 1) (by rw [hz]; exact nI_1 k)
      rw [← sp_cq_s, Nat.zero_add] at this
      exact this
  have l2 : ∀ k, k ≤ 12 → ∀ z : Int32, z = nI k → sr_Go mX5_on (d + 1) 67 [some (.ref 30), some (.int x), some (.int z)] [] (0, 0) (hp Ls nz (sp_cq (sp_cq (sr_u F 30 24 (nI D)) 39 0 47 (5 * j) 5) 43 0 48 (12 * j) k) FJ kp) P := by
    refine sp_for (fun z hz => ?_) (fun k hk ih z hz => ?_)
    · refine eX5_on [67, 98] ?_
      refine sr_ite (c := z < nI 12) (fun c => absurd c (by rw [hz]; exact nI_nlt (by omega) (by omega))) (fun c => ?_)
      have := l3 0 (by omega) _ rfl
      rw [sp_cq_0] at this
      exact this
    · refine eX5_on [67, 98] ?_
      refine sr_ite (c := z < nI 12) (fun c => ?_) (fun c => absurd (by rw [hz]; exact nI_lt hk (by omega)) c)
      refine ⟨12 * j + k, ⟨show nI 12 * x + z = _ by rw [hx, hz, nI_mul, nI_add], show 12 * j + k < 36 by omega⟩, ?_⟩
      refine ⟨k, ⟨hz, show k < 12 by omega⟩, ?_⟩
      have := ih (z + nI 1) (by rw [hz]; exact nI_1 k)
      rw [← sp_cq_s, Nat.zero_add] at this
      exact this
  have l1 : ∀ k, k ≤ 5 → ∀ z : Int32, z = nI k → sr_Go mX5_on (d + 1) 38 [some (.ref 30), some (.int x), some (.int z)] [] (0, 0) (hp Ls nz (sp_cq (sr_u F 30 24 (nI D)) 39 0 47 (5 * j) k) FJ kp) P := by
    refine sp_for (fun z hz => ?_) (fun k hk ih z hz => ?_)
    · refine eX5_on [38, 67] ?_
      refine sr_ite (c := z < nI 5) (fun c => absurd c (by rw [hz]; exact nI_nlt (by omega) (by omega))) (fun c => ?_)
      have := l2 0 (by omega) _ rfl
      rw [sp_cq_0] at this
      exact this
    · refine eX5_on [38, 67] ?_
      refine sr_ite (c := z < nI 5) (fun c => ?_) (fun c => absurd (by rw [hz]; exact nI_lt hk (by omega)) c)
      refine ⟨5 * j + k, ⟨show nI 5 * x + z = _ by rw [hx, hz, nI_mul, nI_add], show 5 * j + k < 15 by omega⟩, ?_⟩
      refine ⟨k, ⟨hz, show k < 5 by omega⟩, ?_⟩
      have := ih (z + nI 1) (by rw [hz]; exact nI_1 k)
      rw [← sp_cq_s, Nat.zero_add] at this
      exact this
  refine eX5_on [38] ?_
  refine c5_inN' (b := 3) rfl rfl (by omega) (fun k hk e2 z hz => ?_) (fun c => absurd hx (c j hj))
  refine sr_n1 hz ?_
  refine ⟨j, ⟨hx, show j < 3 from hj⟩, ?_⟩
  refine sr_ite (c := F 45 j = 0) (fun q => absurd q (by rw [hK]; decide)) (fun _ => ?_)
  refine ⟨j, ⟨hx, show j < 3 from hj⟩, ?_⟩
  have := l1 0 (by omega) _ rfl
  rw [sp_cq_0, ← hDe] at this
  exact this
theorem c1_isForgotten {N : Nat} (hn : nz ≤ 3) (hN : sp_ng nz N) (h1 : FI N 0 < 0 → ∀ z, z = 1 → P (some (.int z)) (hp Ls nz FI FJ kp)) (h0 : ¬ FI N 0 < 0 → ∀ z, z = 0 → P (some (.int z)) (hp Ls nz FI FJ kp)) : sr_Call mX1_isForgotten d [.ref N] (hp Ls nz FI FJ kp) P := by
  refine eX1_isForgotten [] ?_
  refine sr_cnd (ng_is hn hN) ?_
  refine sr_ite (c := FI N 0 < 0) (fun c => ?_) (fun c => ?_)
  · exact ⟨Or.inr rfl, h1 c 1 rfl⟩
  · exact ⟨Or.inl rfl, h0 c 0 rfl⟩
theorem q_on {b : Int32} (hI : sp_Inv xs nz FI FJ kp) : sp_two (sp_I Ls xs) mX4_on mX5_on (d + 4) [.int b] (hp Ls nz FI FJ kp) := by
  obtain ⟨hS, hO, hA, hB, hC, T, g, o, kd, lf, th, tn, D, vs, ac, gs, hD, hX, hM, hTd, hXT, hMT, hLG, hXL, hML, hRK⟩ := id hI
  have hg := hD.1
  have hn : nz ≤ 3 := by have := hRK.1; omega
  have bad : (∀ i, i < 3 → b ≠ nI i) → sr_Call mX5_on (d + 4) [.ref 30, .int b] (hp Ls nz FI FJ kp) (fun v2 h2 => v2 = some (.int (sr_k (-1))) ∧ sp_I Ls xs h2) := by
    intro hb
    refine eX5_on [38] ?_
    refine c5_inN' (b := 3) rfl rfl (by omega) (fun k hk e2 => absurd e2 (hb k hk)) (fun c z hz => ?_)
    refine sr_n0 hz ?_
    exact ⟨rfl, .of hI⟩
  refine eX4_on [29] ?_
  refine sr_ite (c := b < 0) (fun c => ?_) (fun c1 => ?_)
  · exact bad (fun i hi q => by rw [q] at c; exact nI_pos (by omega) c)
  refine sr_ite (c := b < nI 3) (fun c2 => ?_) (fun c2 => ?_)
  · obtain ⟨j, hj, e⟩ := nI_ltN (by omega) c1 c2
    refine ⟨j, ⟨e, hj⟩, ?_⟩
    change sr_wq _ _ _ _ _ _ (va_rf (kp j) :: []) _ _ _
    have none_ : FI 45 j = 0 → ∀ w, sr_Go mX4_on (d + 4) 29 [some (.ref 0), some (.int b), some w] [] (0, 0) (hp Ls nz FI FJ kp) (fun v h1 => sp_mc h1 (sr_Call mX5_on (d + 4) [.ref 30, .int b] h1 (fun v2 h2 => v2 = v ∧ sp_I Ls xs h2))) := by
      intro e45 w
      refine eX4_on [] ?_
      refine c4_found (a := 1) rfl (by omega) ?_
      refine eX5_on [38] ?_
      refine c5_inN' (b := 3) rfl rfl (by omega) (fun k hk e2 z hz => ?_) (fun c => absurd e (c j hj))
      refine sr_n1 hz ?_
      refine ⟨j, ⟨e, show j < 3 from hj⟩, ?_⟩
      refine sr_ite (c := FI 45 j = 0) (fun _ => ?_) (fun q => absurd e45 q)
      refine c5_meets (FI := sr_u (sr_u FI 0 14 (nI 1)) 29 1 (FI 29 1 + 1)) (a := 1) rfl (by omega) ?_
      exact ⟨rfl, .of (sp_Inv_found hI (a := 1) (by omega))⟩
    rcases hRK.2.2 j hj with ⟨e45, hk | ⟨z, hz, hk, hf⟩⟩ | ⟨e45, hg0, z, hz, hk, D', vs', ac', gs', tn', hLG', hTd', hXL', hXT', r1, r2, r3, r4⟩
    · rw [hk]
      exact none_ e45 _
    · rw [hk]
      refine sr_cnd (sr_and (sr_and (sr_and (ng_is hn (Or.inr ⟨z, hz, rfl⟩)) rfl) rfl) rfl) ?_
      refine c1_isForgotten hn (Or.inr ⟨z, hz, rfl⟩) (fun c w hw => ?_) (fun c => ?_)
      · refine sr_n1 hw ?_
        exact none_ e45 _
      · rw [hf] at c; exact absurd (by decide) c
    · have hD60 := hLG'.1
      rw [hk]
      refine sr_cnd (sr_and (sr_and (sr_and (ng_is hn (Or.inr ⟨z, hz, rfl⟩)) rfl) rfl) rfl) ?_
      refine c1_isForgotten hn (Or.inr ⟨z, hz, rfl⟩) (fun c => ?_) (fun c w hw => ?_)
      · rw [hXL'.1] at c; exact absurd c (nI_pos (by omega))
      refine sr_n0 hw ?_
      refine c1_takeOver2 hz hn ?_
      have hAB : 20 + 5 ≤ 5 * z + 51 ∨ 5 * z + 51 + 5 ≤ 20 := Or.inl (by omega)
      have ne : ∀ r, (r < 20 ∨ 25 ≤ r) → sp_tk FI 20 (5 * z + 51) r = FI r := fun r hr => sp_tk_ne (by omega)
      refine c5_on (D := D') (by rw [ne 45 (by omega)]; exact e45) (by rw [ne 46 (by omega)]; exact r1) hD60 e hj ?_
      have lo : ∀ r, (r < 20 ∨ 25 ≤ r) → r ≠ 30 → sr_u (sp_tk FI 20 (5 * z + 51)) 30 24 (nI D') r = FI r := by
        intro r hr h30
        rw [sr_u_row _ _ h30, ne r hr]
      have nt : ∀ r, 20 ≤ r → r < 25 → sp_cq (sp_cq (sp_cq (sr_u (sp_tk FI 20 (5 * z + 51)) 30 24 (nI D')) 39 0 47 (5 * j) 5) 43 0 48 (12 * j) 12) 44 0 49 (720 * j) (12 * D') r = sp_tk FI 20 (5 * z + 51) r := by
        intro r h1 h2
        rw [sp_cq_ne (by omega), sp_cq_ne (by omega), sp_cq_ne (by omega), sr_u_row _ _ (by omega)]
      refine ⟨?_, .of (sp_Inv_on hI hD hX hM hRK (fun r hr h1 h2 h3 h4 => ?_) (fun k hk => ?_) hTd' ?_ ?_ hLG' ?_ ?_)⟩
      · show some (Value.int (nI D')) = some (Value.int (sp_tk FI 20 (5 * z + 51) 20 0))
        rw [sp_tk_0 hAB (by omega), hXL'.1]
      · rw [sp_cq_ne h4, sp_cq_ne h3, sp_cq_ne h2, lo r hr h1]
      · rw [sp_cq_ne (by omega), sp_cq_ne (by omega), sp_cq_ne (by omega), sr_u_ne _ _ hk, ne 30 (by omega)]
      · intro i hi
        rw [nt 21 (by omega) (by omega), sp_tk_1 (A := 20) hAB (by omega)]
        exact hXT' i hi
      · intro i hi
        rw [sp_cq_ne (by omega), sp_cq_ne (by omega)]
        have := sp_cq_at (F := sr_u (sp_tk FI 20 (5 * z + 51)) 30 24 (nI D')) (r := 39) (lo := 0) (s := 47) (so := 5 * j) (n := 5) (i := i) (by omega)
        rw [Nat.zero_add] at this
        rw [this, lo 47 (by omega) (by omega)]
        exact r2 i hi
      · unfold sp_XL
        rw [nt 20 (by omega) (by omega), nt (20 + 2) (by omega) (by omega), nt (20 + 3) (by omega) (by omega), nt (20 + 4) (by omega) (by omega)]
        obtain ⟨x0, x1, x2, x3, x4⟩ := hXL'
        refine ⟨?_, ?_, ?_, fun i hi => ⟨?_, ?_⟩, fun e he => ⟨?_, ?_⟩⟩
        · rw [sp_tk_0 hAB (by omega)]; exact x0
        · rw [sp_tk_0 hAB (by omega)]; exact x1
        · rw [sp_tk_0 hAB (by omega)]; exact x2
        · rw [sp_tk_2 hAB (by omega)]; exact (x3 i hi).1
        · rw [sp_tk_2 hAB (by omega)]; exact (x3 i hi).2
        · rw [sp_tk_3 hAB (by omega)]; exact (x4 e he).1
        · rw [sp_tk_4 hAB (by omega)]; exact (x4 e he).2
      · refine ⟨?_, fun k hk => ?_, fun e he k hk => ?_⟩
        · rw [sp_cq_ne (by omega), sp_cq_ne (by omega), sp_cq_ne (by omega), sr_u_same]
        · rw [sp_cq_ne (by omega)]
          have := sp_cq_at (F := sp_cq (sr_u (sp_tk FI 20 (5 * z + 51)) 30 24 (nI D')) 39 0 47 (5 * j) 5) (r := 43) (lo := 0) (s := 48) (so := 12 * j) (n := 12) (i := k) (by omega)
          rw [Nat.zero_add] at this
          rw [this, sp_cq_ne (by omega), lo 48 (by omega) (by omega)]
          exact r3 k hk
        · have := sp_cq_at (F := sp_cq (sp_cq (sr_u (sp_tk FI 20 (5 * z + 51)) 30 24 (nI D')) 39 0 47 (5 * j) 5) 43 0 48 (12 * j) 12) (r := 44) (lo := 0) (s := 49) (so := 720 * j) (n := 12 * D') (i := 12 * e + k) (by omega)
          rw [Nat.zero_add] at this
          rw [this, sp_cq_ne (by omega), sp_cq_ne (by omega), lo 49 (by omega) (by omega)]
          exact r4 e he k hk
  · exact bad (fun i hi q => c2 (by rw [q]; exact nI_lt hi (by omega)))
end OO
