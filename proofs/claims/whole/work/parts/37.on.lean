/-! pairs of calls: keep, on -/
def sp_cq (F : Nat → Nat → Int32) (r lo s so n : Nat) : Nat → Nat → Int32 := fun a b => if a = r ∧ lo ≤ b ∧ b < lo + n then F s (so + (b - lo)) else F a b
theorem sp_cq_0 (F : Nat → Nat → Int32) (r lo s so : Nat) : sp_cq F r lo s so 0 = F := by
  funext a b
  exact if_neg (by omega)
theorem sp_cq_s (F : Nat → Nat → Int32) (r lo s so n : Nat) : sr_u (sp_cq F r lo s so n) r (lo + n) (F s (so + n)) = sp_cq F r lo s so (n + 1) := by
  funext a b
  unfold sr_u sp_cq
  by_cases h1 : a = r ∧ b = lo + n
  · rw [if_pos h1, if_pos (by omega), h1.2]
    congr 1; omega
  · rw [if_neg h1]
    by_cases h2 : a = r ∧ lo ≤ b ∧ b < lo + n
    · rw [if_pos h2, if_pos (by omega)]
    · rw [if_neg h2, if_neg (by omega)]
theorem sp_cq_at {F : Nat → Nat → Int32} {r lo s so n i : Nat} (hi : i < n) : sp_cq F r lo s so n r (lo + i) = F s (so + i) := by
  unfold sp_cq
  rw [if_pos (by omega)]
  congr 1; omega
theorem sp_cq_out {F : Nat → Nat → Int32} {r lo s so n b : Nat} (h : b < lo ∨ lo + n ≤ b) : sp_cq F r lo s so n r b = F r b := if_neg (by omega)
theorem sp_cq_ne {F : Nat → Nat → Int32} {r lo s so n a : Nat} (h : a ≠ r) : sp_cq F r lo s so n a = F a := by
  funext b
  exact if_neg (fun e => h e.1)
theorem sr_and {a b : Bool} (h : a = true) (k : b = true) : (a && b) = true := by rw [h, k]; rfl
section ON
variable {Ls nz d T g o D : Nat} {kd lf th tn v : Nat → Nat} {vs : Nat → Nat → Nat} {ac gs : Nat → Nat} {xs : Nat → Int32} {FI : Nat → Nat → Int32} {FJ : Nat → Nat → Int64} {kp : Nat → Option Nat} {P : Option Value → sr_H → Prop} {h9 : sr_H}
theorem sp_Inv_rows {FI' : Nat → Nat → Int32} {FJ' : Nat → Nat → Int64} {nz' : Nat} {kp' : Nat → Option Nat} (hI : sp_Inv xs nz FI FJ kp) (hD : sp_HD T g o kd lf th) (hX : sp_XH FI T g o kd lf th) (hM : sp_MH FI T g o kd lf th) (hTd : sp_TD T g tn) (hXT : sp_XT FI g tn) (hMT : sp_MT FI g tn) (hLG : sp_LG g D vs ac gs) (hXL : sp_XL FI 20 D vs ac gs) (hML : sp_ML FI D vs) (fr : ∀ r, r < 45 ∨ 1000000 ≤ r → FI' r = FI r) (frJ : ∀ r, r < 51 → FJ' r = FJ r) (hRK' : sp_RK FI' kp' nz' T g) : sp_Inv xs nz' FI' FJ' kp' := by
  obtain ⟨hS, hO, hA, hB, hC, -⟩ := hI
  have k : ∀ r, r < 45 → FI' r = FI r := fun r hr => fr r (Or.inl hr)
  refine ⟨?_, ?_, ?_, ?_, ?_, T, g, o, kd, lf, th, tn, D, vs, ac, gs, hD, ?_, ?_, hTd, ?_, ?_, hLG, ?_, ?_, hRK'⟩
  · rw [fr 1000002 (by omega)]; exact hS
  · unfold sp_RO at hO ⊢
    rw [fr 1000000 (by omega), fr 1000001 (by omega)]; exact hO
  · unfold sp_RA at hA ⊢
    rw [k 0 (by omega), k 30 (by omega), k 29 (by omega), k 31 (by omega), frJ 0 (by omega), frJ 30 (by omega)]; exact hA
  · unfold sp_RB at hB ⊢
    rw [k 1 (by omega), k 2 (by omega), k 3 (by omega), k 32 (by omega), k 33 (by omega)]; exact hB
  · unfold sp_RC at hC ⊢
    rw [k 4 (by omega), k 5 (by omega), k 6 (by omega), k 35 (by omega), k 36 (by omega)]; exact hC
  · unfold sp_XH at hX ⊢
    rw [k 8 (by omega), k 9 (by omega), k 10 (by omega), k 12 (by omega), k 13 (by omega)]; exact hX
  · unfold sp_MH at hM ⊢
    rw [k 30 (by omega), k 37 (by omega), k 38 (by omega), k 40 (by omega)]; exact hM
  · unfold sp_XT at hXT ⊢
    rw [k 21 (by omega)]; exact hXT
  · unfold sp_MT at hMT ⊢
    rw [k 39 (by omega)]; exact hMT
  · unfold sp_XL at hXL ⊢
    rw [k 20 (by omega), k (20 + 2) (by omega), k (20 + 3) (by omega), k (20 + 4) (by omega)]; exact hXL
  · unfold sp_ML at hML ⊢
    rw [k 30 (by omega), k 43 (by omega), k 44 (by omega)]; exact hML
theorem c5_keep {j : Nat} {x : Int32} {F : Nat → Nat → Int32} (hDe : F 30 24 = nI D) (hD : D ≤ 60) (hg : ¬ F 30 10 = 0) (hx : x = nI j) (hj : j < 3) (h : P (some (.int (nI D))) (hp Ls nz (sp_cq (sp_cq (sp_cq (sr_u (sr_u F 45 j 1) 46 j (nI D)) 47 (5 * j) 39 0 5) 48 (12 * j) 43 0 12) 49 (720 * j) 44 0 (12 * D)) FJ kp)) : sr_Call mX5_keep (d + 1) [.ref 30, .int x] (hp Ls nz F FJ kp) P := by
  have l3 : ∀ k, k ≤ 12 * D → ∀ z : Int32, z = nI k → sr_Go mX5_keep (d + 1) 100 [some (.ref 30), some (.int x), some (.int z)] [] (0, 0) (hp Ls nz (sp_cq (sp_cq (sp_cq (sr_u (sr_u F 45 j 1) 46 j (nI D)) 47 (5 * j) 39 0 5) 48 (12 * j) 43 0 12) 49 (720 * j) 44 0 k) FJ kp) P := by
    refine sp_for (fun z hz => ?_) (fun k hk ih z hz => ?_)
    · refine eX5_keep [100] ?_
      refine sr_ite (c := z < nI 12 * F 30 24) (fun c => absurd c (by rw [hz, hDe, nI_mul]; exact nI_nlt (by omega) (by omega))) (fun c => ?_)
      show P (some (.int (F 30 24))) _
      rw [hDe]; exact h
    · refine eX5_keep [100] ?_
      refine sr_ite (c := z < nI 12 * F 30 24) (fun c => ?_) (fun c => absurd (by rw [hz, hDe, nI_mul]; exact nI_lt hk (by omega)) c)
      refine ⟨k, ⟨hz, show k < 720 by omega⟩, ?_⟩
      refine ⟨720 * j + k, ⟨show nI 720 * x + z = _ by rw [hx, hz, nI_mul, nI_add], show 720 * j + k < 2160 by omega⟩, ?_⟩
      have := ih (z + nI 1) (by rw [hz]; exact nI_1 k)
      rw [← sp_cq_s, Nat.zero_add] at this
      exact this
  have l2 : ∀ k, k ≤ 12 → ∀ z : Int32, z = nI k → sr_Go mX5_keep (d + 1) 69 [some (.ref 30), some (.int x), some (.int z)] [] (0, 0) (hp Ls nz (sp_cq (sp_cq (sr_u (sr_u F 45 j 1) 46 j (nI D)) 47 (5 * j) 39 0 5) 48 (12 * j) 43 0 k) FJ kp) P := by
    refine sp_for (fun z hz => ?_) (fun k hk ih z hz => ?_)
    · refine eX5_keep [69, 100] ?_
      refine sr_ite (c := z < nI 12) (fun c => absurd c (by rw [hz]; exact nI_nlt (by omega) (by omega))) (fun c => ?_)
      have := l3 0 (by omega) _ rfl
      rw [sp_cq_0] at this
      exact this
    · refine eX5_keep [69, 100] ?_
      refine sr_ite (c := z < nI 12) (fun c => ?_) (fun c => absurd (by rw [hz]; exact nI_lt hk (by omega)) c)
      refine ⟨k, ⟨hz, show k < 12 by omega⟩, ?_⟩
      refine ⟨12 * j + k, ⟨show nI 12 * x + z = _ by rw [hx, hz, nI_mul, nI_add], show 12 * j + k < 36 by omega⟩, ?_⟩
      have := ih (z + nI 1) (by rw [hz]; exact nI_1 k)
      rw [← sp_cq_s, Nat.zero_add] at this
      exact this
  have l1 : ∀ k, k ≤ 5 → ∀ z : Int32, z = nI k → sr_Go mX5_keep (d + 1) 40 [some (.ref 30), some (.int x), some (.int z)] [] (0, 0) (hp Ls nz (sp_cq (sr_u (sr_u F 45 j 1) 46 j (nI D)) 47 (5 * j) 39 0 k) FJ kp) P := by
    refine sp_for (fun z hz => ?_) (fun k hk ih z hz => ?_)
    · refine eX5_keep [40, 69] ?_
      refine sr_ite (c := z < nI 5) (fun c => absurd c (by rw [hz]; exact nI_nlt (by omega) (by omega))) (fun c => ?_)
      have := l2 0 (by omega) _ rfl
      rw [sp_cq_0] at this
      exact this
    · refine eX5_keep [40, 69] ?_
      refine sr_ite (c := z < nI 5) (fun c => ?_) (fun c => absurd (by rw [hz]; exact nI_lt hk (by omega)) c)
      refine ⟨k, ⟨hz, show k < 5 by omega⟩, ?_⟩
      refine ⟨5 * j + k, ⟨show nI 5 * x + z = _ by rw [hx, hz, nI_mul, nI_add], show 5 * j + k < 15 by omega⟩, ?_⟩
      have := ih (z + nI 1) (by rw [hz]; exact nI_1 k)
      rw [← sp_cq_s, Nat.zero_add] at this
      exact this
  refine eX5_keep [40] ?_
  refine c5_inN' (b := 3) rfl rfl (by omega) (fun k hk e2 z hz => ?_) (fun c => absurd hx (c j hj))
  refine sr_n1 hz ?_
  refine sr_ite (c := F 30 10 = 0) (fun q => absurd q hg) (fun _ => ?_)
  refine ⟨j, ⟨hx, show j < 3 from hj, Or.inr rfl⟩, ?_⟩
  refine ⟨j, ⟨hx, show j < 3 from hj⟩, ?_⟩
  have := l1 0 (by omega) _ rfl
  rw [sp_cq_0, ← hDe] at this
  exact this
/-- what is kept, after a keep -/
theorem sp_KP_keep {j z D' : Nat} {kp' : Nat → Option Nat} {F : Nat → Nat → Int32} (hg0 : 0 < g) (hg : g ≤ 5) (hTd : sp_TD T g tn) (hXT : sp_XT F g tn) (hMT : sp_MT F g tn) (hLG : sp_LG g D vs ac gs) (hXL : sp_XL F 20 D vs ac gs) (hML : sp_ML F D vs) (hz : z < nz) (hk : kp' j = some (5 * z + 51)) (hj : j < 3) : sp_KP (sp_cq (sp_cq (sp_cq (sr_u (sr_u (sp_tk F (5 * z + 51) 20) 45 j 1) 46 j (nI D)) 47 (5 * j) 39 0 5) 48 (12 * j) 43 0 12) 49 (720 * j) 44 0 (12 * D)) kp' nz T g j := by
  have hAB : 5 * z + 51 + 5 ≤ 20 ∨ 20 + 5 ≤ 5 * z + 51 := Or.inr (by omega)
  have hD60 := hLG.1
  have up : ∀ r, 51 ≤ r → sp_cq (sp_cq (sp_cq (sr_u (sr_u (sp_tk F (5 * z + 51) 20) 45 j 1) 46 j (nI D)) 47 (5 * j) 39 0 5) 48 (12 * j) 43 0 12) 49 (720 * j) 44 0 (12 * D) r = sp_tk F (5 * z + 51) 20 r := by
    intro r hr
    rw [sp_cq_ne (by omega), sp_cq_ne (by omega), sp_cq_ne (by omega), sr_u_row _ _ (by omega), sr_u_row _ _ (by omega)]
  have lo : ∀ r, r < 45 → sr_u (sr_u (sp_tk F (5 * z + 51) 20) 45 j 1) 46 j (nI D) r = F r := by
    intro r hr
    rw [sr_u_row _ _ (by omega), sr_u_row _ _ (by omega), sp_tk_ne (by omega)]
  refine Or.inr ⟨?_, hg0, z, hz, hk, D, vs, ac, gs, tn, hLG, hTd, ?_, ?_, ?_, ?_, ?_, ?_⟩
  · rw [sp_cq_ne (by omega), sp_cq_ne (by omega), sp_cq_ne (by omega), sr_u_row _ _ (by omega), sr_u_same]
  · unfold sp_XL
    rw [up _ (by omega), up _ (by omega), up _ (by omega), up _ (by omega)]
    obtain ⟨x0, x1, x2, x3, x4⟩ := hXL
    refine ⟨?_, ?_, ?_, fun i hi => ⟨?_, ?_⟩, fun e he => ⟨?_, ?_⟩⟩
    · rw [sp_tk_0 hAB (by omega)]; exact x0
    · rw [sp_tk_0 hAB (by omega)]; exact x1
    · rw [sp_tk_0 hAB (by omega)]; exact x2
    · rw [sp_tk_2 hAB (by omega)]; exact (x3 i hi).1
    · rw [sp_tk_2 hAB (by omega)]; exact (x3 i hi).2
    · rw [sp_tk_3 hAB (by omega)]; exact (x4 e he).1
    · rw [sp_tk_4 hAB (by omega)]; exact (x4 e he).2
  · intro i hi
    rw [up _ (by omega), sp_tk_1 hAB (by omega)]; exact hXT i hi
  · rw [sp_cq_ne (by omega), sp_cq_ne (by omega), sp_cq_ne (by omega), sr_u_same]
  · intro i hi
    rw [sp_cq_ne (by omega), sp_cq_ne (by omega), sp_cq_at (by omega), lo 39 (by omega), Nat.zero_add]; exact hMT i hi
  · intro i hi
    rw [sp_cq_ne (by omega), sp_cq_at (by omega), sp_cq_ne (by omega), lo 43 (by omega), Nat.zero_add]; exact hML.2.1 i hi
  · intro e he k hk
    rw [sp_cq_at (by omega), sp_cq_ne (by omega), sp_cq_ne (by omega), lo 44 (by omega), Nat.zero_add]; exact hML.2.2 e he k hk
theorem sp_KP_other {i j z nz' D' : Nat} {kp' : Nat → Option Nat} {F F0 : Nat → Nat → Int32} (hg5 : g ≤ 5) (hnz : nz ≤ nz') (hij : i ≠ j) (hi : i < 3) (hj : j < 3) (hkk : kp' i = kp i) (hA : ∀ z', kp i = some (5 * z' + 51) → z' < nz → z' ≠ z ∧ ∀ m, m < 5 → F (5 * z' + 51 + m) = F0 (5 * z' + 51 + m)) (f45 : F 45 = F0 45) (f46 : F 46 = F0 46) (f47 : F 47 = F0 47) (f48 : F 48 = F0 48) (f49 : F 49 = F0 49) (hD : D' ≤ 60) (hK : sp_KP F0 kp nz T g i) : sp_KP (sp_cq (sp_cq (sp_cq (sr_u (sr_u (sp_tk F (5 * z + 51) 20) 45 j 1) 46 j (nI D')) 47 (5 * j) 39 0 5) 48 (12 * j) 43 0 12) 49 (720 * j) 44 0 (12 * D')) kp' nz' T g i := by
  have up : ∀ r, 51 ≤ r → sp_cq (sp_cq (sp_cq (sr_u (sr_u (sp_tk F (5 * z + 51) 20) 45 j 1) 46 j (nI D')) 47 (5 * j) 39 0 5) 48 (12 * j) 43 0 12) 49 (720 * j) 44 0 (12 * D') r = sp_tk F (5 * z + 51) 20 r := by
    intro r hr
    rw [sp_cq_ne (by omega), sp_cq_ne (by omega), sp_cq_ne (by omega), sr_u_row _ _ (by omega), sr_u_row _ _ (by omega)]
  have mid : ∀ r, 45 ≤ r → r < 51 → sp_tk F (5 * z + 51) 20 r = F r := fun r h1 h2 => sp_tk_ne (by omega)
  have e45 : sp_cq (sp_cq (sp_cq (sr_u (sr_u (sp_tk F (5 * z + 51) 20) 45 j 1) 46 j (nI D')) 47 (5 * j) 39 0 5) 48 (12 * j) 43 0 12) 49 (720 * j) 44 0 (12 * D') 45 i = F0 45 i := by
    rw [sp_cq_ne (by omega), sp_cq_ne (by omega), sp_cq_ne (by omega), sr_u_row _ _ (by omega), sr_u_ne _ _ hij, mid 45 (by omega) (by omega), f45]
  rcases hK with ⟨e, hk⟩ | ⟨e, hg, z', hz', hk, D, vs, ac, gs, tn, hLG, hTD, hXL, hXT, r1, r2, r3, r4⟩
  · refine Or.inl ⟨by rw [e45]; exact e, ?_⟩
    rw [hkk]
    refine hk.imp id (fun ⟨z', hz', q1, q2⟩ => ⟨z', by omega, q1, ?_⟩)
    obtain ⟨a1, a2⟩ := hA z' q1 hz'
    have := a2 0 (by omega)
    rw [Nat.add_zero] at this
    rw [up _ (by omega), sp_tk_ne (by omega), this]
    exact q2
  · obtain ⟨a1, a2⟩ := hA z' hk hz'
    have nd : ∀ m, m < 5 → sp_cq (sp_cq (sp_cq (sr_u (sr_u (sp_tk F (5 * z + 51) 20) 45 j 1) 46 j (nI D')) 47 (5 * j) 39 0 5) 48 (12 * j) 43 0 12) 49 (720 * j) 44 0 (12 * D') (5 * z' + 51 + m) = F0 (5 * z' + 51 + m) := by
      intro m hm
      rw [up _ (by omega), sp_tk_ne (by omega), a2 m hm]
    have hD60 := hLG.1
    refine Or.inr ⟨by rw [e45]; exact e, hg, z', by omega, by rw [hkk]; exact hk, D, vs, ac, gs, tn, hLG, hTD, ?_, ?_, ?_, ?_, ?_, ?_⟩
    · unfold sp_XL at hXL ⊢
      have n0 := nd 0 (by omega)
      rw [Nat.add_zero] at n0
      rw [n0, nd 2 (by omega), nd 3 (by omega), nd 4 (by omega)]
      exact hXL
    · rw [nd 1 (by omega)]; exact hXT
    · rw [sp_cq_ne (by omega), sp_cq_ne (by omega), sp_cq_ne (by omega), sr_u_ne _ _ hij, sr_u_row _ _ (by omega), mid 46 (by omega) (by omega), f46]
      exact r1
    · intro m hm
      rw [sp_cq_ne (by omega), sp_cq_ne (by omega), sp_cq_out (by omega), sr_u_row _ _ (by omega), sr_u_row _ _ (by omega), mid 47 (by omega) (by omega), f47]
      exact r2 m hm
    · intro m hm
      rw [sp_cq_ne (by omega), sp_cq_out (by omega), sp_cq_ne (by omega), sr_u_row _ _ (by omega), sr_u_row _ _ (by omega), mid 48 (by omega) (by omega), f48]
      exact r3 m hm
    · intro e he m hm
      rw [sp_cq_out (by omega), sp_cq_ne (by omega), sp_cq_ne (by omega), sr_u_row _ _ (by omega), sr_u_row _ _ (by omega), mid 49 (by omega) (by omega), f49]
      exact r4 e he m hm
theorem sp_KPz {j : Nat} (h : sp_KP FI kp nz T g j) : kp j = none ∨ ∃ z, z < nz ∧ kp j = some (5 * z + 51) := by
  rcases h with ⟨e, hk | ⟨z, hz, hk, hf⟩⟩ | ⟨e, hg, z, hz, hk, hr⟩
  · exact Or.inl hk
  · exact Or.inr ⟨z, hz, hk⟩
  · exact Or.inr ⟨z, hz, hk⟩
theorem c4_keep46 {j z : Nat} {x : Int32} {b : Nat × Nat} (hx : x = nI j) (hj : j < 3) (hz : z < nz) (hn : nz ≤ 3) (hk : kp j = some (5 * z + 51)) (h : P (some (.int (FI 20 0))) (hp Ls nz (sp_tk FI (5 * z + 51) 20) FJ kp)) : sr_Go mX4_keep (d + 2) 46 [some (.ref 0), some (.int x)] [] b (hp Ls nz FI FJ kp) P := by
  refine eX4_keep [] ?_
  refine ⟨j, ⟨hx, hj⟩, ?_⟩
  change sr_wq _ _ _ _ _ _ (va_rf (kp j) :: []) _ _ _
  rw [hk]
  refine sr_cnd (sr_and (sr_and (sr_and (ng_is hn (Or.inr ⟨z, hz, rfl⟩)) rfl) rfl) rfl) ?_
  refine c1_takeOver1 hz hn ?_
  show P (some (.int (sp_tk FI (5 * z + 51) 20 20 0))) _
  rw [sp_tk_ne (by omega)]
  exact h
theorem q_keep {b : Int32} (hI : sp_Inv xs nz FI FJ kp) : sp_two (sp_I Ls xs) mX4_keep mX5_keep (d + 4) [.int b] (hp Ls nz FI FJ kp) := by
  obtain ⟨hS, hO, hA, hB, hC, T, g, o, kd, lf, th, tn, D, vs, ac, gs, hD, hX, hM, hTd, hXT, hMT, hLG, hXL, hML, hRK⟩ := id hI
  have hg := hD.1
  have hD60 := hLG.1
  have bad : (∀ i, i < 3 → b ≠ nI i) → sr_Call mX5_keep (d + 4) [.ref 30, .int b] (hp Ls nz FI FJ kp) (fun v2 h2 => v2 = some (.int (sr_k (-1))) ∧ sp_I Ls xs h2) := by
    intro hb
    refine eX5_keep [40] ?_
    refine c5_inN' (b := 3) rfl rfl (by omega) (fun k hk e2 => absurd e2 (hb k hk)) (fun c z hz => ?_)
    refine sr_n0 hz ?_
    exact ⟨rfl, .of hI⟩
  refine eX4_keep [24] ?_
  refine sr_ite (c := b < 0) (fun c => ?_) (fun c1 => ?_)
  · exact bad (fun i hi q => by rw [q] at c; exact nI_pos (by omega) c)
  refine sr_ite (c := b < nI 3) (fun c2 => ?_) (fun c2 => ?_)
  · obtain ⟨j, hj, e⟩ := nI_ltN (by omega) c1 c2
    refine sr_ite (c := FI 8 1 = 0) (fun c => ?_) (fun c => ?_)
    · rw [hX.2.1] at c
      refine eX5_keep [40] ?_
      refine c5_inN' (b := 3) rfl rfl (by omega) (fun k hk e2 z hz => ?_) (fun c => absurd e (c j hj))
      refine sr_n1 hz ?_
      refine sr_ite (c := FI 30 10 = 0) (fun c2 => ?_) (fun c2 => absurd (by rw [hM.2.1]; exact c) c2)
      exact ⟨rfl, .of hI⟩
    · rw [hX.2.1] at c
      have hg0 : 0 < g := by
        rcases Nat.eq_zero_or_pos g with q | q
        · subst q; exact absurd rfl c
        · exact q
      rcases sp_KPz (hRK.2.2 j hj) with hk | ⟨z, hz, hk⟩
      · have hn : nz ≤ 2 := by
          have h1 := hRK.1
          have h2 : 1 ≤ sp_nn kp := by
            unfold sp_nn
            rcases (show j = 0 ∨ j = 1 ∨ j = 2 by omega) with rfl | rfl | rfl
            · rw [if_pos hk]; omega
            · rw [if_pos hk]; omega
            · rw [if_pos hk]; omega
          omega
        refine c4_keepNew hn e hj hk ?_
        have hfr : ∀ r, r < 51 ∨ 1000000 ≤ r → sp_F5 FI (51 + 5 * nz) r = FI r := fun r hr => sp_F5_ne (by omega)
        refine c4_keep46 (z := nz) e hj (by omega) (by omega) (if_pos rfl) ?_
        have F30 : sp_tk (sp_F5 FI (51 + 5 * nz)) (5 * nz + 51) 20 30 = FI 30 := by rw [sp_tk_ne (by omega), hfr 30 (by omega)]
        refine c5_keep (by rw [F30]; exact hML.1) hD60 (by rw [F30, hM.2.1]; exact nI_ne0 hg0 (by omega)) e hj ?_
        refine ⟨by show some (Value.int (nI D)) = some (Value.int (sp_F5 FI (51 + 5 * nz) 20 0)); rw [hfr 20 (by omega), hXL.1], .of ?_⟩
        refine sp_Inv_rows hI hD hX hM hTd hXT hMT hLG hXL hML (fun r hr => ?_) (fun r hr => sp_J5_ne (by omega)) ⟨?_, ?_, fun i hi => ?_⟩
        · rw [sp_cq_ne (by omega), sp_cq_ne (by omega), sp_cq_ne (by omega), sr_u_row _ _ (by omega), sr_u_row _ _ (by omega), sp_tk_ne (by omega), hfr r (by omega)]
        · have h1 := hRK.1
          unfold sp_nn at h1 ⊢
          rcases (show j = 0 ∨ j = 1 ∨ j = 2 by omega) with rfl | rfl | rfl
          · rw [hk] at h1
            simp at h1 ⊢
            omega
          · rw [hk] at h1
            simp at h1 ⊢
            omega
          · rw [hk] at h1
            simp at h1 ⊢
            omega
        · intro i1 i2 hi1 hi2 hne heq
          have heq : (if i1 = j then some (5 * nz + 51) else kp i1) = (if i2 = j then some (5 * nz + 51) else kp i2) := heq
          show (if i1 = j then some (5 * nz + 51) else kp i1) = none
          by_cases q1 : i1 = j
          · exfalso
            rw [if_pos q1, if_neg (by omega)] at heq
            rcases sp_KPz (hRK.2.2 i2 hi2) with q | ⟨z', hz', q⟩
            · rw [q] at heq; exact absurd heq (by simp)
            · rw [q] at heq
              have := Option.some.inj heq
              omega
          · rw [if_neg q1] at heq ⊢
            by_cases q2 : i2 = j
            · exfalso
              rw [if_pos q2] at heq
              rcases sp_KPz (hRK.2.2 i1 hi1) with q | ⟨z', hz', q⟩
              · rw [q] at heq; exact absurd heq (by simp)
              · rw [q] at heq
                have := Option.some.inj heq
                omega
            · rw [if_neg q2] at heq
              exact hRK.2.1 i1 i2 hi1 hi2 hne heq
        · by_cases q : i = j
          · subst q
            have t1 : sp_XT (sp_F5 FI (51 + 5 * nz)) g tn := by unfold sp_XT; rw [hfr 21 (by omega)]; exact hXT
            have t2 : sp_MT (sp_F5 FI (51 + 5 * nz)) g tn := by unfold sp_MT; rw [hfr 39 (by omega)]; exact hMT
            have t3 : sp_XL (sp_F5 FI (51 + 5 * nz)) 20 D vs ac gs := by unfold sp_XL; rw [hfr 20 (by omega), hfr (20 + 2) (by omega), hfr (20 + 3) (by omega), hfr (20 + 4) (by omega)]; exact hXL
            have t4 : sp_ML (sp_F5 FI (51 + 5 * nz)) D vs := by unfold sp_ML; rw [hfr 30 (by omega), hfr 43 (by omega), hfr 44 (by omega)]; exact hML
            exact sp_KP_keep (D' := D) hg0 hg hTd t1 t2 hLG t3 t4 (by omega) (if_pos rfl) hj
          · refine sp_KP_other (nz := nz) (F0 := FI) hg (by omega) q hi hj (if_neg q) (fun z' hk' hz' => ⟨by omega, fun m hm => sp_F5_ne (by omega)⟩) (hfr 45 (by omega)) (hfr 46 (by omega)) (hfr 47 (by omega)) (hfr 48 (by omega)) (hfr 49 (by omega)) hD60 (hRK.2.2 i hi)
      · have hn : nz ≤ 3 := by have := hRK.1; omega
        have key : sr_Call mX5_keep (d + 4) [.ref 30, .int b] (hp Ls nz (sp_tk FI (5 * z + 51) 20) FJ kp) (fun v2 h2 => v2 = some (.int (FI 20 0)) ∧ sp_I Ls xs h2) := by
          have F30 : sp_tk FI (5 * z + 51) 20 30 = FI 30 := by rw [sp_tk_ne (by omega)]
          refine c5_keep (by rw [F30]; exact hML.1) hD60 (by rw [F30, hM.2.1]; exact nI_ne0 hg0 (by omega)) e hj ?_
          refine ⟨by rw [hXL.1], .of ?_⟩
          refine sp_Inv_rows hI hD hX hM hTd hXT hMT hLG hXL hML (fun r hr => ?_) (fun r hr => rfl) ⟨hRK.1, hRK.2.1, fun i hi => ?_⟩
          · rw [sp_cq_ne (by omega), sp_cq_ne (by omega), sp_cq_ne (by omega), sr_u_row _ _ (by omega), sr_u_row _ _ (by omega), sp_tk_ne (by omega)]
          · by_cases q : i = j
            · subst q
              exact sp_KP_keep (D' := D) hg0 hg hTd hXT hMT hLG hXL hML hz hk hj
            · refine sp_KP_other (nz := nz) (F0 := FI) hg (by omega) q hi hj rfl (fun z' hk' hz' => ⟨?_, fun m hm => rfl⟩) rfl rfl rfl rfl rfl hD60 (hRK.2.2 i hi)
              intro hzz
              subst hzz
              have := hRK.2.1 i j hi hj q (hk'.trans hk.symm)
              rw [hk'] at this
              exact absurd this (by simp)
        refine eX4_keep [46] ?_
        refine ⟨j, ⟨e, hj⟩, ?_⟩
        change sr_wq _ _ _ _ _ _ (va_rf (kp j) :: []) _ _ _
        rw [hk]
        exact c4_keep46 e hj hz hn hk key
  · exact bad (fun i hi q => c2 (by rw [q]; exact nI_lt hi (by omega)))
end ON
