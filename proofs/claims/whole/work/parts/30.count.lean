/-! pairs of calls: count -/
theorem sp_cnt_congr {f f' : Nat → Bool} : ∀ {n : Nat}, (∀ i, i < n → f i = f' i) → sp_cnt f n = sp_cnt f' n
  | 0, _ => rfl
  | n + 1, h => by rw [sp_cnt, sp_cnt, sp_cnt_congr (fun i hi => h i (by omega)), h n (by omega)]
def sp_add (f : Nat → Bool) (s : Int32) : Nat → Int32
  | 0 => s
  | i + 1 => sp_add f s i + (if f i then nI 1 else nI 0)
theorem sp_add_cnt (f : Nat → Bool) : ∀ n, sp_add f (nI 0) n = nI (sp_cnt f n)
  | 0 => rfl
  | n + 1 => by
    rw [sp_add, sp_add_cnt f n, sp_cnt]
    split <;> rw [nI_add]
theorem sp_add_no {f : Nat → Bool} {s : Int32} : ∀ {n}, (∀ i, i < n → f i = false) → sp_add f s n = s
  | 0, _ => rfl
  | n + 1, h => by
    rw [sp_add, sp_add_no (fun i hi => h i (by omega)), h n (by omega)]
    exact Int32.add_zero s
def sp_cts (FI : Nat → Nat → Int32) (T g o : Nat) (kd : Nat → Nat) (D : Nat) (v : Nat → Nat) (w : Nat) : Int32 := match w with
  | 0 => nI g
  | 1 => nI T
  | 2 => nI o
  | 3 => nI D
  | 4 => nI (v 0)
  | 5 => nI (v 1)
  | 6 => nI (sp_cnt (fun i => sp_isK (kd i) 1) g)
  | 7 => nI (sp_cnt (fun k => decide (¬ FI 32 k < 0)) 6)
  | 8 => nI (sp_cnt (fun k => decide (¬ FI 35 k < 0)) 4)
  | _ => nI (sp_cnt (fun k => decide (¬ FI 45 k = 0)) 3)
section CO
variable {Ls nz d T g o D : Nat} {kd lf th tn v : Nat → Nat} {xs : Nat → Int32} {FI : Nat → Nat → Int32} {FJ : Nat → Nat → Int64} {kp : Nat → Option Nat} {P : Option Value → sr_H → Prop} {h9 : sr_H}
theorem sp_neg1 : sr_k (-1) < 0 := by decide +kernel
theorem c4_keptCount (hR : sp_RK FI kp nz T g) (h : P (some (.int (nI (sp_cnt (fun k => decide (¬ FI 45 k = 0)) 3)))) (hp Ls nz FI FJ kp)) : sr_Call mX4_keptCount (d + 1) [.ref 0] (hp Ls nz FI FJ kp) P := by
  have hn : nz ≤ 3 := by have := hR.1; omega
  have loop : ∀ k, k ≤ 3 → ∀ (z s : Int32), z = nI k → s = nI (sp_cnt (fun k => decide (¬ FI 45 k = 0)) k) → sr_Go mX4_keptCount (d + 1) 4 [some (.ref 0), some (.int s), some (.int z)] [] (0, 0) (hp Ls nz FI FJ kp) P := by
    refine sp_for (fun z s hz hs => ?_) (fun k hk ih z s hz hs => ?_)
    · refine eX4_keptCount [4] ?_
      refine sr_ite (c := z < nI 3) (fun c => absurd c (by rw [hz]; exact nI_nlt (by omega) (by omega))) (fun c => ?_)
      rw [hs]; exact h
    · refine eX4_keptCount [4] ?_
      refine sr_ite (c := z < nI 3) (fun c => ?_) (fun c => absurd (by rw [hz]; exact nI_lt hk (by omega)) c)
      refine c4_keptDeeds hn (hR.2.2 k hk) hz hk (fun e => ?_) (fun D e e2 hD => ?_)
      · exact ih _ _ (by rw [hz]; exact nI_1 k) (by rw [hs, sp_cnt, if_neg (by simp [e])]; rfl)
      · refine sr_ite (c := nI D < 0) (fun c => absurd c (nI_pos (by omega))) (fun c => ?_)
        have e9 : ¬ FI 45 k = 0 := by rw [e]; decide
        exact ih _ _ (by rw [hz]; exact nI_1 k) (by rw [hs, sp_cnt, if_pos (by simp [e9])]; exact nI_1 _)
  refine eX4_keptCount [4] ?_
  exact loop 0 (by omega) _ _ rfl rfl
theorem c4_count {w : Nat} {x : Int32} (hD : sp_HD T g o kd lf th) (hX : sp_XH FI T g o kd lf th) (hO : sp_RO FI) (hB : sp_RB FI) (hC : sp_RC FI) (hN : sp_XN FI v) (hDe : FI 20 0 = nI D) (hR : sp_RK FI kp nz T g) (hx : x = nI w) (hw : w < 10) (h : P (some (.int (sp_cts FI T g o kd D v w))) (hp Ls nz FI FJ kp)) : sr_Call mX4_count (d + 2) [.ref 0, .int x] (hp Ls nz FI FJ kp) P := by
  subst hx
  have kc : ∀ u : Nat, u < 10 → nI w = nI u → w = u := fun u hu c => nI_inj (by omega) (by omega) c
  have kn : ∀ u : Nat, ¬ nI w = nI u → w ≠ u := fun u c q => c (by rw [q])
  refine eX4_count [] ?_
  refine sr_ite (c := nI w = nI 0) (fun c => ?_) (fun c0 => ?_)
  · have c := kc 0 (by omega) c
    subst c
    show P (some (.int (FI 8 1))) _
    rw [hX.2.1]; exact h
  refine sr_ite (c := nI w = nI 1) (fun c => ?_) (fun c1 => ?_)
  · have c := kc 1 (by omega) c
    subst c
    show P (some (.int (FI 8 0))) _
    rw [hX.1]; exact h
  refine sr_ite (c := nI w = nI 2) (fun c => ?_) (fun c2 => ?_)
  · have c := kc 2 (by omega) c
    subst c
    show P (some (.int (FI 8 2))) _
    rw [hX.2.2.1]; exact h
  refine sr_ite (c := nI w = nI 3) (fun c => ?_) (fun c3 => ?_)
  · have c := kc 3 (by omega) c
    subst c
    show P (some (.int (FI 20 0))) _
    rw [hDe]; exact h
  refine sr_ite (c := nI w = nI 4) (fun c => ?_) (fun c4 => ?_)
  · have c := kc 4 (by omega) c
    subst c
    show P (some (.int (FI 20 1))) _
    rw [hN.1]; exact h
  refine sr_ite (c := nI w = nI 5) (fun c => ?_) (fun c5 => ?_)
  · have c := kc 5 (by omega) c
    subst c
    show P (some (.int (FI 20 2))) _
    rw [hN.2.1]; exact h
  refine sr_ite (c := nI w = nI 6) (fun c => ?_) (fun c6 => ?_)
  · have c := kc 6 (by omega) c
    subst c
    exact c0_soldiers hD hX hO h
  refine sr_ite (c := nI w = nI 7) (fun c => ?_) (fun c7 => ?_)
  · have c := kc 7 (by omega) c
    subst c
    refine c3r_thereCount ?_
    rw [sp_cnt_congr (f' := fun k => decide (¬ FI 32 k < 0)) (fun i hi => by show decide (¬ FI 2 i < 0) = decide (¬ FI 32 i < 0); rw [(hB.2 i hi).1])]
    exact h
  refine sr_ite (c := nI w = nI 8) (fun c => ?_) (fun c8 => ?_)
  · have c := kc 8 (by omega) c
    subst c
    refine c3t_thereCount ?_
    rw [sp_cnt_congr (f' := fun k => decide (¬ FI 35 k < 0)) (fun i hi => by show decide (¬ FI 5 i < 0) = decide (¬ FI 35 i < 0); rw [(hC.2 i hi).1])]
    exact h
  refine sr_ite (c := nI w = nI 9) (fun c => ?_) (fun c9 => ?_)
  · have c := kc 9 (by omega) c
    subst c
    exact c4_keptCount hR h
  · have c0 := kn 0 c0
    have c1 := kn 1 c1
    have c2 := kn 2 c2
    have c3 := kn 3 c3
    have c4 := kn 4 c4
    have c5 := kn 5 c5
    have c6 := kn 6 c6
    have c7 := kn 7 c7
    have c8 := kn 8 c8
    have c9 := kn 9 c9
    omega
theorem c5_counted {w : Nat} {x : Int32} (hD : sp_HD T g o kd lf th) (hX : sp_MH FI T g o kd lf th) (hN : sp_MN FI v) (hDe : FI 30 24 = nI D) (hx : x = nI w) (hw : w < 10) (h : P (some (.int (sp_cts FI T g o kd D v w))) (hp Ls nz FI FJ kp)) : sr_Call mX5_counted (d + 2) [.ref 30, .int x] (hp Ls nz FI FJ kp) P := by
  subst hx
  have kc : ∀ u : Nat, u < 10 → nI w = nI u → w = u := fun u hu c => nI_inj (by omega) (by omega) c
  have kn : ∀ u : Nat, ¬ nI w = nI u → w ≠ u := fun u c q => c (by rw [q])
  have last : ∀ (s z : Int32), s = sp_add (fun k => decide (w = 9) && decide (¬ FI 45 k = 0)) (sp_add (fun k => decide (w = 8) && decide (¬ FI 35 k < 0)) (sp_add (fun k => decide (w = 7) && decide (¬ FI 32 k < 0)) (nI 0) 6) 4) 3 → sr_Go mX5_counted (d + 2) 111 [some (.ref 30), some (.int (nI w)), some (.int s), some (.int z)] [] (0, 0) (hp Ls nz FI FJ kp) P := by
    intro s z hs
    refine eX5_counted [] ?_
    refine sr_ite (c := nI w = nI 0) (fun c => ?_) (fun c0 => ?_)
    · have c := kc 0 (by omega) c
      subst c
      show P (some (.int (FI 30 10))) _
      rw [hX.2.1]; exact h
    refine sr_ite (c := nI w = nI 1) (fun c => ?_) (fun c1 => ?_)
    · have c := kc 1 (by omega) c
      subst c
      show P (some (.int (FI 30 11))) _
      rw [hX.1]; exact h
    refine sr_ite (c := nI w = nI 2) (fun c => ?_) (fun c2 => ?_)
    · have c := kc 2 (by omega) c
      subst c
      show P (some (.int (FI 30 12))) _
      rw [hX.2.2.1]; exact h
    refine sr_ite (c := nI w = nI 3) (fun c => ?_) (fun c3 => ?_)
    · have c := kc 3 (by omega) c
      subst c
      show P (some (.int (FI 30 24))) _
      rw [hDe]; exact h
    refine sr_ite (c := nI w = nI 4) (fun c => ?_) (fun c4 => ?_)
    · have c := kc 4 (by omega) c
      subst c
      refine ⟨0, ⟨rfl, show 0 < 12 by omega⟩, ?_⟩
      show P (some (.int (FI 43 0))) _
      rw [hN 0 (by omega)]; exact h
    refine sr_ite (c := nI w = nI 5) (fun c => ?_) (fun c5 => ?_)
    · have c := kc 5 (by omega) c
      subst c
      refine ⟨1, ⟨rfl, show 1 < 12 by omega⟩, ?_⟩
      show P (some (.int (FI 43 1))) _
      rw [hN 1 (by omega)]; exact h
    refine sr_ite (c := nI w = nI 6) (fun c => ?_) (fun c6 => ?_)
    · have c := kc 6 (by omega) c
      subst c
      exact c5_soldiers hD hX h
    have c0 := kn 0 c0
    have c1 := kn 1 c1
    have c2 := kn 2 c2
    have c3 := kn 3 c3
    have c4 := kn 4 c4
    have c5 := kn 5 c5
    have c6 := kn 6 c6
    show P (some (.int s)) _
    rw [hs]
    rcases (show w = 7 ∨ w = 8 ∨ w = 9 by omega) with rfl | rfl | rfl
    · rw [sp_add_no (fun i hi => by simp), sp_add_no (fun i hi => by simp), sp_add_cnt]
      exact h
    · rw [sp_add_no (fun i hi => by simp), sp_add_no (n := 6) (fun i hi => by simp), sp_add_cnt]
      exact h
    · rw [sp_add_no (n := 4) (fun i hi => by simp), sp_add_no (n := 6) (fun i hi => by simp), sp_add_cnt]
      exact h
  have l3 : ∀ k, k ≤ 3 → ∀ (z s : Int32), z = nI k → s = sp_add (fun k => decide (w = 9) && decide (¬ FI 45 k = 0)) (sp_add (fun k => decide (w = 8) && decide (¬ FI 35 k < 0)) (sp_add (fun k => decide (w = 7) && decide (¬ FI 32 k < 0)) (nI 0) 6) 4) k → sr_Go mX5_counted (d + 2) 77 [some (.ref 30), some (.int (nI w)), some (.int s), some (.int z)] [] (0, 0) (hp Ls nz FI FJ kp) P := by
    refine sp_for (fun z s hz hs => ?_) (fun k hk ih z s hz hs => ?_)
    · refine eX5_counted [77, 111] ?_
      refine sr_ite (c := z < nI 3) (fun c => absurd c (by rw [hz]; exact nI_nlt (by omega) (by omega))) (fun c => ?_)
      exact last s z hs
    · refine eX5_counted [77, 111] ?_
      refine sr_ite (c := z < nI 3) (fun c => ?_) (fun c => absurd (by rw [hz]; exact nI_lt hk (by omega)) c)
      refine sr_ite (c := nI w = nI 9) (fun c => ?_) (fun c => ?_)
      · have c := kc 9 (by omega) c
        refine ⟨k, ⟨hz, hk⟩, ?_⟩
        refine sr_ite (c := FI 45 k = 0) (fun c2 => ?_) (fun c2 => ?_)
        · exact ih _ _ (by rw [hz]; exact nI_1 k) (by rw [sp_add, hs, if_neg (by simp [c2])]; rfl)
        · exact ih _ _ (by rw [hz]; exact nI_1 k) (by rw [sp_add, hs, if_pos (by simp [c2, c])]; rfl)
      · have c := kn 9 c
        exact ih _ _ (by rw [hz]; exact nI_1 k) (by rw [sp_add, hs, if_neg (by simp [c])]; rfl)
  have l2 : ∀ k, k ≤ 4 → ∀ (z s : Int32), z = nI k → s = sp_add (fun k => decide (w = 8) && decide (¬ FI 35 k < 0)) (sp_add (fun k => decide (w = 7) && decide (¬ FI 32 k < 0)) (nI 0) 6) k → sr_Go mX5_counted (d + 2) 41 [some (.ref 30), some (.int (nI w)), some (.int s), some (.int z)] [] (0, 0) (hp Ls nz FI FJ kp) P := by
    refine sp_for (fun z s hz hs => ?_) (fun k hk ih z s hz hs => ?_)
    · refine eX5_counted [41, 77] ?_
      refine sr_ite (c := z < nI 4) (fun c => absurd c (by rw [hz]; exact nI_nlt (by omega) (by omega))) (fun c => ?_)
      exact l3 0 (by omega) _ _ rfl hs
    · refine eX5_counted [41, 77] ?_
      refine sr_ite (c := z < nI 4) (fun c => ?_) (fun c => absurd (by rw [hz]; exact nI_lt hk (by omega)) c)
      refine sr_ite (c := nI w = nI 8) (fun c => ?_) (fun c => ?_)
      · have c := kc 8 (by omega) c
        refine ⟨k, ⟨hz, hk⟩, ?_⟩
        refine sr_ite (c := FI 35 k < 0) (fun c2 => ?_) (fun c2 => ?_)
        · exact ih _ _ (by rw [hz]; exact nI_1 k) (by rw [sp_add, hs, if_neg (by simp [c2])]; rfl)
        · exact ih _ _ (by rw [hz]; exact nI_1 k) (by rw [sp_add, hs, if_pos (by simp only [c2, c]; rfl)]; rfl)
      · have c := kn 8 c
        exact ih _ _ (by rw [hz]; exact nI_1 k) (by rw [sp_add, hs, if_neg (by simp [c])]; rfl)
  have l1 : ∀ k, k ≤ 6 → ∀ (z s : Int32), z = nI k → s = sp_add (fun k => decide (w = 7) && decide (¬ FI 32 k < 0)) (nI 0) k → sr_Go mX5_counted (d + 2) 4 [some (.ref 30), some (.int (nI w)), some (.int s), some (.int z)] [] (0, 0) (hp Ls nz FI FJ kp) P := by
    refine sp_for (fun z s hz hs => ?_) (fun k hk ih z s hz hs => ?_)
    · refine eX5_counted [4, 41] ?_
      refine sr_ite (c := z < nI 6) (fun c => absurd c (by rw [hz]; exact nI_nlt (by omega) (by omega))) (fun c => ?_)
      exact l2 0 (by omega) _ _ rfl hs
    · refine eX5_counted [4, 41] ?_
      refine sr_ite (c := z < nI 6) (fun c => ?_) (fun c => absurd (by rw [hz]; exact nI_lt hk (by omega)) c)
      refine sr_ite (c := nI w = nI 7) (fun c => ?_) (fun c => ?_)
      · have c := kc 7 (by omega) c
        refine ⟨k, ⟨hz, hk⟩, ?_⟩
        refine sr_ite (c := FI 32 k < 0) (fun c2 => ?_) (fun c2 => ?_)
        · exact ih _ _ (by rw [hz]; exact nI_1 k) (by rw [sp_add, hs, if_neg (by simp [c2])]; rfl)
        · exact ih _ _ (by rw [hz]; exact nI_1 k) (by rw [sp_add, hs, if_pos (by simp only [c2, c]; rfl)]; rfl)
      · have c := kn 7 c
        exact ih _ _ (by rw [hz]; exact nI_1 k) (by rw [sp_add, hs, if_neg (by simp [c])]; rfl)
  refine eX5_counted [4] ?_
  exact l1 0 (by omega) _ _ rfl rfl
theorem q_count {a : Int32} (hI : sp_Inv xs nz FI FJ kp) : sp_two (sp_I Ls xs) mX4_count mX5_count (d + 4) [.int a] (hp Ls nz FI FJ kp) := by
  obtain ⟨hS, hO, hA, hB, hC, T, g, o, kd, lf, th, tn, D, vs, ac, gs, hD, hX, hM, hTd, hXT, hMT, hLG, hXL, hML, hRK⟩ := id hI
  refine sp_rng (x := a) (b := 10) (by omega) (fun w hw e => ?_) (fun c => ?_)
  · refine c4_count hD hX hO hB hC (sp_XNof hXL) hXL.1 hRK e hw ?_
    refine eX5_count [] ?_
    refine c5_inN' (b := 10) rfl rfl (by omega) (fun k hk e2 z hz => ?_) (fun c => absurd e (c w hw))
    refine sr_n1 hz ?_
    refine c5_counted hD hM hML.2.1 hML.1 e hw ?_
    exact ⟨rfl, .of hI⟩
  · have n : ∀ u, u < 10 → ¬ a = nI u := c
    refine eX4_count [] ?_
    refine sr_ite (c := a = nI 0) (fun q => absurd q (n 0 (by omega))) (fun _ => ?_)
    refine sr_ite (c := a = nI 1) (fun q => absurd q (n 1 (by omega))) (fun _ => ?_)
    refine sr_ite (c := a = nI 2) (fun q => absurd q (n 2 (by omega))) (fun _ => ?_)
    refine sr_ite (c := a = nI 3) (fun q => absurd q (n 3 (by omega))) (fun _ => ?_)
    refine sr_ite (c := a = nI 4) (fun q => absurd q (n 4 (by omega))) (fun _ => ?_)
    refine sr_ite (c := a = nI 5) (fun q => absurd q (n 5 (by omega))) (fun _ => ?_)
    refine sr_ite (c := a = nI 6) (fun q => absurd q (n 6 (by omega))) (fun _ => ?_)
    refine sr_ite (c := a = nI 7) (fun q => absurd q (n 7 (by omega))) (fun _ => ?_)
    refine sr_ite (c := a = nI 8) (fun q => absurd q (n 8 (by omega))) (fun _ => ?_)
    refine sr_ite (c := a = nI 9) (fun q => absurd q (n 9 (by omega))) (fun _ => ?_)
    refine eX5_count [] ?_
    refine c5_inN' (b := 10) rfl rfl (by omega) (fun k hk e2 => absurd e2 (c k hk)) (fun c z hz => ?_)
    refine sr_n0 hz ?_
    exact ⟨rfl, .of hI⟩
end CO
