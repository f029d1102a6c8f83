/-! pairs of calls: hotel -/
section HT
variable {Ls nz d T g o D t N p : Nat} {b : Nat → Int32} {kd lf ft th tn : Nat → Nat} {vs : Nat → Nat → Nat} {ac gs : Nat → Nat} {xs : Nat → Int32} {FI F : Nat → Nat → Int32} {FJ : Nat → Nat → Int64} {kp : Nat → Option Nat} {P : Option Value → sr_H → Prop} {h9 : sr_H}
theorem c0_addGuest8 {x y z : Int32} (hg : F 8 1 = nI g) (hg5 : g < 5) (h : P none (hp Ls nz (sr_u (sr_u (sr_u (sr_u F 9 g x) 10 g y) 11 g z) 8 1 (nI (g + 1))) FJ kp)) : sr_Call mX0_addGuest d [.ref 8, .int x, .int y, .int z] (hp Ls nz F FJ kp) P := by
  refine eX0_addGuest [] ?_
  refine sr_ite (c := F 8 1 < nI 5) (fun _ => ?_) (fun c => absurd (by rw [hg]; exact nI_lt hg5 (by omega)) c)
  refine ⟨g, ⟨hg, show g < 5 from hg5⟩, ⟨g, ⟨hg, show g < 5 from hg5⟩, ⟨g, ⟨hg, show g < 5 from hg5⟩, ?_⟩⟩⟩
  have e : F 8 1 + nI 1 = nI (g + 1) := by rw [hg, nI_add]
  rw [← e] at h
  exact h
theorem c0_addThing8 {x y : Int32} (ho : F 8 2 = nI o) (ho8 : o < 8) (h : P none (hp Ls nz (sr_u (sr_u (sr_u F 12 o x) 13 o y) 8 2 (nI (o + 1))) FJ kp)) : sr_Call mX0_addThing d [.ref 8, .int x, .int y] (hp Ls nz F FJ kp) P := by
  refine eX0_addThing [] ?_
  refine sr_ite (c := F 8 2 < nI 8) (fun _ => ?_) (fun c => absurd (by rw [ho]; exact nI_lt ho8 (by omega)) c)
  refine ⟨o, ⟨ho, show o < 8 from ho8⟩, ⟨o, ⟨ho, show o < 8 from ho8⟩, ?_⟩⟩
  have e : F 8 2 + nI 1 = nI (o + 1) := by rw [ho, nI_add]
  rw [← e] at h
  exact h
/-- on the way of taking over -/
def sp_TO (F F' : Nat → Nat → Int32) (T i j : Nat) (kd lf ft th : Nat → Nat) : Prop := (∀ r, (r < 8 ∨ 13 < r) → F' r = F r) ∧ F' 8 0 = nI T ∧ F' 8 1 = nI i ∧ F' 8 2 = nI j ∧ (∀ k, k < i → F' 9 k = nI (kd k) ∧ F' 10 k = nI (lf k) ∧ F' 11 k = nI (ft k)) ∧ ∀ i, i < j → F' 12 i = nI (sp_on (th (4 * i)) (th (4 * i + 1)) (th (4 * i + 2)) (th (4 * i + 3))) ∧ F' 13 i = nI (sp_no (th (4 * i)) (th (4 * i + 1)) (th (4 * i + 2)) (th (4 * i + 3)))
theorem c0_takeOver (hP : sp_PD T g o kd lf ft th) (hX : sp_XD F T g o kd lf ft th) (h : ∀ F', sp_TO F F' T g o kd lf ft th → P none (hp Ls nz F' FJ kp)) : sr_Call mX0_takeOver (d + 1) [.ref 8, .ref 14] (hp Ls nz F FJ kp) P := by
  have hg := hP.1
  have ho := hP.2.1
  have l2 : ∀ j, j ≤ o → ∀ (z : Int32) F', z = nI j → sp_TO F F' T g j kd lf ft th → sr_Go mX0_takeOver (d + 1) 52 [some (.ref 8), some (.ref 14), some (.int z)] [] (0, 0) (hp Ls nz F' FJ kp) P := by
    refine sp_for (fun z F' hz hq => ?_) (fun j hj ih z F' hz hq => ?_)
    · refine eX0_takeOver [52] ?_
      refine sr_ite (c := z < F' 14 2) (fun c => absurd c (by rw [hz, hq.1 14 (by omega), hX.2.2.1]; exact nI_nlt (by omega) (by omega))) (fun c => ?_)
      exact h F' hq
    · refine eX0_takeOver [52] ?_
      refine sr_ite (c := z < F' 14 2) (fun c => ?_) (fun c => absurd (by rw [hz, hq.1 14 (by omega), hX.2.2.1]; exact nI_lt hj (by omega)) c)
      refine ⟨j, ⟨hz, show j < 8 by omega⟩, ⟨j, ⟨hz, show j < 8 by omega⟩, ?_⟩⟩
      obtain ⟨q1, q2, q3, q4, q5, q6⟩ := hq
      refine c0_addThing8 q4 (by omega) ?_
      refine ih _ _ (by rw [hz]; exact nI_1 j) ⟨fun r hr => ?_, q2, q3, rfl, q5, fun i hi => ?_⟩
      · rw [sr_u_row _ _ (by omega), sr_u_row _ _ (by omega), sr_u_row _ _ (by omega)]; exact q1 r hr
      · show sr_u F' 12 j (F' 18 j) 12 i = _ ∧ sr_u F' 13 j (F' 19 j) 13 i = _
        by_cases c : i = j
        · subst c
          rw [sr_u_same, sr_u_same, q1 18 (by omega), q1 19 (by omega)]
          exact hX.2.2.2.2 i hj
        · rw [sr_u_ne _ _ c, sr_u_ne _ _ c]; exact q6 i (by omega)
  have l1 : ∀ j, j ≤ g → ∀ (z : Int32) F', z = nI j → sp_TO F F' T j 0 kd lf ft th → sr_Go mX0_takeOver (d + 1) 14 [some (.ref 8), some (.ref 14), some (.int z)] [] (0, 0) (hp Ls nz F' FJ kp) P := by
    refine sp_for (fun z F' hz hq => ?_) (fun j hj ih z F' hz hq => ?_)
    · refine eX0_takeOver [14, 52] ?_
      refine sr_ite (c := z < F' 14 1) (fun c => absurd c (by rw [hz, hq.1 14 (by omega), hX.2.1]; exact nI_nlt (by omega) (by omega))) (fun c => ?_)
      exact l2 0 (by omega) _ F' rfl hq
    · refine eX0_takeOver [14, 52] ?_
      refine sr_ite (c := z < F' 14 1) (fun c => ?_) (fun c => absurd (by rw [hz, hq.1 14 (by omega), hX.2.1]; exact nI_lt hj (by omega)) c)
      refine ⟨j, ⟨hz, show j < 5 by omega⟩, ⟨j, ⟨hz, show j < 5 by omega⟩, ⟨j, ⟨hz, show j < 5 by omega⟩, ?_⟩⟩⟩
      obtain ⟨q1, q2, q3, q4, q5, q6⟩ := hq
      refine c0_addGuest8 q3 (by omega) ?_
      refine ih _ _ (by rw [hz]; exact nI_1 j) ⟨fun r hr => ?_, q2, rfl, q4, fun i hi => ?_, fun i hi => absurd hi (by omega)⟩
      · rw [sr_u_row _ _ (by omega), sr_u_row _ _ (by omega), sr_u_row _ _ (by omega), sr_u_row _ _ (by omega)]; exact q1 r hr
      · show sr_u F' 9 j (F' 15 j) 9 i = _ ∧ sr_u F' 10 j (F' 16 j) 10 i = _ ∧ sr_u F' 11 j (F' 17 j) 11 i = _
        by_cases c : i = j
        · subst c
          rw [sr_u_same, sr_u_same, sr_u_same, q1 15 (by omega), q1 16 (by omega), q1 17 (by omega)]
          exact hX.2.2.2.1 i hj
        · rw [sr_u_ne _ _ c, sr_u_ne _ _ c, sr_u_ne _ _ c]; exact q5 i (by omega)
  refine eX0_takeOver [14] ?_
  refine eX0_clear [] ?_
  refine l1 0 (by omega) _ (sr_u (sr_u (sr_u (sr_u F 8 0 (nI 0)) 8 1 (nI 0)) 8 2 (nI 0)) 8 0 (F 14 0)) rfl ⟨fun r hr => ?_, hX.1, rfl, rfl, fun i hi => absurd hi (by omega), fun i hi => absurd hi (by omega)⟩
  rw [sr_u_row _ _ (by omega), sr_u_row _ _ (by omega), sr_u_row _ _ (by omega), sr_u_row _ _ (by omega)]
theorem c1_begin (h : ∀ F', (∀ r, (r < 20 ∨ 22 < r) → F' r = F r) → F' 20 0 = 0 → F' 20 1 = 0 → F' 20 2 = 0 → (∀ i, i < 5 → F' 21 i = F 11 i) → (∀ i, i < 5 → F' 22 (2 * i) = 0 ∧ F' 22 (2 * i + 1) = 0) → P none (hp Ls nz F' FJ kp)) : sr_Call mX1_begin d [.ref 20, .ref 8] (hp Ls nz F FJ kp) P := by
  have l1 : ∀ j, j ≤ 5 → ∀ (z : Int32) F', z = nI j → (∀ r, (r < 20 ∨ 22 < r) → F' r = F r) → F' 20 0 = 0 → F' 20 1 = 0 → F' 20 2 = 0 → (∀ i, i < j → F' 21 i = F 11 i) → (∀ i, i < j → F' 22 (2 * i) = 0 ∧ F' 22 (2 * i + 1) = 0) → sr_Go mX1_begin d 17 [some (.ref 20), some (.ref 8), some (.int z)] [] (0, 0) (hp Ls nz F' FJ kp) P := by
    refine sp_for (fun z F' hz q1 q2 q3 q4 q5 q6 => ?_) (fun j hj ih z F' hz q1 q2 q3 q4 q5 q6 => ?_)
    · refine eX1_begin [17] ?_
      refine sr_ite (c := z < nI 5) (fun c => absurd c (by rw [hz]; exact nI_nlt (by omega) (by omega))) (fun c => ?_)
      exact h F' q1 q2 q3 q4 q5 q6
    · refine eX1_begin [17] ?_
      refine sr_ite (c := z < nI 5) (fun c => ?_) (fun c => absurd (by rw [hz]; exact nI_lt hj (by omega)) c)
      refine ⟨j, ⟨hz, show j < 5 by omega⟩, ⟨j, ⟨hz, show j < 5 by omega⟩, ⟨2 * j, ⟨show nI 2 * z = _ by rw [hz, nI_mul], show 2 * j < 10 by omega⟩, ⟨2 * j + 1, ⟨show nI 2 * z + nI 1 = _ by rw [hz, nI_mul, nI_add], show 2 * j + 1 < 10 by omega⟩, ?_⟩⟩⟩⟩
      refine ih _ (sr_u (sr_u (sr_u F' 21 j (F' 11 j)) 22 (2 * j) 0) 22 (2 * j + 1) 0) (by rw [hz]; exact nI_1 j) (fun r hr => ?_) q2 q3 q4 (fun i hi => ?_) (fun i hi => ?_)
      · rw [sr_u_row _ _ (by omega), sr_u_row _ _ (by omega), sr_u_row _ _ (by omega)]; exact q1 r hr
      · show sr_u F' 21 j (F' 11 j) 21 i = _
        by_cases c : i = j
        · subst c
          rw [sr_u_same, q1 11 (by omega)]
        · rw [sr_u_ne _ _ c]; exact q5 i (by omega)
      · show sr_u (sr_u F' 22 (2 * j) 0) 22 (2 * j + 1) 0 22 (2 * i) = _ ∧ sr_u (sr_u F' 22 (2 * j) 0) 22 (2 * j + 1) 0 22 (2 * i + 1) = _
        by_cases c : i = j
        · subst c
          rw [sr_u_same, sr_u_ne _ _ (by omega), sr_u_same]
          exact ⟨rfl, rfl⟩
        · rw [sr_u_ne _ _ (by omega), sr_u_ne _ _ (by omega), sr_u_ne _ _ (by omega), sr_u_ne _ _ (by omega)]; exact q6 i (by omega)
  refine eX1_begin [17] ?_
  refine l1 0 (by omega) _ (sr_u (sr_u (sr_u F 20 0 (nI 0)) 20 1 (nI 0)) 20 2 (nI 0)) rfl (fun r hr => ?_) rfl rfl rfl (fun i hi => absurd hi (by omega)) (fun i hi => absurd hi (by omega))
  rw [sr_u_row _ _ (by omega), sr_u_row _ _ (by omega), sr_u_row _ _ (by omega)]
theorem c1_forget {M : Nat} (hn : nz ≤ 3) (hN : sp_ng nz M) (h : P none (hp Ls nz (sr_u F M 0 (-1)) FJ kp)) : sr_Call mX1_forget d [.ref M] (hp Ls nz F FJ kp) P := by
  refine eX1_forget [] ?_
  refine sr_cnd (sr_and (ng_is hn hN) rfl) ?_
  exact h
theorem c4_forgetKept (hn : nz ≤ 3) (hK : ∀ j, j < 3 → kp j = none ∨ ∃ z, z < nz ∧ kp j = some (5 * z + 51)) (h : ∀ F', (∀ r, (r < 51 ∨ 1000000 ≤ r) → F' r = F r) → (∀ j z, j < 3 → kp j = some (5 * z + 51) → F' (5 * z + 51) 0 = -1) → P none (hp Ls nz F' FJ kp)) : sr_Call mX4_forgetKept (d + 1) [.ref 0] (hp Ls nz F FJ kp) P := by
  have l1 : ∀ j, j ≤ 3 → ∀ (z : Int32) F', z = nI j → (∀ r, (r < 51 ∨ 1000000 ≤ r) → F' r = F r) → (∀ i z, i < j → kp i = some (5 * z + 51) → F' (5 * z + 51) 0 = -1) → sr_Go mX4_forgetKept (d + 1) 2 [some (.ref 0), some (.int z)] [] (0, 0) (hp Ls nz F' FJ kp) P := by
    refine sp_for (fun z F' hz q1 q2 => ?_) (fun j hj ih z F' hz q1 q2 => ?_)
    · refine eX4_forgetKept [2] ?_
      refine sr_ite (c := z < nI 3) (fun c => absurd c (by rw [hz]; exact nI_nlt (by omega) (by omega))) (fun c => ?_)
      exact h F' q1 q2
    · refine eX4_forgetKept [2] ?_
      refine sr_ite (c := z < nI 3) (fun c => ?_) (fun c => absurd (by rw [hz]; exact nI_lt hj (by omega)) c)
      refine ⟨j, ⟨hz, hj⟩, ?_⟩
      change sr_wq _ _ _ _ _ _ (va_rf (kp j) :: []) _ _ _
      rcases hK j hj with hk | ⟨y, hy, hk⟩
      · rw [hk]
        exact ih (z + nI 1) F' (by rw [hz]; exact nI_1 j) q1 (fun i w hi e => by
          by_cases c : i = j
          · subst c; rw [hk] at e; exact absurd e (by simp)
          · exact q2 i w (by omega) e)
      · rw [hk]
        refine ⟨j, ⟨hz, hj⟩, ?_⟩
        change sr_wq _ _ _ _ _ _ (va_rf (kp j) :: []) _ _ _
        rw [hk]
        refine sr_cnd (sr_and (sr_and (sr_and (ng_is hn (Or.inr ⟨y, hy, rfl⟩)) rfl) rfl) rfl) ?_
        refine c1_forget hn (Or.inr ⟨y, hy, rfl⟩) ?_
        refine ih (z + nI 1) (sr_u F' (5 * y + 51) 0 (-1)) (by rw [hz]; exact nI_1 j) (fun r hr => ?_) (fun i w hi e => ?_)
        · rw [sr_u_row _ _ (by omega)]; exact q1 r hr
        · by_cases c : i = j
          · subst c
            rw [hk] at e
            have : 5 * y + 51 = 5 * w + 51 := Option.some.inj e
            rw [this, sr_u_same]
          · have := q2 i w (by omega) e
            by_cases c2 : w = y
            · subst c2; rw [sr_u_same]
            · rw [sr_u_row _ _ (by omega)]; exact this
  refine eX4_forgetKept [2] ?_
  exact l1 0 (by omega) _ F rfl (fun r hr => rfl) (fun i z hi => absurd hi (by omega))
/-- the reference's end of a hotel: what it copies -/
theorem c5_hotel63 {a : Int32} {F : Nat → Nat → Int32} (hP : sp_PD T g o kd lf ft th) (hX : sp_MD F T g o kd lf ft th) (e1 : F 30 10 = nI g) (e2 : F 30 11 = nI T) (e3 : F 30 12 = nI o) (h : ∀ F', (∀ r, r < 37 ∨ (40 < r ∧ r ≠ 43 ∧ r ≠ 45) → r ≠ 30 → F' r = F r) → (∀ k, k ≠ 24 → F' 30 k = F 30 k) → F' 30 24 = 0 → (∀ i, i < g → F' 37 i = nI (kd i) ∧ F' 38 i = nI (lf i)) → (∀ i, i < g → F' 39 i = nI (ft i)) → (∀ i, i < 4 * o → F' 40 i = nI (th i)) → (∀ i, i < 12 → F' 43 i = 0) → (∀ i, i < 3 → F' 45 i = 0) → P (some (.int (nI g))) (hp Ls nz F' FJ kp)) : ∀ x : Int32, x = 0 → sr_Go mX5_hotel (d + 1) 63 [some (.ref 30), some (.int a), some (.int x)] [] (0, 0) (hp Ls nz F FJ kp) P := by
  have hg := hP.1
  have ho := hP.2.1
  have l4 : ∀ j, j ≤ 3 → ∀ (z : Int32) F', z = nI j → (∀ r, r < 37 ∨ (40 < r ∧ r ≠ 43 ∧ r ≠ 45) → r ≠ 30 → F' r = F r) → (∀ k, k ≠ 24 → F' 30 k = F 30 k) → F' 30 24 = 0 → (∀ i, i < g → F' 37 i = nI (kd i) ∧ F' 38 i = nI (lf i)) → (∀ i, i < g → F' 39 i = nI (ft i)) → (∀ i, i < 4 * o → F' 40 i = nI (th i)) → (∀ i, i < 12 → F' 43 i = 0) → (∀ i, i < j → F' 45 i = 0) → sr_Go mX5_hotel (d + 1) 181 [some (.ref 30), some (.int a), some (.int z)] [] (0, 0) (hp Ls nz F' FJ kp) P := by
    refine sp_for (fun z F' hz q1 q2 q3 q4 q5 q6 q7 q8 => ?_) (fun j hj ih z F' hz q1 q2 q3 q4 q5 q6 q7 q8 => ?_)
    · refine eX5_hotel [181] ?_
      refine sr_ite (c := z < nI 3) (fun c => absurd c (by rw [hz]; exact nI_nlt (by omega) (by omega))) (fun c => ?_)
      have := h F' q1 q2 q3 q4 q5 q6 q7 q8
      rw [← e1, ← q2 10 (by omega)] at this
      exact this
    · refine eX5_hotel [181] ?_
      refine sr_ite (c := z < nI 3) (fun c => ?_) (fun c => absurd (by rw [hz]; exact nI_lt hj (by omega)) c)
      refine ⟨j, ⟨hz, ⟨show j < 3 by omega, Or.inl rfl⟩⟩, ?_⟩
      refine ih _ (sr_u F' 45 j 0) (by rw [hz]; exact nI_1 j) (fun r hr hr2 => ?_) q2 q3 q4 q5 q6 q7 (fun i hi => ?_)
      · rw [sr_u_row _ _ (by omega)]; exact q1 r hr hr2
      · show sr_u F' 45 j _ 45 i = _
        by_cases c : i = j
        · subst c
          rw [sr_u_same]
        · rw [sr_u_ne _ _ c]; exact q8 i (by omega)
  have l3 : ∀ j, j ≤ 12 → ∀ (z : Int32) F', z = nI j → (∀ r, r < 37 ∨ (40 < r ∧ r ≠ 43 ∧ r ≠ 45) → r ≠ 30 → F' r = F r) → F' 30 = F 30 → (∀ i, i < g → F' 37 i = nI (kd i) ∧ F' 38 i = nI (lf i)) → (∀ i, i < g → F' 39 i = nI (ft i)) → (∀ i, i < 4 * o → F' 40 i = nI (th i)) → (∀ i, i < j → F' 43 i = 0) → sr_Go mX5_hotel (d + 1) 155 [some (.ref 30), some (.int a), some (.int z)] [] (0, 0) (hp Ls nz F' FJ kp) P := by
    refine sp_for (fun z F' hz q1 q2 q4 q5 q6 q7 => ?_) (fun j hj ih z F' hz q1 q2 q4 q5 q6 q7 => ?_)
    · refine eX5_hotel [155, 181] ?_
      refine sr_ite (c := z < nI 12) (fun c => absurd c (by rw [hz]; exact nI_nlt (by omega) (by omega))) (fun c => ?_)
      refine l4 0 (by omega) _ (sr_u F' 30 24 (nI 0)) rfl (fun r hr hr2 => ?_) (fun k hk => ?_) rfl q4 q5 q6 q7 (fun i hi => absurd hi (by omega))
      · rw [sr_u_row _ _ hr2]; exact q1 r hr hr2
      · rw [sr_u_ne _ _ hk, q2]
    · refine eX5_hotel [155, 181] ?_
      refine sr_ite (c := z < nI 12) (fun c => ?_) (fun c => absurd (by rw [hz]; exact nI_lt hj (by omega)) c)
      refine ⟨j, ⟨hz, show j < 12 by omega⟩, ?_⟩
      refine ih _ (sr_u F' 43 j 0) (by rw [hz]; exact nI_1 j) (fun r hr hr2 => ?_) q2 q4 q5 q6 (fun i hi => ?_)
      · rw [sr_u_row _ _ (by omega)]; exact q1 r hr hr2
      · show sr_u F' 43 j _ 43 i = _
        by_cases c : i = j
        · subst c
          rw [sr_u_same]
        · rw [sr_u_ne _ _ c]; exact q7 i (by omega)
  have l2 : ∀ j, j ≤ 4 * o → ∀ (z : Int32) F', z = nI j → (∀ r, r < 37 ∨ (40 < r ∧ r ≠ 43 ∧ r ≠ 45) → r ≠ 30 → F' r = F r) → F' 30 = F 30 → (∀ i, i < g → F' 37 i = nI (kd i) ∧ F' 38 i = nI (lf i)) → (∀ i, i < g → F' 39 i = nI (ft i)) → (∀ i, i < j → F' 40 i = nI (th i)) → sr_Go mX5_hotel (d + 1) 125 [some (.ref 30), some (.int a), some (.int z)] [] (0, 0) (hp Ls nz F' FJ kp) P := by
    refine sp_for (fun z F' hz q1 q2 q4 q5 q6 => ?_) (fun j hj ih z F' hz q1 q2 q4 q5 q6 => ?_)
    · refine eX5_hotel [125, 155] ?_
      refine sr_ite (c := z < nI 4 * F' 30 12) (fun c => absurd c (by rw [hz, q2, e3, nI_mul]; exact nI_nlt (by omega) (by omega))) (fun c => ?_)
      exact l3 0 (by omega) _ _ rfl q1 q2 q4 q5 q6 (fun i hi => absurd hi (by omega))
    · refine eX5_hotel [125, 155] ?_
      refine sr_ite (c := z < nI 4 * F' 30 12) (fun c => ?_) (fun c => absurd (by rw [hz, q2, e3, nI_mul]; exact nI_lt hj (by omega)) c)
      refine ⟨j, ⟨hz, show j < 32 by omega⟩, ⟨j, ⟨hz, show j < 32 by omega⟩, ?_⟩⟩
      refine ih _ (sr_u F' 40 j (F' 42 j)) (by rw [hz]; exact nI_1 j) (fun r hr hr2 => ?_) q2 q4 q5 (fun i hi => ?_)
      · rw [sr_u_row _ _ (by omega)]; exact q1 r hr hr2
      · show sr_u F' 40 j (F' 42 j) 40 i = _
        by_cases c : i = j
        · subst c
          rw [sr_u_same, q1 42 (by omega) (by omega)]; exact hX.2.2.2.2 i hj
        · rw [sr_u_ne _ _ c]; exact q6 i (by omega)
  have l1 : ∀ j, j ≤ g → ∀ (z : Int32) F', z = nI j → (∀ r, r < 37 ∨ (40 < r ∧ r ≠ 43 ∧ r ≠ 45) → r ≠ 30 → F' r = F r) → F' 30 = F 30 → (∀ i, i < j → F' 37 i = nI (kd i) ∧ F' 38 i = nI (lf i)) → (∀ i, i < j → F' 39 i = nI (ft i)) → sr_Go mX5_hotel (d + 1) 63 [some (.ref 30), some (.int a), some (.int z)] [] (0, 0) (hp Ls nz F' FJ kp) P := by
    refine sp_for (fun z F' hz q1 q2 q4 q5 => ?_) (fun j hj ih z F' hz q1 q2 q4 q5 => ?_)
    · refine eX5_hotel [63, 125] ?_
      refine sr_ite (c := z < F' 30 10) (fun c => absurd c (by rw [hz, q2, e1]; exact nI_nlt (by omega) (by omega))) (fun c => ?_)
      exact l2 0 (by omega) _ _ rfl q1 q2 q4 q5 (fun i hi => absurd hi (by omega))
    · refine eX5_hotel [63, 125] ?_
      refine sr_ite (c := z < F' 30 10) (fun c => ?_) (fun c => absurd (by rw [hz, q2, e1]; exact nI_lt hj (by omega)) c)
      refine ⟨3 * j, ⟨show nI 3 * z = _ by rw [hz, nI_mul], show 3 * j < 15 by omega⟩, ⟨j, ⟨hz, show j < 5 by omega⟩, ⟨3 * j + 1, ⟨show nI 3 * z + nI 1 = _ by rw [hz, nI_mul, nI_add], show 3 * j + 1 < 15 by omega⟩, ⟨j, ⟨hz, show j < 5 by omega⟩, ⟨3 * j + 2, ⟨show nI 3 * z + nI 2 = _ by rw [hz, nI_mul, nI_add], show 3 * j + 2 < 15 by omega⟩, ⟨j, ⟨hz, show j < 5 by omega⟩, ?_⟩⟩⟩⟩⟩⟩
      refine ih _ (sr_u (sr_u (sr_u F' 37 j (F' 41 (3 * j))) 38 j (F' 41 (3 * j + 1))) 39 j (F' 41 (3 * j + 2))) (by rw [hz]; exact nI_1 j) (fun r hr hr2 => ?_) q2 (fun i hi => ?_) (fun i hi => ?_)
      · rw [sr_u_row _ _ (by omega), sr_u_row _ _ (by omega), sr_u_row _ _ (by omega)]; exact q1 r hr hr2
      · show sr_u F' 37 j (F' 41 (3 * j)) 37 i = _ ∧ sr_u F' 38 j (F' 41 (3 * j + 1)) 38 i = _
        by_cases c : i = j
        · subst c
          rw [sr_u_same, sr_u_same, q1 41 (by omega) (by omega)]
          exact ⟨(hX.2.2.2.1 i hj).1, (hX.2.2.2.1 i hj).2.1⟩
        · rw [sr_u_ne _ _ c, sr_u_ne _ _ c]; exact q4 i (by omega)
      · show sr_u F' 39 j (F' 41 (3 * j + 2)) 39 i = _
        by_cases c : i = j
        · subst c
          rw [sr_u_same, q1 41 (by omega) (by omega)]
          exact (hX.2.2.2.1 i hj).2.2
        · rw [sr_u_ne _ _ c]; exact q5 i (by omega)
  intro x hx
  exact l1 0 (by omega) x F hx (fun r _ _ => rfl) rfl (fun i hi => absurd hi (by omega)) (fun i hi => absurd hi (by omega))
theorem q_hotel {a : Int32} (hI : sp_Inv xs nz FI FJ kp) : sp_two (sp_I Ls xs) mX4_hotel mX5_hotel (d + 7) [.int a] (hp Ls nz FI FJ kp) := by
  have hC := hI.2.2.2.2.1
  have hO := hI.2.1
  obtain ⟨T0, g0, o0, kd0, lf0, th0, tn0, D0, vs0, ac0, gs0, -, -, -, -, -, -, -, -, -, hRK⟩ := hI.2.2.2.2.2
  have hn : nz ≤ 3 := by have := hRK.1; omega
  have hKp : ∀ j, j < 3 → kp j = none ∨ ∃ z, z < nz ∧ kp j = some (5 * z + 51) := by
    intro j hj
    rcases hRK.2.2 j hj with ⟨_, hk | ⟨z, hz, hk, _⟩⟩ | ⟨_, _, z, hz, hk, _⟩
    · exact Or.inl hk
    · exact Or.inr ⟨z, hz, hk⟩
    · exact Or.inr ⟨z, hz, hk⟩
  refine eX4_hotel [] ?_
  refine c4t_refP (fun c => ?_) (fun r hr e c => ?_) (fun r hr e c => ?_)
  · refine eX5_hotel [] ?_
    refine c5_isText (fun k hk e => absurd e (c k hk)) (fun c2 => ?_)
    exact ⟨rfl, .of hI⟩
  · refine eX5_hotel [] ?_
    refine c5_isText' (fun k hk e2 z hz => ?_) (fun c2 => absurd e (c2 r hr))
    refine sr_n1 hz ?_
    refine ⟨r, ⟨e, hr⟩, ?_⟩
    have c9 : FI 35 r < 0 := by rw [← (hC.2 r hr).1]; exact c
    refine sr_ite (c := FI 35 r < 0) (fun _ => ?_) (fun q => absurd c9 q)
    refine c5_meets (FI := sr_u (sr_u FI 0 14 (nI 1)) 29 1 (FI 29 1 + 1)) (a := 1) rfl (by omega) ?_
    exact ⟨rfl, .of (sp_Inv_found hI (a := 1) (by omega))⟩
  · obtain ⟨N, hN, e35, hTX, hTM⟩ := sp_TX_of hC hr c
    refine c2_read (d' := d + 1) hO hTX e (fun q F1 hq f1 ho => ?_) (fun T g o kd lf ft th F1 hT2 hT6 ho hP f1 hX hout => ?_)
    · refine sr_ite (c := nI q = sr_k (-9)) (fun c => absurd c (sp_oI_ne (by omega))) (fun _ => ?_)
      subst e
      refine eX5_hotel [] ?_
      refine c5_isText' (fun k hk e2 z hz => ?_) (fun c2 => absurd rfl (c2 r hr))
      refine sr_n1 hz ?_
      refine ⟨r, ⟨rfl, hr⟩, ?_⟩
      have e9 : F1 35 r = nI N := by rw [f1 35 (by omega) (by omega)]; exact e35
      refine sr_ite (c := F1 35 r < 0) (fun q => absurd q (by rw [e9]; exact nI_pos (by omega))) (fun _ => ?_)
      refine ho F1 _ (by unfold sp_TM at hTM ⊢; rw [f1 35 (by omega) (by omega), f1 36 (by omega) (by omega)]; exact hTM) (fun F2 f2 => ?_)
      refine sr_ite (c := nI q = sr_k (-9)) (fun c => absurd c (sp_oI_ne (by omega))) (fun _ => ?_)
      exact ⟨rfl, .of (sp_Inv_scr hI f1 f2)⟩
    · have hg := hP.1
      refine c0_takeOver hP hX (fun F2 h2 => ?_)
      refine c1_begin (fun F3 f3 b0 b1 b2 b3 b4 => ?_)
      refine c4_forgetKept hn hKp (fun F4 f4 hk4 => ?_)
      have k81 : F4 8 1 = nI g := by rw [f4 8 (by omega), f3 8 (by omega)]; exact h2.2.2.1
      have kX : ∀ r, r ≠ 7 → r < 8 ∨ 22 < r → r < 51 ∨ 1000000 ≤ r → F4 r = FI r := fun r a1 a2 a3 => by rw [f4 r a3, f3 r (by omega), h2.1 r (by omega), f1 r (by omega) (by omega)]
      subst e
      refine eX5_hotel [63] ?_
      refine c5_isText' (fun k hk e2 z hz => ?_) (fun c2 => absurd rfl (c2 r hr))
      refine sr_n1 hz ?_
      refine ⟨r, ⟨rfl, hr⟩, ?_⟩
      have e9 : F4 35 r = nI N := by rw [kX 35 (by omega) (by omega) (by omega)]; exact e35
      refine sr_ite (c := F4 35 r < 0) (fun q => absurd q (by rw [e9]; exact nI_pos (by omega))) (fun _ => ?_)
      refine hout F4 _ (by unfold sp_TM at hTM ⊢; rw [kX 35 (by omega) (by omega) (by omega), kX 36 (by omega) (by omega) (by omega)]; exact hTM) (fun F5 f5 hM5 => ?_)
      refine c5_hotel63 (d := d + 6) (F := sr_u (sr_u (sr_u F5 30 10 (F5 30 18)) 30 11 (F5 30 19)) 30 12 (F5 30 20)) hP hM5 hM5.2.1 hM5.1 hM5.2.2.1 (fun F6 f6 g6 r0 r1 r2 r3 r4 r5 => ?_) _ rfl
      refine ⟨by rw [← k81]; rfl, .of ?_⟩
      have kk : ∀ r, r < 37 ∨ (42 < r ∧ r ≠ 43 ∧ r ≠ 45) → r ≠ 30 → F6 r = F4 r := fun r a1 a2 => by
        rw [f6 r (by omega) a2, sr_u_row _ _ a2, sr_u_row _ _ a2, sr_u_row _ _ a2]
        exact f5.1 r (by omega) (by omega) (by omega)
      have kA : ∀ r, r ≠ 7 → r < 8 ∨ 22 < r → r < 51 ∨ 1000000 ≤ r → r < 37 ∨ (42 < r ∧ r ≠ 43 ∧ r ≠ 45) → r ≠ 30 → F6 r = FI r := fun r a1 a2 a3 a4 a5 => (kk r a4 a5).trans (kX r a1 a2 a3)
      have k30 : ∀ i, (i < 10 ∨ 12 < i) → (i < 17 ∨ 20 < i) → i ≠ 24 → F6 30 i = FI 30 i := fun i a1 a2 a3 => by
        rw [g6 i a3, sr_u_ne _ _ (by omega), sr_u_ne _ _ (by omega), sr_u_ne _ _ (by omega), f5.2 i a2, kX 30 (by omega) (by omega) (by omega)]
      have k8 : ∀ r, 8 ≤ r → r ≤ 13 → F6 r = F2 r := fun r a1 a2 => by rw [kk r (by omega) (by omega), f4 r (by omega), f3 r (by omega)]
      have k20 : ∀ r, 20 ≤ r → r ≤ 22 → F6 r = F3 r := fun r a1 a2 => by rw [kk r (by omega) (by omega), f4 r (by omega)]
      obtain ⟨hS, hO', hA, hB, hC', -⟩ := hI
      refine ⟨?_, ?_, ?_, ?_, ?_, T, g, o, kd, lf, th, ft, 0, fun _ _ => 0, fun _ => 0, fun _ => 0, ⟨hg, hP.2.1, hT6, fun _ => ⟨hT2, ho⟩, fun i hi => ⟨(hP.2.2.2.1 i hi).1, (hP.2.2.2.1 i hi).2.1⟩, hP.2.2.2.2⟩, ?_, ?_, fun i hi => (hP.2.2.2.1 i hi).2.2, ?_, r2, ?_, ?_, ?_, hRK.1, hRK.2.1, fun j hj => ?_⟩
      · rw [kA 1000002 (by omega) (by omega) (by omega) (by omega) (by omega)]; exact hS
      · unfold sp_RO at hO' ⊢
        rw [kA 1000000 (by omega) (by omega) (by omega) (by omega) (by omega), kA 1000001 (by omega) (by omega) (by omega) (by omega) (by omega)]; exact hO'
      · unfold sp_RA at hA ⊢
        rw [kA 0 (by omega) (by omega) (by omega) (by omega) (by omega), k30 2 (by omega) (by omega) (by omega), k30 0 (by omega) (by omega) (by omega), kA 29 (by omega) (by omega) (by omega) (by omega) (by omega), kA 31 (by omega) (by omega) (by omega) (by omega) (by omega)]; exact hA
      · unfold sp_RB at hB ⊢
        rw [kA 1 (by omega) (by omega) (by omega) (by omega) (by omega), kA 2 (by omega) (by omega) (by omega) (by omega) (by omega), kA 3 (by omega) (by omega) (by omega) (by omega) (by omega), kA 32 (by omega) (by omega) (by omega) (by omega) (by omega), kA 33 (by omega) (by omega) (by omega) (by omega) (by omega)]; exact hB
      · unfold sp_RC at hC' ⊢
        rw [kA 4 (by omega) (by omega) (by omega) (by omega) (by omega), kA 5 (by omega) (by omega) (by omega) (by omega) (by omega), kA 6 (by omega) (by omega) (by omega) (by omega) (by omega), kA 35 (by omega) (by omega) (by omega) (by omega) (by omega), kA 36 (by omega) (by omega) (by omega) (by omega) (by omega)]; exact hC'
      · refine ⟨?_, ?_, ?_, fun i hi => ?_, fun i hi => ?_⟩
        · rw [k8 8 (by omega) (by omega)]; exact h2.2.1
        · rw [k8 8 (by omega) (by omega)]; exact h2.2.2.1
        · rw [k8 8 (by omega) (by omega)]; exact h2.2.2.2.1
        · rw [k8 9 (by omega) (by omega), k8 10 (by omega) (by omega)]; exact ⟨(h2.2.2.2.2.1 i hi).1, (h2.2.2.2.2.1 i hi).2.1⟩
        · rw [k8 12 (by omega) (by omega), k8 13 (by omega) (by omega)]; exact h2.2.2.2.2.2 i hi
      · refine ⟨?_, ?_, ?_, r1, r3⟩
        · rw [g6 11 (by omega)]; exact hM5.1
        · rw [g6 10 (by omega)]; exact hM5.2.1
        · rw [g6 12 (by omega)]; exact hM5.2.2.1
      · intro i hi
        rw [k20 21 (by omega) (by omega), b3 i (by omega)]; exact (h2.2.2.2.2.1 i hi).2.2
      · exact ⟨by omega, fun e he => ⟨(by decide : 0 < 32), (by decide : 0 < 32), fun i hi => Nat.zero_le _⟩, fun e he => absurd he (by omega)⟩
      · refine ⟨?_, ?_, ?_, fun i hi => ?_, fun e he => absurd he (by omega)⟩
        · rw [k20 20 (by omega) (by omega)]; exact b0
        · rw [k20 20 (by omega) (by omega)]; exact b1
        · rw [k20 20 (by omega) (by omega)]; exact b2
        · rw [k20 (20 + 2) (by omega) (by omega)]; exact b4 i hi
      · exact ⟨r0, r4, fun e he => absurd he (by omega)⟩
      · refine Or.inl ⟨r5 j hj, ?_⟩
        rcases hKp j hj with hk | ⟨z, hz, hk⟩
        · exact Or.inl hk
        · refine Or.inr ⟨z, hz, hk, ?_⟩
          rw [kk (5 * z + 51) (by omega) (by omega)]
          exact hk4 j z hj hk
end HT
