/-! pairs of calls: fault, hotel -/
section HO
variable {Ls nz d T g o D t N p : Nat} {b : Nat → Int32} {kd lf ft th tn : Nat → Nat} {vs : Nat → Nat → Nat} {ac gs : Nat → Nat} {xs : Nat → Int32} {FI F : Nat → Nat → Int32} {FJ : Nat → Nat → Int64} {kp : Nat → Option Nat} {P : Option Value → sr_H → Prop} {h9 : sr_H}
/-- what the readings leave as it is -/
theorem sp_Inv_scr {F1 F2 : Nat → Nat → Int32} (hI : sp_Inv xs nz FI FJ kp) (h1 : sp_fX FI F1) (h2 : sp_fM F1 F2) : sp_Inv xs nz F2 FJ kp := by
  obtain ⟨hS, hO, hA, hB, hC, T, g, o, kd, lf, th, tn, D, vs, ac, gs, hD, hX, hM, hTd, hXT, hMT, hLG, hXL, hML, hRK⟩ := id hI
  have k : ∀ r, r ≠ 7 → (r < 14 ∨ 19 < r) → r ≠ 30 → r ≠ 41 → r ≠ 42 → F2 r = FI r := fun r a b c d e => (h2.1 r c d e).trans (h1 r a b)
  have k30 : ∀ i, (i < 17 ∨ 20 < i) → F2 30 i = FI 30 i := fun i hi => (h2.2 i hi).trans (by rw [h1 30 (by omega) (by omega)])
  refine ⟨?_, ?_, ?_, ?_, ?_, T, g, o, kd, lf, th, tn, D, vs, ac, gs, hD, ?_, ?_, hTd, ?_, ?_, hLG, ?_, ?_, hRK.1, hRK.2.1, fun j hj => sp_fr_KP (fun r hr => k r (by omega) (by omega) (by omega) (by omega) (by omega)) (hRK.2.2 j hj)⟩
  · rw [k 1000002 (by omega) (by omega) (by omega) (by omega) (by omega)]; exact hS
  · unfold sp_RO at hO ⊢
    rw [k 1000000 (by omega) (by omega) (by omega) (by omega) (by omega), k 1000001 (by omega) (by omega) (by omega) (by omega) (by omega)]; exact hO
  · unfold sp_RA at hA ⊢
    rw [k 0 (by omega) (by omega) (by omega) (by omega) (by omega), k30 2 (by omega), k30 0 (by omega), k 29 (by omega) (by omega) (by omega) (by omega) (by omega), k 31 (by omega) (by omega) (by omega) (by omega) (by omega)]; exact hA
  · unfold sp_RB at hB ⊢
    rw [k 1 (by omega) (by omega) (by omega) (by omega) (by omega), k 2 (by omega) (by omega) (by omega) (by omega) (by omega), k 3 (by omega) (by omega) (by omega) (by omega) (by omega), k 32 (by omega) (by omega) (by omega) (by omega) (by omega), k 33 (by omega) (by omega) (by omega) (by omega) (by omega)]; exact hB
  · unfold sp_RC at hC ⊢
    rw [k 4 (by omega) (by omega) (by omega) (by omega) (by omega), k 5 (by omega) (by omega) (by omega) (by omega) (by omega), k 6 (by omega) (by omega) (by omega) (by omega) (by omega), k 35 (by omega) (by omega) (by omega) (by omega) (by omega), k 36 (by omega) (by omega) (by omega) (by omega) (by omega)]; exact hC
  · unfold sp_XH at hX ⊢
    rw [k 8 (by omega) (by omega) (by omega) (by omega) (by omega), k 9 (by omega) (by omega) (by omega) (by omega) (by omega), k 10 (by omega) (by omega) (by omega) (by omega) (by omega), k 12 (by omega) (by omega) (by omega) (by omega) (by omega), k 13 (by omega) (by omega) (by omega) (by omega) (by omega)]; exact hX
  · unfold sp_MH at hM ⊢
    rw [k30 10 (by omega), k30 11 (by omega), k30 12 (by omega), k 37 (by omega) (by omega) (by omega) (by omega) (by omega), k 38 (by omega) (by omega) (by omega) (by omega) (by omega), k 40 (by omega) (by omega) (by omega) (by omega) (by omega)]; exact hM
  · unfold sp_XT at hXT ⊢
    rw [k 21 (by omega) (by omega) (by omega) (by omega) (by omega)]; exact hXT
  · unfold sp_MT at hMT ⊢
    rw [k 39 (by omega) (by omega) (by omega) (by omega) (by omega)]; exact hMT
  · unfold sp_XL at hXL ⊢
    rw [k 20 (by omega) (by omega) (by omega) (by omega) (by omega), k (20 + 2) (by omega) (by omega) (by omega) (by omega) (by omega), k (20 + 3) (by omega) (by omega) (by omega) (by omega) (by omega), k (20 + 4) (by omega) (by omega) (by omega) (by omega) (by omega)]; exact hXL
  · unfold sp_ML at hML ⊢
    rw [k30 24 (by omega), k 43 (by omega) (by omega) (by omega) (by omega) (by omega), k 44 (by omega) (by omega) (by omega) (by omega) (by omega)]; exact hML
theorem sp_TX_of {r : Nat} (hC : sp_RC FI) (hr : r < 4) (hs : ¬ FI 5 r < 0) : ∃ N, N ≤ 60 ∧ FI 35 r = nI N ∧ sp_TX FI r N (fun i => FI 36 (60 * r + i)) ∧ sp_TM FI r N (fun i => FI 36 (60 * r + i)) := by
  obtain ⟨q1, q2⟩ := hC.2 r hr
  rcases q2 with q2 | ⟨n, hn, q3, q4⟩
  · rw [q2] at hs; exact absurd (by decide) hs
  · have e : FI 35 r = nI n := by rw [← q1]; exact q3
    exact ⟨n, hn, e, ⟨hC.1, hr, hn, q3, q4⟩, ⟨hr, hn, e, fun i hi => rfl⟩⟩
theorem q_fault {a : Int32} (hI : sp_Inv xs nz FI FJ kp) : sp_two (sp_I Ls xs) mX4_fault mX5_fault (d + 7) [.int a] (hp Ls nz FI FJ kp) := by
  have hC := hI.2.2.2.2.1
  have hO := hI.2.1
  refine eX4_fault [] ?_
  refine c4t_refP (fun c => ?_) (fun r hr e c => ?_) (fun r hr e c => ?_)
  · refine eX5_fault [] ?_
    refine c5_isText (fun k hk e => absurd e (c k hk)) (fun c2 => ?_)
    exact ⟨rfl, .of hI⟩
  · refine eX5_fault [] ?_
    refine c5_isText' (fun k hk e2 z hz => ?_) (fun c2 => absurd e (c2 r hr))
    refine sr_n1 hz ?_
    refine ⟨r, ⟨e, hr⟩, ?_⟩
    have c9 : FI 35 r < 0 := by rw [← (hC.2 r hr).1]; exact c
    refine sr_ite (c := FI 35 r < 0) (fun _ => ?_) (fun q => absurd c9 q)
    refine c5_meets (FI := sr_u (sr_u FI 0 14 (nI 1)) 29 1 (FI 29 1 + 1)) (a := 1) rfl (by omega) ?_
    exact ⟨rfl, .of (sp_Inv_found hI (a := 1) (by omega))⟩
  · obtain ⟨N, hN, e35, hTX, hTM⟩ := sp_TX_of hC hr c
    have mgo : ∀ {F : Nat → Nat → Int32} {Q : Option Value → sr_H → Prop}, sp_fX FI F → sr_Call mX5_faultOf (d + 1 + 5) [.ref 30, .int (nI r)] (hp Ls nz F FJ kp) (fun v h1 => ∃ z : Int32, v = some (.int z) ∧ Q (some (.int z)) h1) → sr_Call mX5_fault (d + 7) [.ref 30, .int a] (hp Ls nz F FJ kp) Q := by
      intro F Q hf h
      subst e
      refine eX5_fault [] ?_
      refine c5_isText' (fun k hk e2 z hz => ?_) (fun c2 => absurd rfl (c2 r hr))
      refine sr_n1 hz ?_
      refine ⟨r, ⟨rfl, hr⟩, ?_⟩
      have e9 : F 35 r = nI N := by rw [hf 35 (by omega) (by omega)]; exact e35
      refine sr_ite (c := F 35 r < 0) (fun q => absurd q (by rw [e9]; exact nI_pos (by omega))) (fun _ => ?_)
      refine sr_Call_mono (fun v h1 hv => ?_) h
      obtain ⟨z, hvz, hq⟩ := hv
      subst hvz
      exact hq
    refine c2_read (d' := d + 1) hO hTX e (fun q F1 _ f1 ho => ?_) (fun T g o kd lf ft th F1 hT2 hT6 ho hP f1 hX hout => ?_)
    · refine mgo f1 ?_
      refine ho F1 _ (by unfold sp_TM at hTM ⊢; rw [f1 35 (by omega) (by omega), f1 36 (by omega) (by omega)]; exact hTM) (fun F2 f2 => ?_)
      exact ⟨_, rfl, rfl, .of (sp_Inv_scr hI f1 f2)⟩
    · refine mgo f1 ?_
      refine hout F1 _ (by unfold sp_TM at hTM ⊢; rw [f1 35 (by omega) (by omega), f1 36 (by omega) (by omega)]; exact hTM) (fun F2 f2 _ => ?_)
      exact ⟨_, rfl, rfl, .of (sp_Inv_scr hI f1 f2)⟩
end HO
