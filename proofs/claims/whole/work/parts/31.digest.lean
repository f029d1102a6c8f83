/-! pairs of calls: digest -/
def sp_sz (x : Int32) : Nat := x.toInt.toNat
theorem sp_szn {n : Nat} (h : n < 1000) : sp_sz (nI n) = n := by
  unfold sp_sz
  rw [nI_toInt (by omega)]
  exact Int.toNat_natCast n
theorem sp_szl {x : Int32} {B j : Nat} (hB : B < 1000) (hx : x = -1 ∨ ∃ n, n ≤ B ∧ x = nI n) (hj : j < 1000) : (nI j < x ↔ j < sp_sz x) ∧ sp_sz x ≤ B := by
  rcases hx with rfl | ⟨n, hn, rfl⟩
  · have : sp_sz (-1) = 0 := by decide +kernel
    rw [this]
    refine ⟨⟨fun q => ?_, fun q => by omega⟩, by omega⟩
    exfalso
    have q := Int32.lt_iff_toInt_lt.mp q
    rw [nI_toInt (by omega)] at q
    have : (-1 : Int32).toInt = -1 := by decide +kernel
    omega
  · rw [sp_szn (by omega)]
    exact ⟨nI_ltI (by omega) (by omega), hn⟩
theorem sp_mix_congr {f f' : Nat → Int32} {h : Int64} : ∀ {n : Nat}, (∀ i, i < n → f i = f' i) → sp_mix f n h = sp_mix f' n h
  | 0, _ => rfl
  | n + 1, q => by rw [sp_mix, sp_mix, sp_mix_congr (fun i hi => q i (by omega)), q n (by omega)]
theorem sp_dig_congr {z z' : Nat → Int32} {n n' : Nat → Nat} {f f' : Nat → Nat → Int32} {h : Int64} : ∀ {p : Nat}, (∀ i, i < p → z i = z' i ∧ n i = n' i ∧ ∀ j, j < n i → f i j = f' i j) → sp_dig z n f p h = sp_dig z' n' f' p h
  | 0, _ => rfl
  | p + 1, q => by
    obtain ⟨a, b, c⟩ := q p (by omega)
    rw [sp_dig, sp_dig, sp_dig_congr (fun i hi => q i (by omega)), a, sp_mix_congr c, b]
def sp_mx2 (f : Nat → Nat → Int32) : Nat → Int64 → Int64
  | 0, h => h
  | i + 1, h => sp_mix (f i) 8 (sp_mx2 f i h)
theorem sr_uu {α : Type} (f : Nat → Nat → α) (r k : Nat) (a b : α) : sr_u (sr_u f r k a) r k b = sr_u f r k b := by
  funext x y
  unfold sr_u
  split <;> rfl
section DG
variable {Ls nz d T g o D : Nat} {kd lf th tn v : Nat → Nat} {xs : Nat → Int32} {FI : Nat → Nat → Int32} {FJ : Nat → Nat → Int64} {kp : Nat → Option Nat} {P : Option Value → sr_H → Prop} {h9 : sr_H}
theorem c3r_digestFrom {h0 : Int64} (hw : FI 1 0 = nI 40) (hz : ∀ r, r < 6 → FI 2 r = -1 ∨ ∃ n, n ≤ 40 ∧ FI 2 r = nI n) (h : P (some (.long (sp_dig (fun r => FI 2 r) (fun r => sp_sz (FI 2 r)) (fun r i => FI 3 (r * 40 + i)) 6 h0))) (hp Ls nz FI FJ kp)) : sr_Call mX3_digestFrom (d + 1) [.ref 1, .long h0] (hp Ls nz FI FJ kp) P := by
  have outer : ∀ k, k ≤ 6 → ∀ (z : Int32) (s : Int64) (e : Option Value), z = nI k → s = sp_dig (fun r => FI 2 r) (fun r => sp_sz (FI 2 r)) (fun r i => FI 3 (r * 40 + i)) k h0 → sr_Go mX3_digestFrom (d + 1) 5 [some (.ref 1), some (.long h0), none, some (.long s), none, some (.int z), e] [] (0, 0) (hp Ls nz FI FJ kp) P := by
    refine sp_for (fun z s e hz hs => ?_) (fun k hk ih z s e hz2 hs => ?_)
    · refine eX3_digestFrom [5, 33] ?_
      refine sr_ite (c := z < nI 6) (fun c => absurd c (by rw [hz]; exact nI_nlt (by omega) (by omega))) (fun c => ?_)
      rw [hs]; exact h
    · refine eX3_digestFrom [5, 33] ?_
      refine sr_ite (c := z < nI 6) (fun c => ?_) (fun c => absurd (by rw [hz2]; exact nI_lt hk (by omega)) c)
      refine ⟨k, ⟨hz2, hk⟩, ?_⟩
      have hsz := (sp_szl (j := 0) (by omega) (hz k hk) (by omega)).2
      have inner : ∀ j, j ≤ sp_sz (FI 2 k) → ∀ (y : Int32) (t : Int64), y = nI j → t = sp_mix (fun i => FI 3 (k * 40 + i)) j (31 * s + (FI 2 k).toInt64) → sr_Go mX3_digestFrom (d + 1) 33 [some (.ref 1), some (.long h0), none, some (.long t), none, some (.int z), some (.int y)] [] (0, 0) (hp Ls nz FI FJ kp) P := by
        refine sp_for (fun y t hy ht => ?_) (fun j hj ih2 y t hy ht => ?_)
        · refine eX3_digestFrom [5, 33] ?_
          refine ⟨k, ⟨hz2, hk⟩, ?_⟩
          refine sr_ite (c := y < FI 2 k) (fun c => ?_) (fun c => ?_)
          · exfalso
            rw [hy] at c
            have := (sp_szl (by omega) (hz k hk) (by omega)).1.mp c
            omega
          · refine ih _ _ _ (by rw [hz2]; exact nI_1 k) ?_
            rw [sp_dig, ← hs]; exact ht
        · refine eX3_digestFrom [5, 33] ?_
          refine ⟨k, ⟨hz2, hk⟩, ?_⟩
          refine sr_ite (c := y < FI 2 k) (fun c => ?_) (fun c => absurd (by rw [hy]; exact (sp_szl (by omega) (hz k hk) (by omega)).1.mpr hj) c)
          refine c3r_placeOf hw hz2 hy (by omega) ?_
          refine ih2 _ _ (by rw [hy]; exact nI_1 j) ?_
          rw [sp_mix, ← ht]
      exact inner 0 (by omega) _ _ rfl rfl
  refine eX3_digestFrom [5] ?_
  exact outer 0 (by omega) _ _ _ rfl rfl
theorem c3t_digestFrom {h0 : Int64} (hw : FI 4 0 = nI 60) (hz : ∀ r, r < 4 → FI 5 r = -1 ∨ ∃ n, n ≤ 60 ∧ FI 5 r = nI n) (h : P (some (.long (sp_dig (fun r => FI 5 r) (fun r => sp_sz (FI 5 r)) (fun r i => FI 6 (r * 60 + i)) 4 h0))) (hp Ls nz FI FJ kp)) : sr_Call mX3_digestFrom (d + 1) [.ref 4, .long h0] (hp Ls nz FI FJ kp) P := by
  have outer : ∀ k, k ≤ 4 → ∀ (z : Int32) (s : Int64) (e : Option Value), z = nI k → s = sp_dig (fun r => FI 5 r) (fun r => sp_sz (FI 5 r)) (fun r i => FI 6 (r * 60 + i)) k h0 → sr_Go mX3_digestFrom (d + 1) 5 [some (.ref 4), some (.long h0), none, some (.long s), none, some (.int z), e] [] (0, 0) (hp Ls nz FI FJ kp) P := by
    refine sp_for (fun z s e hz hs => ?_) (fun k hk ih z s e hz2 hs => ?_)
    · refine eX3_digestFrom [5, 33] ?_
      refine sr_ite (c := z < nI 4) (fun c => absurd c (by rw [hz]; exact nI_nlt (by omega) (by omega))) (fun c => ?_)
      rw [hs]; exact h
    · refine eX3_digestFrom [5, 33] ?_
      refine sr_ite (c := z < nI 4) (fun c => ?_) (fun c => absurd (by rw [hz2]; exact nI_lt hk (by omega)) c)
      refine ⟨k, ⟨hz2, hk⟩, ?_⟩
      have hsz := (sp_szl (j := 0) (by omega) (hz k hk) (by omega)).2
      have inner : ∀ j, j ≤ sp_sz (FI 5 k) → ∀ (y : Int32) (t : Int64), y = nI j → t = sp_mix (fun i => FI 6 (k * 60 + i)) j (31 * s + (FI 5 k).toInt64) → sr_Go mX3_digestFrom (d + 1) 33 [some (.ref 4), some (.long h0), none, some (.long t), none, some (.int z), some (.int y)] [] (0, 0) (hp Ls nz FI FJ kp) P := by
        refine sp_for (fun y t hy ht => ?_) (fun j hj ih2 y t hy ht => ?_)
        · refine eX3_digestFrom [5, 33] ?_
          refine ⟨k, ⟨hz2, hk⟩, ?_⟩
          refine sr_ite (c := y < FI 5 k) (fun c => ?_) (fun c => ?_)
          · exfalso
            rw [hy] at c
            have := (sp_szl (by omega) (hz k hk) (by omega)).1.mp c
            omega
          · refine ih _ _ _ (by rw [hz2]; exact nI_1 k) ?_
            rw [sp_dig, ← hs]; exact ht
        · refine eX3_digestFrom [5, 33] ?_
          refine ⟨k, ⟨hz2, hk⟩, ?_⟩
          refine sr_ite (c := y < FI 5 k) (fun c => ?_) (fun c => absurd (by rw [hy]; exact (sp_szl (by omega) (hz k hk) (by omega)).1.mpr hj) c)
          refine c3t_placeOf hw hz2 hy (by omega) ?_
          refine ih2 _ _ (by rw [hy]; exact nI_1 j) ?_
          rw [sp_mix, ← ht]
      exact inner 0 (by omega) _ _ rfl rfl
  refine eX3_digestFrom [5] ?_
  exact outer 0 (by omega) _ _ _ rfl rfl
theorem c5_mix {h0 x : Int64} (h : P none (hp Ls nz FI (sr_u FJ 30 33 (31 * h0 + x)) kp)) : sr_Call mX5_mix d [.ref 30, .long x] (hp Ls nz FI (sr_u FJ 30 33 h0) kp) P := by
  refine eX5_mix [] ?_
  show P none (hp Ls nz FI (sr_u (sr_u FJ 30 33 h0) 30 33 (31 * h0 + x)) kp)
  rw [sr_uu]
  exact h
def sp_kdI (FI : Nat → Nat → Int32) (k : Nat) : Int32 := if FI 45 k = 0 then sr_k (-1) else FI 46 k
theorem c5_mixHotel {h0 : Int64} (hD : sp_HD T g o kd lf th) (hM : sp_MH FI T g o kd lf th) (hT : sp_MT FI g tn) (hTd : sp_TD T g tn) (hN : sp_MN FI v) (hV : sp_NV v) (h : P none (hp Ls nz FI (sr_u FJ 30 33 (sp_mix (sp_kdI FI) 3 (sp_mx2 (fun i w => nI (sp_fct T kd lf tn v i w)) g h0))) kp)) : sr_Call mX5_mixHotel (d + 4) [.ref 30] (hp Ls nz FI (sr_u FJ 30 33 h0) kp) P := by
  have hg := hD.1
  have l3 : ∀ k, k ≤ 3 → ∀ (z : Int32) (s : Int64) (e : Option Value), z = nI k → s = sp_mix (sp_kdI FI) k (sp_mx2 (fun i w => nI (sp_fct T kd lf tn v i w)) g h0) → sr_Go mX5_mixHotel (d + 4) 43 [some (.ref 30), some (.int z), e] [] (0, 0) (hp Ls nz FI (sr_u FJ 30 33 s) kp) P := by
    refine sp_for (fun z s e hz hs => ?_) (fun k hk ih z s e hz hs => ?_)
    · refine eX5_mixHotel [43] ?_
      refine sr_ite (c := z < nI 3) (fun c => absurd c (by rw [hz]; exact nI_nlt (by omega) (by omega))) (fun c => ?_)
      rw [hs]; exact h
    · refine eX5_mixHotel [43] ?_
      refine sr_ite (c := z < nI 3) (fun c => ?_) (fun c => absurd (by rw [hz]; exact nI_lt hk (by omega)) c)
      refine ⟨k, ⟨hz, hk⟩, ?_⟩
      refine sr_ite (c := FI 45 k = 0) (fun c => ?_) (fun c => ?_)
      · refine c5_mix ?_
        refine ih _ _ _ (by rw [hz]; exact nI_1 k) ?_
        rw [sp_mix, ← hs, sp_kdI, if_pos c]; rfl
      · refine ⟨k, ⟨hz, hk⟩, ?_⟩
        refine c5_mix ?_
        refine ih _ _ _ (by rw [hz]; exact nI_1 k) ?_
        rw [sp_mix, ← hs, sp_kdI, if_neg c]; rfl
  have l2 : ∀ k, k ≤ g → ∀ (z : Int32) (s : Int64) (e : Option Value), z = nI k → s = sp_mx2 (fun i w => nI (sp_fct T kd lf tn v i w)) k h0 → sr_Go mX5_mixHotel (d + 4) 2 [some (.ref 30), some (.int z), e] [] (0, 0) (hp Ls nz FI (sr_u FJ 30 33 s) kp) P := by
    refine sp_for (fun z s e hz hs => ?_) (fun k hk ih z s e hz hs => ?_)
    · refine eX5_mixHotel [2, 12, 43] ?_
      refine sr_ite (c := z < FI 30 10) (fun c => absurd c (by rw [hz, hM.2.1]; exact nI_nlt (by omega) (by omega))) (fun c => ?_)
      exact l3 0 (by omega) _ _ _ rfl hs
    · refine eX5_mixHotel [2, 12, 43] ?_
      refine sr_ite (c := z < FI 30 10) (fun c => ?_) (fun c => absurd (by rw [hz, hM.2.1]; exact nI_lt hk (by omega)) c)
      have inner : ∀ j, j ≤ 8 → ∀ (y : Int32) (t : Int64), y = nI j → t = sp_mix (fun w => nI (sp_fct T kd lf tn v k w)) j s → sr_Go mX5_mixHotel (d + 4) 12 [some (.ref 30), some (.int z), some (.int y)] [] (0, 0) (hp Ls nz FI (sr_u FJ 30 33 t) kp) P := by
        refine sp_for (fun y t hy ht => ?_) (fun j hj ih2 y t hy ht => ?_)
        · refine eX5_mixHotel [2, 12] ?_
          refine sr_ite (c := y < nI 8) (fun c => absurd c (by rw [hy]; exact nI_nlt (by omega) (by omega))) (fun c => ?_)
          refine ih _ _ _ (by rw [hz]; exact nI_1 k) ?_
          rw [sp_mx2, ← hs]; exact ht
        · refine eX5_mixHotel [2, 12] ?_
          refine sr_ite (c := y < nI 8) (fun c => ?_) (fun c => absurd (by rw [hy]; exact nI_lt hj (by omega)) c)
          refine c5_guestTells hD hM hT hTd hN hV hz hk hy hj ?_
          refine c5_mix ?_
          refine ih2 _ _ (by rw [hy]; exact nI_1 j) ?_
          rw [sp_mix, ← ht]
      exact inner 0 (by omega) _ _ rfl rfl
  refine eX5_mixHotel [2] ?_
  exact l2 0 (by omega) _ _ _ rfl rfl
/-- what both tell -/
def sp_dg1 (FI : Nat → Nat → Int32) (T g o : Nat) (kd lf tn : Nat → Nat) (D : Nat) (v : Nat → Nat) : Int64 := sp_mix (sp_kdI FI) 3 (sp_mx2 (fun i w => nI (sp_fct T kd lf tn v i w)) g (sp_mix (fun w => sp_cts FI T g o kd D v w) 10 17))
def sp_dg2 (FI : Nat → Nat → Int32) (h : Int64) : Int64 := sp_dig (fun r => FI 32 r) (fun r => sp_sz (FI 32 r)) (fun r i => FI 33 (40 * r + i)) 6 h
def sp_dg3 (FI : Nat → Nat → Int32) (h : Int64) : Int64 := sp_dig (fun r => FI 35 r) (fun r => sp_sz (FI 35 r)) (fun r i => FI 36 (60 * r + i)) 4 h
theorem c4_digest (hD : sp_HD T g o kd lf th) (hX : sp_XH FI T g o kd lf th) (hO : sp_RO FI) (hB : sp_RB FI) (hC : sp_RC FI) (hT : sp_XT FI g tn) (hTd : sp_TD T g tn) (hN : sp_XN FI v) (hV : sp_NV v) (hDe : FI 20 0 = nI D) (hR : sp_RK FI kp nz T g) (h : P (some (.long (sp_dg3 FI (sp_dg2 FI (sp_dg1 FI T g o kd lf tn D v))))) (hp Ls nz FI FJ kp)) : sr_Call mX4_digest (d + 4) [.ref 0] (hp Ls nz FI FJ kp) P := by
  have hg := hD.1
  have hn : nz ≤ 3 := by have := hR.1; omega
  have l3 : ∀ k, k ≤ 3 → ∀ (z : Int32) (s : Int64) (e : Option Value), z = nI k → s = sp_mix (sp_kdI FI) k (sp_mx2 (fun i w => nI (sp_fct T kd lf tn v i w)) g (sp_mix (fun w => sp_cts FI T g o kd D v w) 10 17)) → sr_Go mX4_digest (d + 4) 83 [some (.ref 0), some (.long s), none, some (.int z), e] [] (0, 0) (hp Ls nz FI FJ kp) P := by
    refine sp_for (fun z s e hz hs => ?_) (fun k hk ih z s e hz hs => ?_)
    · refine eX4_digest [83] ?_
      refine sr_ite (c := z < nI 3) (fun c => absurd c (by rw [hz]; exact nI_nlt (by omega) (by omega))) (fun c => ?_)
      refine c3r_digestFrom hB.1 (fun r hr => (hB.2 r hr).2.imp id (fun ⟨n, h1, h2, _⟩ => ⟨n, h1, h2⟩)) ?_
      refine c3t_digestFrom hC.1 (fun r hr => (hC.2 r hr).2.imp id (fun ⟨n, h1, h2, _⟩ => ⟨n, h1, h2⟩)) ?_
      have e1 : sp_dig (fun r => FI 2 r) (fun r => sp_sz (FI 2 r)) (fun r i => FI 3 (r * 40 + i)) 6 s = sp_dg2 FI s := by
        refine sp_dig_congr (fun r hr => ?_)
        obtain ⟨q1, q2⟩ := hB.2 r hr
        refine ⟨q1, by rw [q1], fun j hj => ?_⟩
        rcases q2 with q2 | ⟨n, q2, q3, q4⟩
        · exfalso
          rw [q2] at hj
          have : sp_sz (-1) = 0 := by decide +kernel
          omega
        · rw [q3, sp_szn (by omega)] at hj
          exact q4 j hj
      have e2 : ∀ s, sp_dig (fun r => FI 5 r) (fun r => sp_sz (FI 5 r)) (fun r i => FI 6 (r * 60 + i)) 4 s = sp_dg3 FI s := by
        intro s
        refine sp_dig_congr (fun r hr => ?_)
        obtain ⟨q1, q2⟩ := hC.2 r hr
        refine ⟨q1, by rw [q1], fun j hj => ?_⟩
        rcases q2 with q2 | ⟨n, q2, q3, q4⟩
        · exfalso
          rw [q2] at hj
          have : sp_sz (-1) = 0 := by decide +kernel
          omega
        · rw [q3, sp_szn (by omega)] at hj
          exact q4 j hj
      rw [e1, e2, hs]
      exact h
    · refine eX4_digest [83] ?_
      refine sr_ite (c := z < nI 3) (fun c => ?_) (fun c => absurd (by rw [hz]; exact nI_lt hk (by omega)) c)
      refine c4_keptDeeds hn (hR.2.2 k hk) hz hk (fun e => ?_) (fun D e e2 hD => ?_)
      · refine ih _ _ _ (by rw [hz]; exact nI_1 k) ?_
        rw [sp_mix, ← hs, sp_kdI, if_pos e]
      · refine ih _ _ _ (by rw [hz]; exact nI_1 k) ?_
        rw [sp_mix, ← hs, sp_kdI, if_neg (by rw [e]; decide), e2]
  have l2 : ∀ k, k ≤ g → ∀ (z : Int32) (s : Int64) (e : Option Value), z = nI k → s = sp_mx2 (fun i w => nI (sp_fct T kd lf tn v i w)) k (sp_mix (fun w => sp_cts FI T g o kd D v w) 10 17) → sr_Go mX4_digest (d + 4) 33 [some (.ref 0), some (.long s), none, some (.int z), e] [] (0, 0) (hp Ls nz FI FJ kp) P := by
    refine sp_for (fun z s e hz hs => ?_) (fun k hk ih z s e hz hs => ?_)
    · refine eX4_digest [33, 47, 83] ?_
      refine sr_ite (c := z < FI 8 1) (fun c => absurd c (by rw [hz, hX.2.1]; exact nI_nlt (by omega) (by omega))) (fun c => ?_)
      exact l3 0 (by omega) _ _ _ rfl hs
    · refine eX4_digest [33, 47, 83] ?_
      refine sr_ite (c := z < FI 8 1) (fun c => ?_) (fun c => absurd (by rw [hz, hX.2.1]; exact nI_lt hk (by omega)) c)
      have inner : ∀ j, j ≤ 8 → ∀ (y : Int32) (t : Int64), y = nI j → t = sp_mix (fun w => nI (sp_fct T kd lf tn v k w)) j s → sr_Go mX4_digest (d + 4) 47 [some (.ref 0), some (.long t), none, some (.int z), some (.int y)] [] (0, 0) (hp Ls nz FI FJ kp) P := by
        refine sp_for (fun y t hy ht => ?_) (fun j hj ih2 y t hy ht => ?_)
        · refine eX4_digest [33, 47] ?_
          refine sr_ite (c := y < nI 8) (fun c => absurd c (by rw [hy]; exact nI_nlt (by omega) (by omega))) (fun c => ?_)
          refine ih _ _ _ (by rw [hz]; exact nI_1 k) ?_
          rw [sp_mx2, ← hs]; exact ht
        · refine eX4_digest [33, 47] ?_
          refine sr_ite (c := y < nI 8) (fun c => ?_) (fun c => absurd (by rw [hy]; exact nI_lt hj (by omega)) c)
          refine c4_factOf hD hX hT hTd hN hV hz hk hy hj ?_
          refine ih2 _ _ (by rw [hy]; exact nI_1 j) ?_
          rw [sp_mix, ← ht]
      exact inner 0 (by omega) _ _ rfl rfl
  have l1 : ∀ k, k ≤ 10 → ∀ (z : Int32) (s : Int64) (e : Option Value), z = nI k → s = sp_mix (fun w => sp_cts FI T g o kd D v w) k 17 → sr_Go mX4_digest (d + 4) 6 [some (.ref 0), some (.long s), none, some (.int z), e] [] (0, 0) (hp Ls nz FI FJ kp) P := by
    refine sp_for (fun z s e hz hs => ?_) (fun k hk ih z s e hz hs => ?_)
    · refine eX4_digest [6, 33] ?_
      refine sr_ite (c := z < nI 10) (fun c => absurd c (by rw [hz]; exact nI_nlt (by omega) (by omega))) (fun c => ?_)
      exact l2 0 (by omega) _ _ _ rfl hs
    · refine eX4_digest [6, 33] ?_
      refine sr_ite (c := z < nI 10) (fun c => ?_) (fun c => absurd (by rw [hz]; exact nI_lt hk (by omega)) c)
      refine c4_count hD hX hO hB hC hN hDe hR hz hk ?_
      refine ih _ _ _ (by rw [hz]; exact nI_1 k) ?_
      rw [sp_mix, ← hs]
  refine eX4_digest [6] ?_
  exact l1 0 (by omega) _ _ _ rfl rfl
theorem c5_digest (hD : sp_HD T g o kd lf th) (hM : sp_MH FI T g o kd lf th) (hB : sp_RB FI) (hC : sp_RC FI) (hT : sp_MT FI g tn) (hTd : sp_TD T g tn) (hN : sp_MN FI v) (hV : sp_NV v) (hDe : FI 30 24 = nI D) (h : P (some (.long (sp_dg3 FI (sp_dg2 FI (sp_dg1 FI T g o kd lf tn D v))))) (hp Ls nz FI (sr_u FJ 30 33 (sp_dg3 FI (sp_dg2 FI (sp_dg1 FI T g o kd lf tn D v)))) kp)) : sr_Call mX5_digest (d + 5) [.ref 30] (hp Ls nz FI FJ kp) P := by
  have hzB : ∀ r, r < 6 → FI 32 r = -1 ∨ ∃ n, n ≤ 40 ∧ FI 32 r = nI n := by
    intro r hr
    obtain ⟨q1, q2⟩ := hB.2 r hr
    rw [← q1]
    exact q2.imp id (fun ⟨n, h1, h2, _⟩ => ⟨n, h1, h2⟩)
  have hzC : ∀ r, r < 4 → FI 35 r = -1 ∨ ∃ n, n ≤ 60 ∧ FI 35 r = nI n := by
    intro r hr
    obtain ⟨q1, q2⟩ := hC.2 r hr
    rw [← q1]
    exact q2.imp id (fun ⟨n, h1, h2, _⟩ => ⟨n, h1, h2⟩)
  have l3 : ∀ k, k ≤ 4 → ∀ (z : Int32) (s : Int64) (e : Option Value), z = nI k → s = sp_dig (fun r => FI 35 r) (fun r => sp_sz (FI 35 r)) (fun r i => FI 36 (60 * r + i)) k (sp_dg2 FI (sp_dg1 FI T g o kd lf tn D v)) → sr_Go mX5_digest (d + 5) 91 [some (.ref 30), some (.int z), e] [] (0, 0) (hp Ls nz FI (sr_u FJ 30 33 s) kp) P := by
    refine sp_for (fun z s e hz hs => ?_) (fun k hk ih z s e hz hs => ?_)
    · refine eX5_digest [91, 109] ?_
      refine sr_ite (c := z < nI 4) (fun c => absurd c (by rw [hz]; exact nI_nlt (by omega) (by omega))) (fun c => ?_)
      subst hs
      exact h
    · refine eX5_digest [91, 109] ?_
      refine sr_ite (c := z < nI 4) (fun c => ?_) (fun c => absurd (by rw [hz]; exact nI_lt hk (by omega)) c)
      refine ⟨k, ⟨hz, hk⟩, ?_⟩
      refine c5_mix ?_
      have hsz := (sp_szl (j := 0) (by omega) (hzC k hk) (by omega)).2
      have inner : ∀ j, j ≤ sp_sz (FI 35 k) → ∀ (y : Int32) (t : Int64), y = nI j → t = sp_mix (fun i => FI 36 (60 * k + i)) j (31 * s + (FI 35 k).toInt64) → sr_Go mX5_digest (d + 5) 109 [some (.ref 30), some (.int z), some (.int y)] [] (0, 0) (hp Ls nz FI (sr_u FJ 30 33 t) kp) P := by
        refine sp_for (fun y t hy ht => ?_) (fun j hj ih2 y t hy ht => ?_)
        · refine eX5_digest [91, 109] ?_
          refine ⟨k, ⟨hz, hk⟩, ?_⟩
          refine sr_ite (c := y < FI 35 k) (fun c => ?_) (fun c => ?_)
          · exfalso
            rw [hy] at c
            have := (sp_szl (by omega) (hzC k hk) (by omega)).1.mp c
            omega
          · refine ih _ _ _ (by rw [hz]; exact nI_1 k) ?_
            rw [sp_dig, ← hs]; exact ht
        · refine eX5_digest [91, 109] ?_
          refine ⟨k, ⟨hz, hk⟩, ?_⟩
          refine sr_ite (c := y < FI 35 k) (fun c => ?_) (fun c => absurd (by rw [hy]; exact (sp_szl (by omega) (hzC k hk) (by omega)).1.mpr hj) c)
          have h9 : ¬ FI 35 k = -1 := by
            intro q
            rw [q] at hj
            have : sp_sz (-1) = 0 := by decide +kernel
            omega
          obtain ⟨n, hn, en⟩ : ∃ n, n ≤ 60 ∧ FI 35 k = nI n := (hzC k hk).resolve_left h9
          refine c5_byteAt (k := n) hz hk hn en hy (by omega) (fun _ => ?_) (fun q => ?_)
          · refine c5_mix ?_
            refine ih2 _ _ (by rw [hy]; exact nI_1 j) ?_
            rw [sp_mix, ← ht]
          · exfalso
            rw [en, sp_szn (by omega)] at hj
            exact q hj
      exact inner 0 (by omega) _ _ rfl rfl
  have l2 : ∀ k, k ≤ 6 → ∀ (z : Int32) (s : Int64) (e : Option Value), z = nI k → s = sp_dig (fun r => FI 32 r) (fun r => sp_sz (FI 32 r)) (fun r i => FI 33 (40 * r + i)) k (sp_dg1 FI T g o kd lf tn D v) → sr_Go mX5_digest (d + 5) 37 [some (.ref 30), some (.int z), e] [] (0, 0) (hp Ls nz FI (sr_u FJ 30 33 s) kp) P := by
    refine sp_for (fun z s e hz hs => ?_) (fun k hk ih z s e hz hs => ?_)
    · refine eX5_digest [37, 56, 91] ?_
      refine sr_ite (c := z < nI 6) (fun c => absurd c (by rw [hz]; exact nI_nlt (by omega) (by omega))) (fun c => ?_)
      exact l3 0 (by omega) _ _ _ rfl hs
    · refine eX5_digest [37, 56, 91] ?_
      refine sr_ite (c := z < nI 6) (fun c => ?_) (fun c => absurd (by rw [hz]; exact nI_lt hk (by omega)) c)
      refine ⟨k, ⟨hz, hk⟩, ?_⟩
      refine c5_mix ?_
      have hsz := (sp_szl (j := 0) (by omega) (hzB k hk) (by omega)).2
      have inner : ∀ j, j ≤ sp_sz (FI 32 k) → ∀ (y : Int32) (t : Int64), y = nI j → t = sp_mix (fun i => FI 33 (40 * k + i)) j (31 * s + (FI 32 k).toInt64) → sr_Go mX5_digest (d + 5) 56 [some (.ref 30), some (.int z), some (.int y)] [] (0, 0) (hp Ls nz FI (sr_u FJ 30 33 t) kp) P := by
        refine sp_for (fun y t hy ht => ?_) (fun j hj ih2 y t hy ht => ?_)
        · refine eX5_digest [37, 56] ?_
          refine ⟨k, ⟨hz, hk⟩, ?_⟩
          refine sr_ite (c := y < FI 32 k) (fun c => ?_) (fun c => ?_)
          · exfalso
            rw [hy] at c
            have := (sp_szl (by omega) (hzB k hk) (by omega)).1.mp c
            omega
          · refine ih _ _ _ (by rw [hz]; exact nI_1 k) ?_
            rw [sp_dig, ← hs]; exact ht
        · refine eX5_digest [37, 56] ?_
          refine ⟨k, ⟨hz, hk⟩, ?_⟩
          refine sr_ite (c := y < FI 32 k) (fun c => ?_) (fun c => absurd (by rw [hy]; exact (sp_szl (by omega) (hzB k hk) (by omega)).1.mpr hj) c)
          refine c5_rowAt hz hy (by omega) ?_
          refine c5_mix ?_
          refine ih2 _ _ (by rw [hy]; exact nI_1 j) ?_
          rw [sp_mix, ← ht]
      exact inner 0 (by omega) _ _ rfl rfl
  have l1 : ∀ k, k ≤ 10 → ∀ (z : Int32) (s : Int64) (e : Option Value), z = nI k → s = sp_mix (fun w => sp_cts FI T g o kd D v w) k 17 → sr_Go mX5_digest (d + 5) 9 [some (.ref 30), some (.int z), e] [] (0, 0) (hp Ls nz FI (sr_u FJ 30 33 s) kp) P := by
    refine sp_for (fun z s e hz hs => ?_) (fun k hk ih z s e hz hs => ?_)
    · refine eX5_digest [9, 37] ?_
      refine sr_ite (c := z < nI 10) (fun c => absurd c (by rw [hz]; exact nI_nlt (by omega) (by omega))) (fun c => ?_)
      refine c5_mixHotel hD hM hT hTd hN hV ?_
      exact l2 0 (by omega) _ _ _ rfl (by rw [hs]; rfl)
    · refine eX5_digest [9, 37] ?_
      refine sr_ite (c := z < nI 10) (fun c => ?_) (fun c => absurd (by rw [hz]; exact nI_lt hk (by omega)) c)
      refine c5_counted hD hM hN hDe hz hk ?_
      refine c5_mix ?_
      refine ih _ _ _ (by rw [hz]; exact nI_1 k) ?_
      rw [sp_mix, ← hs]
  refine eX5_digest [9] ?_
  exact l1 0 (by omega) _ _ _ rfl rfl
theorem q_digest (hI : sp_Inv xs nz FI FJ kp) : sp_two (sp_I Ls xs) mX4_digest mX5_digest (d + 5) [] (hp Ls nz FI FJ kp) := by
  obtain ⟨hS, hO, hA, hB, hC, T, g, o, kd, lf, th, tn, D, vs, ac, gs, hD, hX, hM, hTd, hXT, hMT, hLG, hXL, hML, hRK⟩ := id hI
  refine c4_digest hD hX hO hB hC hXT hTd (sp_XNof hXL) (sp_NVof hLG) hXL.1 hRK ?_
  refine c5_digest hD hM hB hC hMT hTd hML.2.1 (sp_NVof hLG) hML.1 ?_
  exact ⟨rfl, .of ⟨hS, hO, hA, hB, hC, hI.2.2.2.2.2⟩⟩
end DG
