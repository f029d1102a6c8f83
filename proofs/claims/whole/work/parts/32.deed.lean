/-! deeds: what they do to both nights -/
def sp_ve (vs : Nat → Nat → Nat) (D : Nat) (w : Nat → Nat) : Nat → Nat → Nat := fun e => if e ≤ D then vs e else w
def sp_ae (f : Nat → Nat) (D a : Nat) : Nat → Nat := fun e => if e < D then f e else a
theorem sp_ve_le {vs : Nat → Nat → Nat} {D : Nat} {w : Nat → Nat} {e : Nat} (h : e ≤ D) : sp_ve vs D w e = vs e := if_pos h
theorem sp_ve_s {vs : Nat → Nat → Nat} {D : Nat} {w : Nat → Nat} : sp_ve vs D w (D + 1) = w := if_neg (by omega)
theorem sp_ae_lt {f : Nat → Nat} {D a e : Nat} (h : e < D) : sp_ae f D a e = f e := if_pos h
theorem sp_ae_D {f : Nat → Nat} {D a : Nat} : sp_ae f D a D = a := if_neg (by omega)
theorem sp_app0 (v : Nat → Nat) (i k : Nat) : sp_app v 0 i k = if k = 0 then v 0 ^^^ 2 ^ i else v k := rfl
theorem sp_app1 (v : Nat → Nat) (i k : Nat) : sp_app v 1 i k = if k = 1 then v 1 ^^^ 2 ^ i else v k := rfl
theorem sp_app2 (v : Nat → Nat) (i k : Nat) : sp_app v 2 i k = if k = (if sp_bit (v 0) i = 1 then 7 + i else 2 + i) then v k + 1 else v k := rfl
theorem sp_app_LG {v : Nat → Nat} {a i D : Nat} (ha : a < 3) (hi : i < 5) (h0 : v 0 < 32) (h1 : v 1 < 32) (hh : ∀ j, j < 5 → v (2 + j) + v (7 + j) ≤ D) : sp_app v a i 0 < 32 ∧ sp_app v a i 1 < 32 ∧ ∀ j, j < 5 → sp_app v a i (2 + j) + sp_app v a i (7 + j) ≤ D + 1 := by
  have hp5 : 2 ^ i < 32 := by
    have : ∀ i, i < 5 → 2 ^ i < 32 := by decide
    exact this i hi
  rcases (show a = 0 ∨ a = 1 ∨ a = 2 by omega) with rfl | rfl | rfl
  · refine ⟨?_, ?_, fun j hj => ?_⟩
    · exact Nat.xor_lt_two_pow (n := 5) h0 hp5
    · exact h1
    · have := hh j hj
      rw [sp_app0, sp_app0, if_neg (by omega), if_neg (by omega)]; omega
  · refine ⟨?_, ?_, fun j hj => ?_⟩
    · exact h0
    · exact Nat.xor_lt_two_pow (n := 5) h1 hp5
    · have := hh j hj
      rw [sp_app1, sp_app1, if_neg (by omega), if_neg (by omega)]; omega
  · refine ⟨?_, ?_, fun j hj => ?_⟩
    · rw [sp_app2, if_neg (by split <;> omega)]; exact h0
    · rw [sp_app2, if_neg (by split <;> omega)]; exact h1
    · have := hh j hj
      rw [sp_app2, sp_app2]
      by_cases c : sp_bit (v 0) i = 1
      · rw [if_pos c]
        split <;> split <;> omega
      · rw [if_neg c]
        split <;> split <;> omega
theorem sp_LG_ext {g D : Nat} {vs : Nat → Nat → Nat} {ac gs : Nat → Nat} (h : sp_LG g D vs ac gs) (hD : D < 60) {a i : Nat} (ha : a < 3) (hi : i < g) (hg : g ≤ 5) : sp_LG g (D + 1) (sp_ve vs D (sp_app (vs D) a i)) (sp_ae ac D a) (sp_ae gs D i) := by
  obtain ⟨h1, h2, h3⟩ := h
  refine ⟨by omega, fun e he => ?_, fun e he => ?_⟩
  · by_cases c : e ≤ D
    · rw [sp_ve_le c]; exact h2 e c
    · have : e = D + 1 := by omega
      subst this
      rw [sp_ve_s]
      obtain ⟨a1, a2, a3⟩ := h2 D (Nat.le_refl _)
      exact sp_app_LG ha (by omega) a1 a2 a3
  · by_cases c : e < D
    · rw [sp_ae_lt c, sp_ae_lt c, sp_ve_le (by omega), sp_ve_le (by omega)]; exact h3 e c
    · have : e = D := by omega
      subst this
      rw [sp_ae_D, sp_ae_D, sp_ve_s, sp_ve_le (Nat.le_refl _)]
      exact ⟨ha, hi, fun k hk => rfl⟩
theorem sp_LG_cut {g D n : Nat} {vs : Nat → Nat → Nat} {ac gs : Nat → Nat} (h : sp_LG g D vs ac gs) (hn : n ≤ D) : sp_LG g n vs ac gs := by
  obtain ⟨h1, h2, h3⟩ := h
  exact ⟨by omega, fun e he => h2 e (by omega), fun e he => h3 e (by omega)⟩
theorem nb_xpow {l i : Nat} {x : Int32} (hx : x = nI l) (hi : i < 5) : x ^^^ (nI 1 <<< (nI i &&& 31)) = nI (l ^^^ 2 ^ i) := by
  rw [hx, nI_shl1 i (by omega), nI_xor]
theorem nb_dec (n : Nat) : nI (n + 1) + sr_k (-1) = nI n := by
  rw [← nI_add]
  have : nI 1 + sr_k (-1) = 0 := by decide +kernel
  rw [Int32.add_assoc, this]
  exact Int32.add_zero _
section DE
variable {Ls nz d T g o D : Nat} {kd lf th tn v : Nat → Nat} {vs : Nat → Nat → Nat} {ac gs : Nat → Nat} {xs : Nat → Int32} {FI : Nat → Nat → Int32} {FJ : Nat → Nat → Int64} {kp : Nat → Option Nat} {P : Option Value → sr_H → Prop} {h9 : sr_H}
theorem c1_co0 {i : Nat} {x y z : Int32} (hx : x = 0) (h : P none (hp Ls nz (sr_u FI 20 1 (FI 20 1 ^^^ (nI 1 <<< (y &&& 31)))) FJ kp)) : sr_Call mX1_carryOut d [.ref 20, .int x, .int y, .int z] (hp Ls nz FI FJ kp) P := by
  subst hx
  exact eX1_carryOut [] h
theorem c1_co1 {i : Nat} {x y z : Int32} (hx : x = nI 1) (h : P none (hp Ls nz (sr_u FI 20 2 (FI 20 2 ^^^ (nI 1 <<< (y &&& 31)))) FJ kp)) : sr_Call mX1_carryOut d [.ref 20, .int x, .int y, .int z] (hp Ls nz FI FJ kp) P := by
  subst hx
  exact eX1_carryOut [] h
theorem c1_co2 {i : Nat} {x y z : Int32} (hN : sp_XN FI v) (hv0 : v 0 < 32) (hx : x = nI 2) (hy : y = nI i) (hi : i < 5) (h : P none (hp Ls nz (sr_u FI 22 (2 * i + sp_bit (v 0) i) (FI 22 (2 * i + sp_bit (v 0) i) + z)) FJ kp)) : sr_Call mX1_carryOut (d + 1) [.ref 20, .int x, .int y, .int z] (hp Ls nz FI FJ kp) P := by
  subst hx
  have hb : sp_bit (v 0) i < 2 := Nat.mod_lt _ (by decide)
  refine eX1_carryOut [] ?_
  refine eX1_roomOf [] ?_
  have e : (FI 20 1 >>> (y &&& 31)) &&& nI 1 = nI (sp_bit (v 0) i) := by rw [hN.1, hy, nb_shr _ (by omega) _ (by omega)]
  have e2 : nI 2 * y + ((FI 20 1 >>> (y &&& 31)) &&& nI 1) = nI (2 * i + sp_bit (v 0) i) := by rw [e, hy, nI_mul, nI_add]
  exact ⟨2 * i + sp_bit (v 0) i, ⟨e2, show 2 * i + sp_bit (v 0) i < 10 by omega⟩, ⟨2 * i + sp_bit (v 0) i, ⟨e2, show 2 * i + sp_bit (v 0) i < 10 by omega⟩, h⟩⟩
theorem sp_fr22 {p q : Nat} {u : Int32} (r : Nat) (h : r ≠ q) : sr_u FI q p u r = FI r := by
  funext k
  exact if_neg (fun e => h e.1)
/-- an hour more or less in the room where the guest is -/
theorem sp_hours {i : Nat} {w : Nat → Nat} {u : Int32} (hi : i < 5) (hN : sp_XN FI v) (e0 : w 0 = v 0) (e1 : w 1 = v 1) (hidx : u = nI (w (if sp_bit (v 0) i = 1 then 7 + i else 2 + i))) (hoth : ∀ k, k < 12 → k ≠ (if sp_bit (v 0) i = 1 then 7 + i else 2 + i) → w k = v k) : sp_XN (sr_u FI 22 (2 * i + sp_bit (v 0) i) u) w := by
  have hb : sp_bit (v 0) i < 2 := Nat.mod_lt _ (by decide)
  refine ⟨by rw [e0]; exact hN.1, by rw [e1]; exact hN.2.1, fun j hj => ?_⟩
  obtain ⟨n1, n2⟩ := hN.2.2 j hj
  by_cases c : sp_bit (v 0) i = 1
  · simp only [c, if_true] at hidx hoth ⊢
    refine ⟨?_, ?_⟩
    · rw [sr_u_ne _ _ (by omega), n1, hoth (2 + j) (by omega) (by omega)]
    · by_cases q : j = i
      · subst q; rw [sr_u_same, hidx]
      · rw [sr_u_ne _ _ (by omega), n2, hoth (7 + j) (by omega) (by omega)]
  · have c0 : sp_bit (v 0) i = 0 := by omega
    rw [c0] at hidx hoth ⊢
    simp only [Nat.zero_ne_one, if_false, Nat.add_zero] at hidx hoth ⊢
    refine ⟨?_, ?_⟩
    · by_cases q : j = i
      · subst q; rw [sr_u_same, hidx]
      · rw [sr_u_ne _ _ (by omega), n1, hoth (2 + j) (by omega) (by omega)]
    · rw [sr_u_ne _ _ (by omega), n2, hoth (7 + j) (by omega) (by omega)]
theorem sp_hour_at {i : Nat} (hi : i < 5) (hN : sp_XN FI v) : FI 22 (2 * i + sp_bit (v 0) i) = nI (v (if sp_bit (v 0) i = 1 then 7 + i else 2 + i)) := by
  have hb : sp_bit (v 0) i < 2 := Nat.mod_lt _ (by decide)
  obtain ⟨n1, n2⟩ := hN.2.2 i hi
  by_cases c : sp_bit (v 0) i = 1
  · rw [c, if_pos rfl]; exact n2
  · have c0 : sp_bit (v 0) i = 0 := by omega
    rw [c0, if_neg (by omega)]; exact n1
theorem c1_carry {a i : Nat} {x y : Int32} (hN : sp_XN FI v) (hv0 : v 0 < 32) (hx : x = nI a) (ha : a < 3) (hy : y = nI i) (hi : i < 5) (h : ∀ FI', (∀ r, r ≠ 20 → r ≠ 22 → FI' r = FI r) → FI' 20 0 = FI 20 0 → sp_XN FI' (sp_app v a i) → P none (hp Ls nz FI' FJ kp)) : sr_Call mX1_carryOut (d + 1) [.ref 20, .int x, .int y, .int (sr_k 1)] (hp Ls nz FI FJ kp) P := by
  rcases (show a = 0 ∨ a = 1 ∨ a = 2 by omega) with rfl | rfl | rfl
  · refine c1_co0 (i := i) hx (h _ (fun r h1 h2 => sp_fr22 r h1) rfl ?_)
    refine ⟨?_, hN.2.1, fun j hj => ?_⟩
    · show FI 20 1 ^^^ (nI 1 <<< (y &&& 31)) = _
      rw [hy, nb_xpow hN.1 hi]; rfl
    · have := hN.2.2 j hj
      rw [sp_app0, sp_app0, if_neg (by omega), if_neg (by omega)]; exact this
  · refine c1_co1 (i := i) hx (h _ (fun r h1 h2 => sp_fr22 r h1) rfl ?_)
    refine ⟨hN.1, ?_, fun j hj => ?_⟩
    · show FI 20 2 ^^^ (nI 1 <<< (y &&& 31)) = _
      rw [hy, nb_xpow hN.2.1 hi]; rfl
    · have := hN.2.2 j hj
      rw [sp_app1, sp_app1, if_neg (by omega), if_neg (by omega)]; exact this
  · refine c1_co2 hN hv0 hx hy hi (h _ (fun r h1 h2 => sp_fr22 r h2) rfl ?_)
    refine sp_hours hi hN ?_ ?_ ?_ ?_
    · rw [sp_app2, if_neg (by split <;> omega)]
    · rw [sp_app2, if_neg (by split <;> omega)]
    · rw [sp_hour_at hi hN]
      rw [sp_app2, if_pos rfl]
      exact nI_1 _
    · intro k hk hne
      rw [sp_app2, if_neg hne]
/-- taken back -/
theorem c1_carryM {a i : Nat} {x y : Int32} {w : Nat → Nat} (hN : sp_XN FI w) (hw : ∀ k, k < 12 → w k = sp_app v a i k) (hv0 : v 0 < 32) (hx : x = nI a) (ha : a < 3) (hy : y = nI i) (hi : i < 5) (h : ∀ FI', (∀ r, r ≠ 20 → r ≠ 22 → FI' r = FI r) → FI' 20 0 = FI 20 0 → sp_XN FI' v → P none (hp Ls nz FI' FJ kp)) : sr_Call mX1_carryOut (d + 1) [.ref 20, .int x, .int y, .int (sr_k (-1))] (hp Ls nz FI FJ kp) P := by
  have xx : ∀ a b : Nat, a ^^^ b ^^^ b = a := fun a b => by rw [Nat.xor_assoc, Nat.xor_self, Nat.xor_zero]
  rcases (show a = 0 ∨ a = 1 ∨ a = 2 by omega) with rfl | rfl | rfl
  · have o : ∀ k, k < 12 → k ≠ 0 → w k = v k := by
      intro k hk h0
      rw [hw k hk, sp_app0, if_neg h0]
    refine c1_co0 (i := i) hx (h _ (fun r h1 h2 => sp_fr22 r h1) rfl ?_)
    refine ⟨?_, by rw [← o 1 (by omega) (by omega)]; exact hN.2.1, fun j hj => ?_⟩
    · show FI 20 1 ^^^ (nI 1 <<< (y &&& 31)) = _
      rw [hy, nb_xpow hN.1 hi, hw 0 (by omega)]
      show nI (v 0 ^^^ 2 ^ i ^^^ 2 ^ i) = _
      rw [xx]
    · have := hN.2.2 j hj
      rw [o (2 + j) (by omega) (by omega), o (7 + j) (by omega) (by omega)] at this
      exact this
  · have o : ∀ k, k < 12 → k ≠ 1 → w k = v k := by
      intro k hk h0
      rw [hw k hk, sp_app1, if_neg h0]
    refine c1_co1 (i := i) hx (h _ (fun r h1 h2 => sp_fr22 r h1) rfl ?_)
    refine ⟨by rw [← o 0 (by omega) (by omega)]; exact hN.1, ?_, fun j hj => ?_⟩
    · show FI 20 2 ^^^ (nI 1 <<< (y &&& 31)) = _
      rw [hy, nb_xpow hN.2.1 hi, hw 1 (by omega)]
      show nI (v 1 ^^^ 2 ^ i ^^^ 2 ^ i) = _
      rw [xx]
    · have := hN.2.2 j hj
      rw [o (2 + j) (by omega) (by omega), o (7 + j) (by omega) (by omega)] at this
      exact this
  · have o : ∀ k, k < 12 → k ≠ (if sp_bit (v 0) i = 1 then 7 + i else 2 + i) → w k = v k := by
      intro k hk h0
      rw [hw k hk, sp_app2, if_neg h0]
    have w0 : w 0 = v 0 := o 0 (by omega) (by split <;> omega)
    have w1 : w 1 = v 1 := o 1 (by omega) (by split <;> omega)
    refine c1_co2 hN (by rw [w0]; exact hv0) hx hy hi (h _ (fun r h1 h2 => sp_fr22 r h2) rfl ?_)
    refine sp_hours hi hN w0.symm w1.symm ?_ ?_
    · rw [sp_hour_at hi hN, w0]
      have : w (if sp_bit (v 0) i = 1 then 7 + i else 2 + i) = v (if sp_bit (v 0) i = 1 then 7 + i else 2 + i) + 1 := by
        rw [hw _ (by split <;> omega), sp_app2, if_pos rfl]
      rw [this]
      exact nb_dec _
    · intro k hk hne
      rw [w0] at hne
      exact (o k hk hne).symm
theorem c1_act {a i : Nat} {x y : Int32} (hx : x = nI a) (ha : a < 3) (hy : y = nI i) (hi : i < 5) (hD : D < 60) (hXL : sp_XL FI 20 D vs ac gs) (hv0 : vs D 0 < 32) (h : ∀ FI', (∀ r, r ≠ 20 → r ≠ 22 → r ≠ 23 → r ≠ 24 → FI' r = FI r) → sp_XL FI' 20 (D + 1) (sp_ve vs D (sp_app (vs D) a i)) (sp_ae ac D a) (sp_ae gs D i) → P none (hp Ls nz FI' FJ kp)) : sr_Call mX1_act (d + 2) [.ref 20, .int x, .int y] (hp Ls nz FI FJ kp) P := by
  obtain ⟨h0, hn1, hn2, hh, hlog⟩ := hXL
  refine eX1_act [] ?_
  refine sr_ite (c := FI 20 0 < 0) (fun c => absurd c (by rw [h0]; exact nI_pos (by omega))) (fun c => ?_)
  refine sr_ite (c := FI 20 0 < nI 60) (fun c => ?_) (fun c => absurd (by rw [h0]; exact nI_lt hD (by omega)) c)
  refine ⟨D, ⟨h0, show D < 60 from hD⟩, ⟨D, ⟨h0, show D < 60 from hD⟩, ?_⟩⟩
  refine c1_carry (FI := sr_u (sr_u (sr_u FI 23 D x) 24 D y) 20 0 (FI 20 0 + sr_k 1)) (v := vs D) ⟨hn1, hn2, hh⟩ hv0 hx ha hy hi (fun FI' fr f0 hN => ?_)
  refine h FI' (fun r r1 r2 r3 r4 => ?_) ⟨?_, ?_, ?_, ?_, ?_⟩
  · rw [fr r r1 r2]
    funext k
    show sr_u (sr_u (sr_u FI 23 D x) 24 D y) 20 0 (FI 20 0 + sr_k 1) r k = FI r k
    unfold sr_u
    rw [if_neg (fun e => r1 e.1), if_neg (fun e => r4 e.1), if_neg (fun e => r3 e.1)]
  · rw [f0]
    show FI 20 0 + sr_k 1 = _
    rw [h0]; exact nI_1 D
  · rw [sp_ve_s]; exact hN.1
  · rw [sp_ve_s]; exact hN.2.1
  · rw [sp_ve_s]; exact hN.2.2
  · intro e he
    rw [fr 23 (by decide) (by decide), fr 24 (by decide) (by decide)]
    show sr_u FI 23 D x 23 e = _ ∧ sr_u (sr_u FI 23 D x) 24 D y 24 e = _
    by_cases c : e < D
    · rw [sp_ae_lt c, sp_ae_lt c, sr_u_ne _ _ (by omega), sr_u_ne _ _ (by omega)]
      exact hlog e c
    · have : e = D := by omega
      subst this
      rw [sp_ae_D, sp_ae_D, sr_u_same, sr_u_same]
      exact ⟨hx, hy⟩
/-- the reference remembers -/
theorem c5_remember (hML : sp_ML FI D vs) (hD : D < 60) (w : Nat → Nat) (h : ∀ FI', (∀ r, r ≠ 30 → r ≠ 44 → FI' r = FI r) → (∀ k, k ≠ 24 → FI' 30 k = FI 30 k) → FI' 30 24 = nI (D + 1) → (∀ e, e < D + 1 → ∀ k, k < 12 → FI' 44 (12 * e + k) = nI (sp_ve vs D w e k)) → P none (hp Ls nz FI' FJ kp)) : sr_Call mX5_remember d [.ref 30] (hp Ls nz FI FJ kp) P := by
  obtain ⟨h0, hn, hlog⟩ := hML
  have loop : ∀ j, j ≤ 12 → ∀ (z : Int32) (F : Nat → Nat → Int32), z = nI j → (∀ r, r ≠ 44 → F r = FI r) → (∀ e, e < D → ∀ k, k < 12 → F 44 (12 * e + k) = nI (vs e k)) → (∀ k, k < j → F 44 (12 * D + k) = nI (vs D k)) → sr_Go mX5_remember d 2 [some (.ref 30), some (.int z)] [] (0, 0) (hp Ls nz F FJ kp) P := by
    refine sp_for (fun z F hz fr f1 f2 => ?_) (fun j hj ih z F hz fr f1 f2 => ?_)
    · refine eX5_remember [2] ?_
      refine sr_ite (c := z < nI 12) (fun c => absurd c (by rw [hz]; exact nI_nlt (by omega) (by omega))) (fun c => ?_)
      refine h _ (fun r r1 r2 => ?_) (fun k hk => ?_) ?_ (fun e he k hk => ?_)
      · rw [← fr r r2]; exact sp_fr22 r r1
      · rw [← fr 30 (by decide)]; exact sr_u_ne _ _ hk
      · show F 30 24 + nI 1 = _
        rw [fr 30 (by decide), h0, nI_add]
      · show F 44 (12 * e + k) = _
        rw [sp_ve_le (by omega)]
        by_cases c : e < D
        · exact f1 e c k hk
        · have : e = D := by omega
          subst this
          exact f2 k hk
    · have e24 : F 30 24 = nI D := by rw [fr 30 (by decide)]; exact h0
      refine eX5_remember [2] ?_
      refine sr_ite (c := z < nI 12) (fun c => ?_) (fun c => absurd (by rw [hz]; exact nI_lt hj (by omega)) c)
      refine ⟨j, ⟨hz, show j < 12 from hj⟩, ?_⟩
      refine ⟨12 * D + j, ⟨show nI 12 * F 30 24 + z = _ by rw [e24, hz, nI_mul, nI_add], show 12 * D + j < 720 by omega⟩, ?_⟩
      refine ih _ _ (by rw [hz]; exact nI_1 j) (fun r hr => ?_) (fun e he k hk => ?_) (fun k hk => ?_)
      · rw [← fr r hr]; exact sp_fr22 r hr
      · show sr_u F 44 (12 * D + j) _ 44 (12 * e + k) = _
        rw [sr_u_ne _ _ (by omega)]; exact f1 e he k hk
      · show sr_u F 44 (12 * D + j) (F 43 j) 44 (12 * D + k) = _
        by_cases c : k = j
        · subst c
          rw [sr_u_same, fr 43 (by decide)]; exact hn k hj
        · rw [sr_u_ne _ _ (by omega)]; exact f2 k (by omega)
  refine eX5_remember [2] ?_
  exact loop 0 (by omega) _ _ rfl (fun r hr => rfl) hlog (fun k hk => by omega)
/-- what deeds leave as it is -/
def sp_fr (FI FI' : Nat → Nat → Int32) : Prop := (∀ r, r ≠ 20 → r ≠ 22 → r ≠ 23 → r ≠ 24 → r ≠ 30 → r ≠ 43 → r ≠ 44 → FI' r = FI r) ∧ ∀ k, k ≠ 24 → FI' 30 k = FI 30 k
theorem sp_fr_XH {FI' : Nat → Nat → Int32} (h : sp_fr FI FI') (hX : sp_XH FI T g o kd lf th) : sp_XH FI' T g o kd lf th := by
  unfold sp_XH at hX ⊢
  rw [h.1 8 (by decide) (by decide) (by decide) (by decide) (by decide) (by decide) (by decide), h.1 9 (by decide) (by decide) (by decide) (by decide) (by decide) (by decide) (by decide), h.1 10 (by decide) (by decide) (by decide) (by decide) (by decide) (by decide) (by decide), h.1 12 (by decide) (by decide) (by decide) (by decide) (by decide) (by decide) (by decide), h.1 13 (by decide) (by decide) (by decide) (by decide) (by decide) (by decide) (by decide)]
  exact hX
theorem sp_fr_MH {FI' : Nat → Nat → Int32} (h : sp_fr FI FI') (hX : sp_MH FI T g o kd lf th) : sp_MH FI' T g o kd lf th := by
  unfold sp_MH at hX ⊢
  rw [h.2 10 (by decide), h.2 11 (by decide), h.2 12 (by decide), h.1 37 (by decide) (by decide) (by decide) (by decide) (by decide) (by decide) (by decide), h.1 38 (by decide) (by decide) (by decide) (by decide) (by decide) (by decide) (by decide), h.1 40 (by decide) (by decide) (by decide) (by decide) (by decide) (by decide) (by decide)]
  exact hX
theorem sp_fr_KP {FI' : Nat → Nat → Int32} (h : ∀ r, 45 ≤ r → FI' r = FI r) {j : Nat} (hK : sp_KP FI kp nz T g j) : sp_KP FI' kp nz T g j := by
  rcases hK with ⟨e, hk⟩ | ⟨e, hg, z, hz, hk, D, vs, ac, gs, tn, hLG, hTD, hXL, hXT, r1, r2, r3, r4⟩
  · refine Or.inl ⟨by rw [h 45 (by omega)]; exact e, hk.imp id (fun ⟨z, hz, q1, q2⟩ => ⟨z, hz, q1, by rw [h _ (by omega)]; exact q2⟩)⟩
  · refine Or.inr ⟨by rw [h 45 (by omega)]; exact e, hg, z, hz, hk, D, vs, ac, gs, tn, hLG, hTD, ?_, ?_, ?_, ?_, ?_, ?_⟩
    · unfold sp_XL at hXL ⊢
      rw [h (5 * z + 51) (by omega), h (5 * z + 51 + 2) (by omega), h (5 * z + 51 + 3) (by omega), h (5 * z + 51 + 4) (by omega)]
      exact hXL
    · rw [h (5 * z + 51 + 1) (by omega)]; exact hXT
    · rw [h 46 (by omega)]; exact r1
    · rw [h 47 (by omega)]; exact r2
    · rw [h 48 (by omega)]; exact r3
    · rw [h 49 (by omega)]; exact r4
theorem sp_Inv_deed {FI' : Nat → Nat → Int32} {D' : Nat} {vs' : Nat → Nat → Nat} {ac' gs' : Nat → Nat} (hI : sp_Inv xs nz FI FJ kp) (hD : sp_HD T g o kd lf th) (hX : sp_XH FI T g o kd lf th) (hM : sp_MH FI T g o kd lf th) (hTd : sp_TD T g tn) (hXT : sp_XT FI g tn) (hMT : sp_MT FI g tn) (hRK : sp_RK FI kp nz T g) (h : sp_fr FI FI') (hLG' : sp_LG g D' vs' ac' gs') (hXL' : sp_XL FI' 20 D' vs' ac' gs') (hML' : sp_ML FI' D' vs') : sp_Inv xs nz FI' FJ kp := by
  obtain ⟨hS, hO, hA, hB, hC, -⟩ := hI
  have k : ∀ r, r < 20 → FI' r = FI r := fun r hr => h.1 r (by omega) (by omega) (by omega) (by omega) (by omega) (by omega) (by omega)
  have k2 : ∀ r, 30 < r → r ≠ 43 → r ≠ 44 → FI' r = FI r := fun r hr h1 h2 => h.1 r (by omega) (by omega) (by omega) (by omega) (by omega) h1 h2
  refine ⟨?_, ?_, ?_, ?_, ?_, T, g, o, kd, lf, th, tn, D', vs', ac', gs', hD, sp_fr_XH h hX, sp_fr_MH h hM, hTd, ?_, ?_, hLG', hXL', hML', hRK.1, hRK.2.1, fun j hj => sp_fr_KP (fun r hr => k2 r (by omega) (by omega) (by omega)) (hRK.2.2 j hj)⟩
  · rw [k2 1000002 (by omega) (by omega) (by omega)]; exact hS
  · unfold sp_RO at hO ⊢
    rw [k2 1000000 (by omega) (by omega) (by omega), k2 1000001 (by omega) (by omega) (by omega)]; exact hO
  · unfold sp_RA at hA ⊢
    rw [k 0 (by omega), h.2 2 (by decide), h.2 0 (by decide), h.1 29 (by decide) (by decide) (by decide) (by decide) (by decide) (by decide) (by decide), k2 31 (by omega) (by omega) (by omega)]; exact hA
  · unfold sp_RB at hB ⊢
    rw [k 1 (by omega), k 2 (by omega), k 3 (by omega), k2 32 (by omega) (by omega) (by omega), k2 33 (by omega) (by omega) (by omega)]; exact hB
  · unfold sp_RC at hC ⊢
    rw [k 4 (by omega), k 5 (by omega), k 6 (by omega), k2 35 (by omega) (by omega) (by omega), k2 36 (by omega) (by omega) (by omega)]; exact hC
  · unfold sp_XT at hXT ⊢
    rw [h.1 21 (by decide) (by decide) (by decide) (by decide) (by decide) (by decide) (by decide)]; exact hXT
  · unfold sp_MT at hMT ⊢
    rw [k2 39 (by omega) (by omega) (by omega)]; exact hMT
end DE
