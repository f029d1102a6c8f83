/-! pairs of calls: rows and texts -/
section RX
variable {Ls nz d : Nat} {xs : Nat → Int32} {FI : Nat → Nat → Int32} {FJ : Nat → Nat → Int64} {kp : Nat → Option Nat}
theorem c5_isText' {P : Option Value → sr_H → Prop} {h9 : sr_H} {x : Int32} (h1 : ∀ k, k < 4 → x = nI k → ∀ z, z = 1 → P (some (.int z)) h9) (h0 : (∀ k, k < 4 → x ≠ nI k) → ∀ z, z = 0 → P (some (.int z)) h9) : sr_Call mX5_isText (d + 1) [.int x] h9 P := c5_isText (fun k hk e => h1 k hk e 1 rfl) (fun c => h0 c 0 rfl)
theorem sp_nIu {a b : Nat} (ha : a < 100) (hb : b < 100) (h : nI a = nI b) : a = b := nI_inj (by omega) (by omega) h
/-- in(i, 0, size - 1), as isPlace has it -/
theorem c5_inS {P : Option Value → sr_H → Prop} {h9 : sr_H} {i lo hi s : Int32} {n : Nat} (hs : s = nI n) (hn : n ≤ 60) (hlo : lo = 0) (hhi : hi = s - nI 1) (h1 : ¬ i < 0 → i < s → P (some (.int 1)) h9) (h0 : (i < 0 ∨ ¬ i < s) → P (some (.int 0)) h9) : sr_Call mX5_in d [.int i, .int lo, .int hi] h9 P := by
  refine c5_inN (b := n) hlo (by rw [hhi, hs]) (by omega) (fun k hk e => ?_) (fun c => ?_)
  · subst e
    exact h1 (nI_pos (by omega)) (by rw [hs]; exact nI_lt hk (by omega))
  · refine h0 ?_
    by_cases hi0 : i < 0
    · exact Or.inl hi0
    · refine Or.inr (fun c2 => ?_)
      rw [hs] at c2
      obtain ⟨k, hk, e⟩ := nI_ltN (by omega) hi0 c2
      exact c k hk e
theorem sp_RB_n (hB : sp_RB FI) {a : Nat} (ha : a < 6) (h : ¬ FI 2 a < 0) : FI 2 a = FI 32 a ∧ ∃ n, n ≤ 40 ∧ FI 2 a = nI n ∧ ∀ i, i < n → FI 3 (a * 40 + i) = FI 33 (40 * a + i) := by
  obtain ⟨h1, h2⟩ := hB.2 a ha
  rcases h2 with h2 | h2
  · exact absurd (sp_m1 h2) h
  · exact ⟨h1, h2⟩
theorem sp_RC_n (hB : sp_RC FI) {a : Nat} (ha : a < 4) (h : ¬ FI 5 a < 0) : FI 5 a = FI 35 a ∧ ∃ n, n ≤ 60 ∧ FI 5 a = nI n ∧ ∀ i, i < n → FI 6 (a * 60 + i) = FI 36 (60 * a + i) := by
  obtain ⟨h1, h2⟩ := hB.2 a ha
  rcases h2 with h2 | h2
  · exact absurd (sp_m1 h2) h
  · exact ⟨h1, h2⟩
theorem sp_Inv_lay (h : sp_Inv xs nz FI FJ kp) {r n i : Nat} {v : Int32} (hr : r < 6) (hn : n ≤ 40) (hz : FI 2 r = nI n) (hi : i < n) : sp_Inv xs nz (sr_u (sr_u FI 3 (r * 40 + i) v) 33 (40 * r + i) v) FJ kp := by
  obtain ⟨hS, hO, hA, hB, hC, hH⟩ := h
  refine ⟨hS, hO, hA, ⟨hB.1, fun q hq => ?_⟩, hC, hH⟩
  show FI 2 q = FI 32 q ∧ (FI 2 q = -1 ∨ ∃ m, m ≤ 40 ∧ FI 2 q = nI m ∧ ∀ j, j < m → sr_u FI 3 (r * 40 + i) v 3 (q * 40 + j) = sr_u FI 33 (40 * r + i) v 33 (40 * q + j))
  obtain ⟨h1, h2⟩ := hB.2 q hq
  refine ⟨h1, h2.imp id (fun ⟨m, m1, m2, m3⟩ => ⟨m, m1, m2, fun j hj => ?_⟩)⟩
  by_cases e : q * 40 + j = r * 40 + i
  · rw [e, show 40 * q + j = 40 * r + i by omega, sr_u_same, sr_u_same]
  · rw [sr_u_ne _ _ e, sr_u_ne _ _ (by omega)]
    exact m3 j hj
theorem q_lay {a b c : Int32} (hI : sp_Inv xs nz FI FJ kp) : sp_two (sp_I Ls xs) mX4_lay mX5_lay (d + 4) [.int a, .int b, .int c] (hp Ls nz FI FJ kp) := by
  have hB := hI.2.2.2.1
  refine eX4_lay [] ?_
  refine c4r_refL (fun c0 => ?_) (fun r hr e c0 => ?_) (fun r hr e c0 c1 => ?_) (fun r hr e c0 c1 c2 => ?_)
  · refine eX5_lay [] ?_
    refine c5_isRow (fun k hk e => absurd e (c0 k hk)) (fun c2 => ?_)
    exact ⟨rfl, .of hI⟩
  · refine eX5_lay [] ?_
    refine c5_isRow (fun k hk e2 => ?_) (fun c2 => absurd e (c2 r hr))
    refine ⟨r, ⟨e, hr⟩, ?_⟩
    refine sr_ite (c := FI 32 r < 0) (fun c3 => ?_) (fun c3 => absurd (by rw [← (hB.2 r hr).1]; exact c0) c3)
    refine c5_meets (a := 1) rfl (by omega) ?_
    exact ⟨rfl, .of (sp_Inv_found hI (a := 1) (by omega))⟩
  · obtain ⟨hz, n, hn, hs, hcs⟩ := sp_RB_n hB hr c0
    refine eX5_lay [] ?_
    refine c5_isRow (fun k hk e2 => ?_) (fun c2 => absurd e (c2 r hr))
    refine ⟨r, ⟨e, hr⟩, ?_⟩
    refine sr_ite (c := FI 32 r < 0) (fun c3 => absurd (by rw [hz]; exact c3) c0) (fun c3 => ?_)
    refine ⟨r, ⟨e, hr⟩, ?_⟩
    refine c5_inS (s := FI 32 r) (n := n) (by rw [← hz]; exact hs) (by omega) rfl rfl (fun c4 c5 => ?_) (fun c4 => ?_)
    · rw [← hz] at c5
      exact absurd c5 (c1.resolve_left c4)
    · refine c5_meets (a := 2) rfl (by omega) ?_
      exact ⟨rfl, .of (sp_Inv_found hI (a := 2) (by omega))⟩
  · obtain ⟨hz, n, hn, hs, hcs⟩ := sp_RB_n hB hr c0
    rw [hs] at c2
    obtain ⟨i, hi, e3⟩ := nI_ltN (by omega) c1 c2
    refine c3r_placeOf (a := r) (b := i) hB.1 e e3 (by omega) ?_
    refine c3r_setPlace (a := r) (b := i) hB.1 e e3 (by omega) ?_
    refine c4_tell ?_
    refine eX5_lay [] ?_
    refine c5_isRow (fun k hk e2 => ?_) (fun c2 => absurd e (c2 r hr))
    refine ⟨r, ⟨e, hr⟩, ?_⟩
    refine sr_ite (c := FI 32 r < 0) (fun c3 => absurd (by rw [hz]; exact c3) c0) (fun c3 => ?_)
    refine ⟨r, ⟨e, hr⟩, ?_⟩
    refine c5_inS (s := FI 32 r) (n := n) (by rw [← hz]; exact hs) (by omega) rfl rfl (fun c4 c5 => ?_) (fun c4 => ?_)
    · refine c5_rowAt (a := r) (b := i) e e3 (by omega) ?_
      refine ⟨40 * r + i, ⟨show nI 40 * a + b = _ by rw [e, e3, nI_mul, nI_add], show 40 * r + i < 240 by omega⟩, ?_⟩
      refine c5_tells ?_
      have key := sp_Inv_tell (sp_Inv_lay hI (v := c) hr hn hs hi) (FI 3 (r * 40 + i))
      refine ⟨rfl, nz, _, FJ, kp, ?_, key⟩
      have e9 : FI 33 (40 * r + i) = FI 3 (r * 40 + i) := (hcs i hi).symm
      show hp Ls nz (sr_u (sr_u (sr_u (sr_u FI 3 (r * 40 + i) c) 0 11 (FI 3 (r * 40 + i))) 33 (40 * r + i) c) 30 2 (FI 33 (40 * r + i))) FJ kp = _
      rw [e9]
      congr 1
      congr 1
      funext x y
      unfold sr_u
      by_cases h33 : x = 33
      · subst h33; simp
      · simp [h33]
    · exfalso
      rw [e3] at c4
      rcases c4 with c4 | c4
      · exact nI_pos (by omega) c4
      · exact c4 (by rw [← hz, hs]; exact nI_lt hi (by omega))
end RX
