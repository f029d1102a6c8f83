/-! pairs of calls: rows and texts -/
section RX
variable {Ls nz d : Nat} {xs : Nat → Int32} {FI : Nat → Nat → Int32} {FJ : Nat → Nat → Int64} {kp : Nat → Option Nat}
theorem c5_isText' {P : Option Value → sr_H → Prop} {h9 : sr_H} {x : Int32} (h1 : ∀ k, k < 4 → x = nI k → ∀ z, z = 1 → P (some (.int z)) h9) (h0 : (∀ k, k < 4 → x ≠ nI k) → ∀ z, z = 0 → P (some (.int z)) h9) : sr_Call mX5_isText (d + 1) [.int x] h9 P := c5_isText (fun k hk e => h1 k hk e 1 rfl) (fun c => h0 c 0 rfl)
theorem sp_nIu {a b : Nat} (ha : a < 100) (hb : b < 100) (h : nI a = nI b) : a = b := nI_inj (by omega) (by omega) h
/-- in(i, 0, size - 1), as isPlace has it -/
theorem c5_inS {P : Option Value → sr_H → Prop} {h9 : sr_H} {i lo hi s : Int32} {n : Nat} (hs : s = nI n) (hn : n ≤ 60) (hlo : lo = 0) (hhi : hi = s - nI 1) (h1 : ¬ i < 0 → i < s → P (some (.int 1)) h9) (h0 : (i < 0 ∨ ¬ i < s) → P (some (.int 0)) h9) : sr_Call mX5_in d [.int i, .int lo, .int hi] h9 P := by
  refine c5_inN (b := n) hlo (by rw [hhi, hs]) (by omega) (fun k hk e => ?_) (fun c => ?_)
  · subst e
    exact h1 (nI_pos (by omega)) (by rw [hs]; exact nI_lt hk (by omega))
  · refine h0 ?_
    by_cases hi0 : i < 0
    · exact Or.inl hi0
    · refine Or.inr (fun c2 => ?_)
      rw [hs] at c2
      obtain ⟨k, hk, e⟩ := nI_ltN (by omega) hi0 c2
      exact c k hk e
theorem sp_RB_n (hB : sp_RB FI) {a : Nat} (ha : a < 6) (h : ¬ FI 2 a < 0) : FI 2 a = FI 32 a ∧ ∃ n, n ≤ 40 ∧ FI 2 a = nI n ∧ ∀ i, i < n → FI 3 (a * 40 + i) = FI 33 (40 * a + i) := by
  obtain ⟨h1, h2⟩ := hB.2 a ha
  rcases h2 with h2 | h2
  · exact absurd (sp_m1 h2) h
  · exact ⟨h1, h2⟩
theorem sp_RC_n (hB : sp_RC FI) {a : Nat} (ha : a < 4) (h : ¬ FI 5 a < 0) : FI 5 a = FI 35 a ∧ ∃ n, n ≤ 60 ∧ FI 5 a = nI n ∧ ∀ i, i < n → FI 6 (a * 60 + i) = FI 36 (60 * a + i) := by
  obtain ⟨h1, h2⟩ := hB.2 a ha
  rcases h2 with h2 | h2
  · exact absurd (sp_m1 h2) h
  · exact ⟨h1, h2⟩
theorem sp_Inv_lay (h : sp_Inv xs nz FI FJ kp) {r n i : Nat} {v : Int32} (hr : r < 6) (hn : n ≤ 40) (hz : FI 2 r = nI n) (hi : i < n) : sp_Inv xs nz (sr_u (sr_u FI 3 (r * 40 + i) v) 33 (40 * r + i) v) FJ kp := by
  obtain ⟨hS, hO, hA, hB, hC, hH⟩ := h
  refine ⟨hS, hO, hA, ⟨hB.1, fun q hq => ?_⟩, hC, hH⟩
  show FI 2 q = FI 32 q ∧ (FI 2 q = -1 ∨ ∃ m, m ≤ 40 ∧ FI 2 q = nI m ∧ ∀ j, j < m → sr_u FI 3 (r * 40 + i) v 3 (q * 40 + j) = sr_u FI 33 (40 * r + i) v 33 (40 * q + j))
  obtain ⟨h1, h2⟩ := hB.2 q hq
  refine ⟨h1, h2.imp id (fun ⟨m, m1, m2, m3⟩ => ⟨m, m1, m2, fun j hj => ?_⟩)⟩
  by_cases e : q * 40 + j = r * 40 + i
  · rw [e, show 40 * q + j = 40 * r + i by omega, sr_u_same, sr_u_same]
  · rw [sr_u_ne _ _ e, sr_u_ne _ _ (by omega)]
    exact m3 j hj
theorem q_lay {a b c : Int32} (hI : sp_Inv xs nz FI FJ kp) : sp_two (sp_I Ls xs) mX4_lay mX5_lay (d + 4) [.int a, .int b, .int c] (hp Ls nz FI FJ kp) := by
  have hB := hI.2.2.2.1
  refine eX4_lay [] ?_
  refine c4r_refL (fun c0 => ?_) (fun r hr e c0 => ?_) (fun r hr e c0 c1 => ?_) (fun r hr e c0 c1 c2 => ?_)
  · refine eX5_lay [] ?_
    refine c5_isRow (fun k hk e => absurd e (c0 k hk)) (fun c2 => ?_)
    exact ⟨rfl, .of hI⟩
  · refine eX5_lay [] ?_
    refine c5_isRow (fun k hk e2 => ?_) (fun c2 => absurd e (c2 r hr))
    refine ⟨r, ⟨e, hr⟩, ?_⟩
    refine sr_ite (c := FI 32 r < 0) (fun c3 => ?_) (fun c3 => absurd (by rw [← (hB.2 r hr).1]; exact c0) c3)
    refine c5_meets (a := 1) rfl (by omega) ?_
    exact ⟨rfl, .of (sp_Inv_found hI (a := 1) (by omega))⟩
  · obtain ⟨hz, n, hn, hs, hcs⟩ := sp_RB_n hB hr c0
    refine eX5_lay [] ?_
    refine c5_isRow (fun k hk e2 => ?_) (fun c2 => absurd e (c2 r hr))
    refine ⟨r, ⟨e, hr⟩, ?_⟩
    refine sr_ite (c := FI 32 r < 0) (fun c3 => absurd (by rw [hz]; exact c3) c0) (fun c3 => ?_)
    refine ⟨r, ⟨e, hr⟩, ?_⟩
    refine c5_inS (s := FI 32 r) (n := n) (by rw [← hz]; exact hs) (by omega) rfl rfl (fun c4 c5 => ?_) (fun c4 => ?_)
    · rw [← hz] at c5
      exact absurd c5 (c1.resolve_left c4)
    · refine c5_meets (a := 2) rfl (by omega) ?_
      exact ⟨rfl, .of (sp_Inv_found hI (a := 2) (by omega))⟩
  · obtain ⟨hz, n, hn, hs, hcs⟩ := sp_RB_n hB hr c0
    rw [hs] at c2
    obtain ⟨i, hi, e3⟩ := nI_ltN (by omega) c1 c2
    refine c3r_placeOf (a := r) (b := i) hB.1 e e3 (by omega) ?_
    refine c3r_setPlace (a := r) (b := i) hB.1 e e3 (by omega) ?_
    refine c4_tell ?_
    refine eX5_lay [] ?_
    refine c5_isRow (fun k hk e2 => ?_) (fun c2 => absurd e (c2 r hr))
    refine ⟨r, ⟨e, hr⟩, ?_⟩
    refine sr_ite (c := FI 32 r < 0) (fun c3 => absurd (by rw [hz]; exact c3) c0) (fun c3 => ?_)
    refine ⟨r, ⟨e, hr⟩, ?_⟩
    refine c5_inS (s := FI 32 r) (n := n) (by rw [← hz]; exact hs) (by omega) rfl rfl (fun c4 c5 => ?_) (fun c4 => ?_)
    · refine c5_rowAt (a := r) (b := i) e e3 (by omega) ?_
      refine ⟨40 * r + i, ⟨show nI 40 * a + b = _ by rw [e, e3, nI_mul, nI_add], show 40 * r + i < 240 by omega⟩, ?_⟩
      refine c5_tells ?_
      have key := sp_Inv_tell (sp_Inv_lay hI (v := c) hr hn hs hi) (FI 3 (r * 40 + i))
      refine ⟨rfl, nz, _, FJ, kp, ?_, key⟩
      have e9 : FI 33 (40 * r + i) = FI 3 (r * 40 + i) := (hcs i hi).symm
      show hp Ls nz (sr_u (sr_u (sr_u (sr_u FI 3 (r * 40 + i) c) 0 11 (FI 3 (r * 40 + i))) 33 (40 * r + i) c) 30 2 (FI 33 (40 * r + i))) FJ kp = _
      rw [e9]
      congr 1
      congr 1
      funext x y
      unfold sr_u
      by_cases h33 : x = 33
      · subst h33; simp
      · simp [h33]
    · exfalso
      rw [e3] at c4
      rcases c4 with c4 | c4
      · exact nI_pos (by omega) c4
      · exact c4 (by rw [← hz, hs]; exact nI_lt hi (by omega))
theorem q_at {a b : Int32} (hI : sp_Inv xs nz FI FJ kp) : sp_two (sp_I Ls xs) mX4_at mX5_at (d + 4) [.int a, .int b] (hp Ls nz FI FJ kp) := by
  have hB := hI.2.2.2.1
  refine eX4_at [] ?_
  refine c4r_refL (fun c0 => ?_) (fun r hr e c0 => ?_) (fun r hr e c0 c1 => ?_) (fun r hr e c0 c1 c2 => ?_)
  · refine eX5_at [] ?_
    refine c5_isRow (fun k hk e => absurd e (c0 k hk)) (fun c2 => ?_)
    exact ⟨rfl, .of hI⟩
  · refine eX5_at [] ?_
    refine c5_isRow (fun k hk e2 => ?_) (fun c2 => absurd e (c2 r hr))
    refine ⟨r, ⟨e, hr⟩, ?_⟩
    refine sr_ite (c := FI 32 r < 0) (fun c3 => ?_) (fun c3 => absurd (by rw [← (hB.2 r hr).1]; exact c0) c3)
    refine c5_meets (a := 1) rfl (by omega) ?_
    exact ⟨rfl, .of (sp_Inv_found hI (a := 1) (by omega))⟩
  · obtain ⟨hz, n, hn, hs, hcs⟩ := sp_RB_n hB hr c0
    refine eX5_at [] ?_
    refine c5_isRow (fun k hk e2 => ?_) (fun c2 => absurd e (c2 r hr))
    refine ⟨r, ⟨e, hr⟩, ?_⟩
    refine sr_ite (c := FI 32 r < 0) (fun c3 => absurd (by rw [hz]; exact c3) c0) (fun c3 => ?_)
    refine ⟨r, ⟨e, hr⟩, ?_⟩
    refine c5_inS (s := FI 32 r) (n := n) (by rw [← hz]; exact hs) (by omega) rfl rfl (fun c4 c5 => ?_) (fun c4 => ?_)
    · rw [← hz] at c5
      exact absurd c5 (c1.resolve_left c4)
    · refine c5_meets (a := 2) rfl (by omega) ?_
      exact ⟨rfl, .of (sp_Inv_found hI (a := 2) (by omega))⟩
  · obtain ⟨hz, n, hn, hs, hcs⟩ := sp_RB_n hB hr c0
    rw [hs] at c2
    obtain ⟨i, hi, e3⟩ := nI_ltN (by omega) c1 c2
    refine c3r_placeOf (a := r) (b := i) hB.1 e e3 (by omega) ?_
    refine c4_tell ?_
    refine eX5_at [] ?_
    refine c5_isRow (fun k hk e2 => ?_) (fun c2 => absurd e (c2 r hr))
    refine ⟨r, ⟨e, hr⟩, ?_⟩
    refine sr_ite (c := FI 32 r < 0) (fun c3 => absurd (by rw [hz]; exact c3) c0) (fun c3 => ?_)
    refine ⟨r, ⟨e, hr⟩, ?_⟩
    refine c5_inS (s := FI 32 r) (n := n) (by rw [← hz]; exact hs) (by omega) rfl rfl (fun c4 c5 => ?_) (fun c4 => ?_)
    · refine c5_rowAt (a := r) (b := i) e e3 (by omega) ?_
      refine c5_tells ?_
      have key := sp_Inv_tell hI (FI 3 (r * 40 + i))
      refine ⟨rfl, nz, _, FJ, kp, ?_, key⟩
      have e9 : FI 33 (40 * r + i) = FI 3 (r * 40 + i) := (hcs i hi).symm
      show hp Ls nz (sr_u (sr_u FI 0 11 (FI 3 (r * 40 + i))) 30 2 (FI 33 (40 * r + i))) FJ kp = _
      rw [e9]
    · exfalso
      rw [e3] at c4
      rcases c4 with c4 | c4
      · exact nI_pos (by omega) c4
      · exact c4 (by rw [← hz, hs]; exact nI_lt hi (by omega))
theorem sp_Inv_tear (h : sp_Inv xs nz FI FJ kp) {r : Nat} : sp_Inv xs nz (sr_u (sr_u FI 2 r (-1)) 32 r (-1)) FJ kp := by
  obtain ⟨hS, hO, hA, hB, hC, hH⟩ := h
  refine ⟨hS, hO, hA, ⟨hB.1, fun q hq => ?_⟩, hC, hH⟩
  show sr_u FI 2 r (-1) 2 q = sr_u FI 32 r (-1) 32 q ∧ (sr_u FI 2 r (-1) 2 q = -1 ∨ ∃ m, m ≤ 40 ∧ sr_u FI 2 r (-1) 2 q = nI m ∧ ∀ j, j < m → FI 3 (q * 40 + j) = FI 33 (40 * q + j))
  by_cases hqr : q = r
  · subst hqr
    rw [sr_u_same, sr_u_same]
    exact ⟨rfl, Or.inl rfl⟩
  · rw [sr_u_ne _ _ hqr, sr_u_ne _ _ hqr]
    exact hB.2 q hq
theorem q_tear {a : Int32} (hI : sp_Inv xs nz FI FJ kp) : sp_two (sp_I Ls xs) mX4_tear mX5_tear (d + 4) [.int a] (hp Ls nz FI FJ kp) := by
  have hB := hI.2.2.2.1
  refine eX4_tear [] ?_
  refine c4r_refP (fun c0 => ?_) (fun r hr e c0 => ?_) (fun r hr e c0 => ?_)
  · refine eX5_tear [] ?_
    refine c5_isRow (fun k hk e => absurd e (c0 k hk)) (fun c2 => ?_)
    exact ⟨rfl, .of hI⟩
  · refine eX5_tear [] ?_
    refine c5_isRow (fun k hk e2 => ?_) (fun c2 => absurd e (c2 r hr))
    refine ⟨r, ⟨e, hr⟩, ?_⟩
    refine sr_ite (c := FI 32 r < 0) (fun c3 => ?_) (fun c3 => absurd (by rw [← (hB.2 r hr).1]; exact c0) c3)
    refine c5_meets (a := 1) rfl (by omega) ?_
    exact ⟨rfl, .of (sp_Inv_found hI (a := 1) (by omega))⟩
  · obtain ⟨hz, n, hn, hs, hcs⟩ := sp_RB_n hB hr c0
    refine c3r_remove hr e ?_
    refine eX5_tear [] ?_
    refine c5_isRow (fun k hk e2 => ?_) (fun c2 => absurd e (c2 r hr))
    refine ⟨r, ⟨e, hr⟩, ?_⟩
    refine sr_ite (c := FI 32 r < 0) (fun c3 => absurd (by rw [hz]; exact c3) c0) (fun c3 => ?_)
    refine ⟨r, ⟨e, hr⟩, ?_⟩
    exact ⟨rfl, .of (sp_Inv_tear hI)⟩
theorem sp_Inv_text (h : sp_Inv xs nz FI FJ kp) {r n : Nat} (hr : r < 4) (hn : n ≤ 60) : sp_Inv xs nz (sr_fill (sr_u (sr_fill (sr_u FI 5 r (nI n)) 6 (r * 60) n (nI 32)) 35 r (nI n)) 36 (60 * r) 60 (nI 32)) FJ kp := by
  obtain ⟨hS, hO, hA, hB, hC, hH⟩ := h
  refine ⟨hS, hO, hA, hB, ⟨hC.1, fun q hq => ?_⟩, hH⟩
  show sr_u FI 5 r (nI n) 5 q = sr_u FI 35 r (nI n) 35 q ∧ (sr_u FI 5 r (nI n) 5 q = -1 ∨ ∃ m, m ≤ 60 ∧ sr_u FI 5 r (nI n) 5 q = nI m ∧ ∀ i, i < m → sr_fill FI 6 (r * 60) n (nI 32) 6 (q * 60 + i) = sr_fill FI 36 (60 * r) 60 (nI 32) 36 (60 * q + i))
  by_cases hqr : q = r
  · subst hqr
    rw [sr_u_same, sr_u_same]
    refine ⟨rfl, Or.inr ⟨n, hn, rfl, fun i hi => ?_⟩⟩
    unfold sr_fill
    rw [if_pos (by omega), if_pos (by omega)]
  · rw [sr_u_ne _ _ hqr, sr_u_ne _ _ hqr]
    obtain ⟨h1, h2⟩ := hC.2 q hq
    refine ⟨h1, h2.imp id (fun ⟨m, m1, m2, m3⟩ => ⟨m, m1, m2, fun i hi => ?_⟩)⟩
    unfold sr_fill
    rw [if_neg (by omega), if_neg (by omega)]
    exact m3 i hi
theorem q_text {a b : Int32} (hI : sp_Inv xs nz FI FJ kp) : sp_two (sp_I Ls xs) mX4_text mX5_text (d + 3) [.int a, .int b] (hp Ls nz FI FJ kp) := by
  have hC := hI.2.2.2.2.1
  refine eX4_text [] ?_
  refine c4t_make hC.1 (fun c => ?_) (fun r hr e c => ?_) (fun r n hr hn e1 e2 => ?_)
  · refine eX5_text [34] ?_
    refine c5_isText' (fun k hk e z hz => ?_) (fun c2 z hz => ?_)
    · rcases c with c | c
      · exact absurd e (c k hk)
      · refine sr_n1 hz ?_
        refine sr_ite (c := nI 60 < b) (fun c2 => ?_) (fun c2 => absurd c c2)
        exact ⟨rfl, .of hI⟩
    · subst hz; exact ⟨rfl, .of hI⟩
  · refine eX5_text [34] ?_
    refine c5_isText' (fun k hk e z hz => ?_) (fun c2 => absurd e (c2 r hr))
    refine sr_n1 hz ?_
    refine sr_ite (c := nI 60 < b) (fun c2 => ?_) (fun c2 => ?_)
    · exfalso
      have h1 := Int32.lt_iff_toInt_lt.mp c
      have h2 := Int32.lt_iff_toInt_lt.mp c2
      rw [nI_toInt (by omega)] at h2
      have : (0 : Int32).toInt = 0 := rfl
      omega
    · refine sr_ite (c := b < 0) (fun c3 => ?_) (fun c3 => absurd c c3)
      refine c5_meets (a := 5) rfl (by omega) ?_
      exact ⟨rfl, .of (sp_Inv_found hI (a := 5) (by omega))⟩
  · subst e1; subst e2
    refine eX5_text [34] ?_
    refine c5_isText' (fun k hk e z hz => ?_) (fun c2 => absurd rfl (c2 r hr))
    refine sr_n1 hz ?_
    refine sr_ite (c := nI 60 < nI n) (fun c2 => ?_) (fun c2 => ?_)
    · exact absurd c2 (nI_nlt (by omega) (by omega))
    · refine sr_ite (c := nI n < 0) (fun c3 => absurd c3 (nI_pos (by omega))) (fun c3 => ?_)
      refine ⟨r, ⟨rfl, hr⟩, ?_⟩
      have loop : ∀ (m i : Nat) (x : Int32), i + m = 60 → x = nI i → sr_Go mX5_text (d + 3) 34 [some (.ref 30), some (.int (nI r)), some (.int (nI n)), some (.int x)] [] (0, 0) (hp Ls nz (sr_fill (sr_u (sr_fill (sr_u FI 5 r (nI n)) 6 (r * 60) n (nI 32)) 35 r (nI n)) 36 (60 * r) i (nI 32)) FJ kp) (fun v2 h2 => v2 = some (.int (nI n)) ∧ sp_I Ls xs h2) := by
        intro m
        induction m with
        | zero =>
          intro i x hi hx
          refine eX5_text [34] ?_
          refine sr_ite (c := x < nI 60) (fun c => ?_) (fun c => ?_)
          · exfalso; rw [hx] at c; have := (nI_ltI (by omega) (by omega)).mp c; omega
          · have : i = 60 := by omega
            subst this
            exact ⟨rfl, .of (sp_Inv_text hI hr hn)⟩
        | succ m ih =>
          intro i x hi hx
          refine eX5_text [34] ?_
          refine sr_ite (c := x < nI 60) (fun c => ?_) (fun c => ?_)
          · refine ⟨60 * r + i, ⟨show nI 60 * nI r + x = _ by rw [hx, nI_mul, nI_add], show 60 * r + i < 240 by omega⟩, ?_⟩
            have := ih (i + 1) (x + nI 1) (by omega) (by rw [hx, nI_add])
            rw [← sr_fill_s] at this
            exact this
          · exfalso; rw [hx] at c; exact c (nI_lt (by omega) (by omega))
      have := loop 60 0 0 (by omega) rfl
      rw [sr_fill_0] at this
      exact this
theorem sp_Inv_put (h : sp_Inv xs nz FI FJ kp) {r n i : Nat} {v : Int32} (hr : r < 4) (hn : n ≤ 60) (hz : FI 5 r = nI n) (hi : i < n) : sp_Inv xs nz (sr_u (sr_u FI 6 (r * 60 + i) v) 36 (60 * r + i) v) FJ kp := by
  obtain ⟨hS, hO, hA, hB, hC, hH⟩ := h
  refine ⟨hS, hO, hA, hB, ⟨hC.1, fun q hq => ?_⟩, hH⟩
  show FI 5 q = FI 35 q ∧ (FI 5 q = -1 ∨ ∃ m, m ≤ 60 ∧ FI 5 q = nI m ∧ ∀ j, j < m → sr_u FI 6 (r * 60 + i) v 6 (q * 60 + j) = sr_u FI 36 (60 * r + i) v 36 (60 * q + j))
  obtain ⟨h1, h2⟩ := hC.2 q hq
  refine ⟨h1, h2.imp id (fun ⟨m, m1, m2, m3⟩ => ⟨m, m1, m2, fun j hj => ?_⟩)⟩
  by_cases e : q * 60 + j = r * 60 + i
  · rw [e, show 60 * q + j = 60 * r + i by omega, sr_u_same, sr_u_same]
  · rw [sr_u_ne _ _ e, sr_u_ne _ _ (by omega)]
    exact m3 j hj
theorem q_put {a b c : Int32} (hI : sp_Inv xs nz FI FJ kp) : sp_two (sp_I Ls xs) mX4_put mX5_put (d + 4) [.int a, .int b, .int c] (hp Ls nz FI FJ kp) := by
  have hB := hI.2.2.2.2.1
  refine eX4_put [] ?_
  refine c4t_refL (fun c0 => ?_) (fun r hr e c0 => ?_) (fun r hr e c0 c1 => ?_) (fun r hr e c0 c1 c2 => ?_)
  · refine eX5_put [] ?_
    refine c5_isText (fun k hk e => absurd e (c0 k hk)) (fun c2 => ?_)
    exact ⟨rfl, .of hI⟩
  · refine eX5_put [] ?_
    refine c5_isText (fun k hk e2 => ?_) (fun c2 => absurd e (c2 r hr))
    refine ⟨r, ⟨e, hr⟩, ?_⟩
    refine sr_ite (c := FI 35 r < 0) (fun c3 => ?_) (fun c3 => absurd (by rw [← (hB.2 r hr).1]; exact c0) c3)
    refine c5_meets (a := 1) rfl (by omega) ?_
    exact ⟨rfl, .of (sp_Inv_found hI (a := 1) (by omega))⟩
  · obtain ⟨hz, n, hn, hs, hcs⟩ := sp_RC_n hB hr c0
    refine eX5_put [] ?_
    refine c5_isText (fun k hk e2 => ?_) (fun c2 => absurd e (c2 r hr))
    refine ⟨r, ⟨e, hr⟩, ?_⟩
    refine sr_ite (c := FI 35 r < 0) (fun c3 => absurd (by rw [hz]; exact c3) c0) (fun c3 => ?_)
    refine ⟨r, ⟨e, hr⟩, ?_⟩
    refine c5_inS (s := FI 35 r) (n := n) (by rw [← hz]; exact hs) (by omega) rfl rfl (fun c4 c5 => ?_) (fun c4 => ?_)
    · rw [← hz] at c5
      exact absurd c5 (c1.resolve_left c4)
    · refine c5_meets (a := 2) rfl (by omega) ?_
      exact ⟨rfl, .of (sp_Inv_found hI (a := 2) (by omega))⟩
  · obtain ⟨hz, n, hn, hs, hcs⟩ := sp_RC_n hB hr c0
    rw [hs] at c2
    obtain ⟨i, hi, e3⟩ := nI_ltN (by omega) c1 c2
    refine c3t_placeOf (a := r) (b := i) hB.1 e e3 (by omega) ?_
    refine c3t_setPlace (a := r) (b := i) hB.1 e e3 (by omega) ?_
    refine eX5_put [] ?_
    refine c5_isText (fun k hk e2 => ?_) (fun c2 => absurd e (c2 r hr))
    refine ⟨r, ⟨e, hr⟩, ?_⟩
    refine sr_ite (c := FI 35 r < 0) (fun c3 => absurd (by rw [hz]; exact c3) c0) (fun c3 => ?_)
    refine ⟨r, ⟨e, hr⟩, ?_⟩
    refine c5_inS (s := FI 35 r) (n := n) (by rw [← hz]; exact hs) (by omega) rfl rfl (fun c4 c5 => ?_) (fun c4 => ?_)
    · refine ⟨60 * r + i, ⟨show nI 60 * a + b = _ by rw [e, e3, nI_mul, nI_add], show 60 * r + i < 240 by omega⟩, ⟨60 * r + i, ⟨show nI 60 * a + b = _ by rw [e, e3, nI_mul, nI_add], show 60 * r + i < 240 by omega⟩, ?_⟩⟩
      have key := sp_Inv_put hI (v := c.toInt8.toInt32) hr hn hs hi
      have e9 : FI 36 (60 * r + i) = FI 6 (r * 60 + i) := (hcs i hi).symm
      have e8 : c.toInt8.toInt32.toInt8.toInt32 = c.toInt8.toInt32 := (vp_nar_byte _).symm.trans (pk_vb c)
      refine ⟨?_, nz, _, FJ, kp, ?_, key⟩
      · show some (Value.int (sr_k 1000 + FI 36 (60 * r + i))) = some (Value.int (sr_k 1000 + FI 6 (r * 60 + i)))
        rw [e9]
      · show hp Ls nz (sr_u (sr_u FI 6 (r * 60 + i) c.toInt8.toInt32) 36 (60 * r + i) c.toInt8.toInt32.toInt8.toInt32) FJ kp = _
        rw [e8]
    · exfalso
      rw [e3] at c4
      rcases c4 with c4 | c4
      · exact nI_pos (by omega) c4
      · exact c4 (by rw [← hz, hs]; exact nI_lt hi (by omega))
end RX
