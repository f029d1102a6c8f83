/-! pairs of calls: mean, copy -/
theorem sp_sum_eq {f g : Nat → Int32} : ∀ n, (∀ i, i < n → f i = g i) → sp_sum f n = sp_sum g n
  | 0, _ => rfl
  | n + 1, h => by
    unfold sp_sum
    rw [sp_sum_eq n (fun i hi => h i (by omega)), h n (by omega)]
theorem nl_ne {n : Nat} (h0 : 0 < n) (h : n < 1000) : ¬ (nI n).toInt64 = 0 := by
  rw [nI_l (by omega)]
  intro e
  have := (lN_eq (a := n) (b := 0) (by omega) (by omega)).mp e
  omega
theorem lg_gt {x y : Int64} : 0 < lg_cmp x y ↔ y < x := by
  unfold lg_cmp
  by_cases h1 : y < x
  · simp [h1]
  · by_cases h2 : x = y
    · simp [h2]
    · simp [h1, h2]
section RY
variable {Ls nz d : Nat} {xs : Nat → Int32} {FI : Nat → Nat → Int32} {FJ : Nat → Nat → Int64} {kp : Nat → Option Nat}
theorem q_mean {a : Int32} (hI : sp_Inv xs nz FI FJ kp) : sp_two (sp_I Ls xs) mX4_mean mX5_mean (d + 4) [.int a] (hp Ls nz FI FJ kp) := by
  have hB := hI.2.2.2.1
  refine eX4_mean [] ?_
  refine c4r_refP (fun c0 => ?_) (fun r hr e c0 => ?_) (fun r hr e c0 => ?_)
  · refine eX5_mean [44] ?_
    refine c5_isRow (fun k hk e => absurd e (c0 k hk)) (fun c2 => ?_)
    exact ⟨rfl, .of hI⟩
  · refine eX5_mean [44] ?_
    refine c5_isRow (fun k hk e2 => ?_) (fun c2 => absurd e (c2 r hr))
    refine ⟨r, ⟨e, hr⟩, ?_⟩
    refine sr_ite (c := FI 32 r < 0) (fun c3 => ?_) (fun c3 => absurd (by rw [← (hB.2 r hr).1]; exact c0) c3)
    refine c5_meets (a := 1) rfl (by omega) ?_
    exact ⟨rfl, .of (sp_Inv_found hI (a := 1) (by omega))⟩
  · obtain ⟨hz, n, hn, hs, hcs⟩ := sp_RB_n hB hr c0
    refine c3r_sizeOf hr e ?_
    refine sr_ite (c := FI 2 r < nI 1) (fun c1 => ?_) (fun c1 => ?_)
    · rw [hs] at c1
      have c1 := (nI_ltI (by omega) (by omega)).mp c1
      refine c4_found (a := 4) rfl (by omega) ?_
      refine eX5_mean [44] ?_
      refine c5_isRow (fun k hk e2 => ?_) (fun c2 => absurd e (c2 r hr))
      refine ⟨r, ⟨e, hr⟩, ?_⟩
      refine sr_ite (c := FI 32 r < 0) (fun c3 => absurd (by rw [hz]; exact c3) c0) (fun c3 => ?_)
      refine ⟨r, ⟨e, hr⟩, ?_⟩
      refine sr_ite (c := FI 32 r = 0) (fun c4 => ?_) (fun c4 => absurd (by rw [← hz, hs, show n = 0 by omega]; rfl) c4)
      refine c5_meets (a := 4) rfl (by omega) ?_
      exact ⟨rfl, .of (sp_Inv_found hI (a := 4) (by omega))⟩
    · rw [hs] at c1
      have hn0 : 0 < n := by
        rcases Nat.eq_zero_or_pos n with h | h
        · subst h; exact absurd (nI_lt (by omega) (by omega)) c1
        · exact h
      refine c3r_sumOf (a := r) (k := n) hB.1 hr e hn hs ?_
      have hd0 : ¬ (FI 2 r).toInt64 = 0 := by rw [hs]; exact nl_ne hn0 (by omega)
      refine ⟨hd0, ?_⟩
      refine c4_tell ?_
      refine eX5_mean [44] ?_
      refine c5_isRow (fun k hk e2 => ?_) (fun c2 => absurd e (c2 r hr))
      refine ⟨r, ⟨e, hr⟩, ?_⟩
      refine sr_ite (c := FI 32 r < 0) (fun c3 => absurd (by rw [hz]; exact c3) c0) (fun c3 => ?_)
      refine ⟨r, ⟨e, hr⟩, ?_⟩
      refine sr_ite (c := FI 32 r = 0) (fun c4 => ?_) (fun c4 => ?_)
      · exfalso
        rw [← hz, hs] at c4
        have := nI_inj (a := n) (b := 0) (by omega) (by omega) c4
        omega
      generalize hv : ((sp_sum (fun i => FI 3 (r * 40 + i)) n) / (FI 2 r).toInt64).toInt32 = v
      have loop : ∀ (m i : Nat) (x : Int32) (s : Int64), i + m = n → x = nI i → s = sp_sum (fun i => FI 33 (40 * r + i)) i → sr_Go mX5_mean (d + 4) 44 [some (.ref 30), some (.int a), some (.long s), none, some (.int x)] [] (0, 0) (hp Ls nz (sr_u FI 0 11 v) FJ kp) (fun v2 h2 => v2 = some (.int (sr_k 1)) ∧ sp_I Ls xs h2) := by
        intro m
        induction m with
        | zero =>
          intro i x s hi hx hs2
          refine eX5_mean [44] ?_
          refine ⟨r, ⟨e, hr⟩, ?_⟩
          refine sr_ite (c := x < FI 32 r) (fun c => ?_) (fun c => ?_)
          · exfalso; rw [hx, ← hz, hs] at c; have := (nI_ltI (by omega) (by omega)).mp c; omega
          · have : i = n := by omega
            subst this
            refine ⟨r, ⟨e, hr⟩, ⟨?_, ?_⟩⟩
            · show ¬ (FI 32 r).toInt64 = 0
              rw [← hz]; exact hd0
            · refine c5_tells ?_
              have e9 : (s / (FI 32 r).toInt64).toInt32 = v := by
                rw [hs2, ← hz, ← hv, sp_sum_eq i (fun j hj => (hcs j hj).symm)]
              refine ⟨rfl, nz, _, FJ, kp, ?_, sp_Inv_tell hI v⟩
              show hp Ls nz (sr_u (sr_u FI 0 11 v) 30 2 (s / (FI 32 r).toInt64).toInt32) FJ kp = _
              rw [e9]
        | succ m ih =>
          intro i x s hi hx hs2
          refine eX5_mean [44] ?_
          refine ⟨r, ⟨e, hr⟩, ?_⟩
          refine sr_ite (c := x < FI 32 r) (fun c => ?_) (fun c => ?_)
          · refine c5_rowAt (a := r) (b := i) e hx (by omega) ?_
            refine ih (i + 1) _ _ (by omega) (by rw [hx]; exact nI_1 i) ?_
            rw [hs2]
            rfl
          · exfalso; rw [hx, ← hz, hs] at c; exact c (nI_lt (by omega) (by omega))
      exact loop n 0 0 0 (by omega) rfl rfl
theorem c3r_copyPlaces {P : Option Value → sr_H → Prop} {a c i j k : Nat} {p x q y n : Int32} (hw : FI 1 0 = nI 40) (hp_ : p = nI a) (hx : x = nI i) (hq : q = nI c) (hy : y = nI j) (hn : n = nI k) (h1 : a * 40 + i + k ≤ 240) (h2 : c * 40 + j + k ≤ 240) (h : P none (hp Ls nz (fun u z => if u = 3 then va_cpy (FI 3) (FI 3) (a * 40 + i) (c * 40 + j) k z else FI u z) FJ kp)) : sr_Call mX3_copyPlaces (d + 1) [.ref 1, .int p, .int x, .int q, .int y, .int n] (hp Ls nz FI FJ kp) P := by
  refine eX3_copyPlaces [] ?_
  refine ⟨a * 40 + i, c * 40 + j, k, ⟨?_, ?_, hn, h1, h2⟩, h⟩
  · show p * FI 1 0 + x = _
    rw [hp_, hx, hw, nI_mul, nI_add]
  · show q * FI 1 0 + y = _
    rw [hq, hy, hw, nI_mul, nI_add]
/-- are there n places from i on, of S -/
def sp_ok (i : Int32) (N S : Nat) : Prop := ∃ I : Nat, i = nI I ∧ I + N ≤ S
theorem sp_okX {i : Int32} {N S : Nat} (hS : S ≤ 40) (hN : N < 2147483648) (h1 : ¬ i < 0) (h2 : ¬ nI S < i) (h3 : ¬ nI S - i < nI N) : sp_ok i N S := by
  obtain ⟨I, hI, rfl⟩ := nI_leN (by omega) h1 h2
  rw [nI_sub hI] at h3
  refine ⟨I, rfl, ?_⟩
  by_cases h9 : I + N ≤ S
  · exact h9
  · exact absurd (nI_lt (by omega) (by omega)) h3
theorem sp_okX0 {i : Int32} {N S : Nat} (hS : S ≤ 40) (hN : N < 2147483648) (h : i < 0 ∨ nI S < i ∨ nI S - i < nI N) : ¬ sp_ok i N S := by
  rintro ⟨I, rfl, hI⟩
  rcases h with h | h | h
  · exact nI_pos (by omega) h
  · exact nI_nlt (by omega) (by omega) h
  · rw [nI_sub (by omega)] at h
    exact nI_nlt (by omega) (by omega) h
theorem sp_okM {i : Int32} {N S : Nat} (hS : S ≤ 40) (hN : N < 2147483648) (h0 : ¬ i < 0) : (nI S).toInt64 < i.toInt64 + (nI N).toInt64 ↔ ¬ sp_ok i N S := by
  obtain ⟨I, hI, rfl⟩ := nI_all h0
  rw [nI_l (by omega), nI_l (by omega), nI_l (by omega), lN_add, pk_lLT (by omega) (by omega)]
  constructor
  · rintro h ⟨J, e, hJ⟩
    have := nI_inj (by omega) (by omega) e
    omega
  · intro h
    by_cases h9 : S < I + N
    · exact h9
    · exact absurd ⟨I, rfl, by omega⟩ h
end RY
