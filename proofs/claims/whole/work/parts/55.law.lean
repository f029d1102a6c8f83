/-! the law -/
theorem lw_cmp {a i : Nat} (ha : a ≤ 384) (hi : i < 1000) : nI a - nI 6 < nI i ↔ a < i + 6 := by
  by_cases c : 6 ≤ a
  · rw [nI_sub c, nI_ltI (by omega) (by omega)]
    omega
  · have : ∀ a, a < 6 → (nI a - nI 6).toInt < 0 := by decide +kernel
    have := this a (by omega)
    constructor
    · intro _; omega
    · intro _
      rw [Int32.lt_iff_toInt_lt, nI_toInt (by omega)]
      omega
section LL
variable {Ls d : Nat} {xs : Nat → Int32}
set_option maxRecDepth 50000 in
theorem lw_loop (hL : Ls ≤ 384) : ∀ (m i : Nat) (z : Int32) (nz : Nat) (FI : Nat → Nat → Int32) (FJ : Nat → Nat → Int64) (kp : Nat → Option Nat) (b : Nat × Nat), z = nI i → i ≤ Ls + 6 → Ls < i + 6 * m + 6 → 5 * m ≤ b.1 → 142 * m ≤ b.2 → sp_Inv xs nz FI FJ kp → sr_Go mL_law (d + 10) 18 (lw_L z) [] b (hp Ls nz FI FJ kp) (fun v _ => v = some (.int 1)) := by
  intro m
  induction m with
  | zero =>
    intro i z nz FI FJ kp b hz hi hm hb1 hb2 hI
    refine eL_law [18] ?_
    refine sr_ite (c := nI Ls - nI 6 < z) (fun _ => ?_) (fun q => absurd (by rw [hz, lw_cmp hL (by omega)]; omega) q)
    exact ⟨Or.inr rfl, rfl⟩
  | succ m ih =>
    intro i z nz FI FJ kp b hz hi hm hb1 hb2 hI
    have next : ∀ (nz : Nat) (FI : Nat → Nat → Int32) (FJ : Nat → Nat → Int64) (kp : Nat → Option Nat) (b' : Nat × Nat), i + 6 ≤ Ls → sp_Inv xs nz FI FJ kp → b.1 ≤ b'.1 + 5 → b.2 ≤ b'.2 + 142 → sr_Go mL_law (d + 10) 1443 (lw_L z) [] b' (hp Ls nz FI FJ kp) (fun v _ => v = some (.int 1)) := by
      intro nz FI FJ kp b' hi2 hI c1 c2
      refine eL_law [18] ?_
      exact ih (i + 6) _ nz FI FJ kp b' (show z + nI 6 = _ by rw [hz, nI_add]) (by omega) (by omega) (by omega) (by omega) hI
    refine eL_law [232, 265, 308, 341, 364, 427, 450, 483, 526, 549, 572, 605, 638, 671, 694, 727, 750, 773, 796, 819, 852, 875, 898, 921, 954, 977, 1000, 1023, 1056, 1079, 1092, 1105, 1138, 1151, 1184, 1207, 1240, 1263, 1296, 1329, 1342, 1356, 1370, 1393, 1406, 1429, 1443] ?_
    refine sr_ite (c := nI Ls - nI 6 < z) (fun _ => ?_) (fun q => ?_)
    · exact ⟨Or.inr rfl, rfl⟩
    have q2 : i + 6 ≤ Ls := by
      rw [hz, lw_cmp hL (by omega)] at q
      omega
    have nx := fun nz FI FJ kp b' => next nz FI FJ kp b' q2
    have h1 : 5 ≤ b.1 := by omega
    have h2 : 142 ≤ b.2 := by omega
    refine ⟨i, ⟨hz, show i < Ls by omega⟩, ?_⟩
    refine sr_ite (c := FI 1000002 i &&& nI 63 = nI 0) (fun _ => lw_c_row hI hz q2 h1 h2 nx) (fun _ => ?_)
    refine sr_ite (c := FI 1000002 i &&& nI 63 = nI 1) (fun _ => lw_c_lay hI hz q2 h1 h2 nx) (fun _ => ?_)
    refine sr_ite (c := FI 1000002 i &&& nI 63 = nI 2) (fun _ => lw_c_at hI hz q2 h1 h2 nx) (fun _ => ?_)
    refine sr_ite (c := FI 1000002 i &&& nI 63 = nI 3) (fun _ => lw_c_tear hI hz q2 h1 h2 nx) (fun _ => ?_)
    refine sr_ite (c := FI 1000002 i &&& nI 63 = nI 4) (fun _ => lw_c_copy hI hz q2 h1 h2 nx) (fun _ => ?_)
    refine sr_ite (c := FI 1000002 i &&& nI 63 = nI 5) (fun _ => lw_c_mean hI hz q2 h1 h2 nx) (fun _ => ?_)
    refine sr_ite (c := FI 1000002 i &&& nI 63 = nI 6) (fun _ => lw_c_text hI hz q2 h1 h2 nx) (fun _ => ?_)
    refine sr_ite (c := FI 1000002 i &&& nI 63 = nI 7) (fun _ => lw_c_put hI hz q2 h1 h2 nx) (fun _ => ?_)
    refine sr_ite (c := FI 1000002 i &&& nI 63 = nI 8) (fun _ => lw_c_fault hI hz q2 h1 h2 nx) (fun _ => ?_)
    refine sr_ite (c := FI 1000002 i &&& nI 63 = nI 9) (fun _ => lw_c_hotel hI hz q2 h1 h2 nx) (fun _ => ?_)
    refine sr_ite (c := FI 1000002 i &&& nI 63 = nI 10) (fun _ => lw_c_guest hI hz q2 h1 h2 nx) (fun _ => ?_)
    refine sr_ite (c := FI 1000002 i &&& nI 63 = nI 11) (fun _ => lw_c_mark hI hz q2 h1 h2 nx) (fun _ => ?_)
    refine sr_ite (c := FI 1000002 i &&& nI 63 = nI 12) (fun _ => lw_c_turn hI hz q2 h1 h2 nx) (fun _ => ?_)
    refine sr_ite (c := FI 1000002 i &&& nI 63 = nI 13) (fun _ => lw_c_change hI hz q2 h1 h2 nx) (fun _ => ?_)
    refine sr_ite (c := FI 1000002 i &&& nI 63 = nI 14) (fun _ => lw_c_lock hI hz q2 h1 h2 nx) (fun _ => ?_)
    refine sr_ite (c := FI 1000002 i &&& nI 63 = nI 15) (fun _ => lw_c_use hI hz q2 h1 h2 nx) (fun _ => ?_)
    refine sr_ite (c := FI 1000002 i &&& nI 63 = nI 16) (fun _ => lw_c_undo hI hz q2 h1 h2 nx) (fun _ => ?_)
    refine sr_ite (c := FI 1000002 i &&& nI 63 = nI 17) (fun _ => lw_c_keep hI hz q2 h1 h2 nx) (fun _ => ?_)
    refine sr_ite (c := FI 1000002 i &&& nI 63 = nI 18) (fun _ => lw_c_on hI hz q2 h1 h2 nx) (fun _ => ?_)
    refine sr_ite (c := FI 1000002 i &&& nI 63 = nI 19) (fun _ => lw_c_things hI hz q2 h1 h2 nx) (fun _ => ?_)
    refine sr_ite (c := FI 1000002 i &&& nI 63 = nI 20) (fun _ => lw_c_both hI hz q2 h1 h2 nx) (fun _ => ?_)
    refine sr_ite (c := FI 1000002 i &&& nI 63 = nI 21) (fun _ => lw_c_apart hI hz q2 h1 h2 nx) (fun _ => ?_)
    refine sr_ite (c := FI 1000002 i &&& nI 63 = nI 22) (fun _ => lw_c_has hI hz q2 h1 h2 nx) (fun _ => ?_)
    refine sr_ite (c := FI 1000002 i &&& nI 63 = nI 23) (fun _ => lw_c_fits hI hz q2 h1 h2 nx) (fun _ => ?_)
    refine sr_ite (c := FI 1000002 i &&& nI 63 = nI 24) (fun _ => lw_c_looks hI hz q2 h1 h2 nx) (fun _ => ?_)
    refine sr_ite (c := FI 1000002 i &&& nI 63 = nI 25) (fun _ => lw_c_drawer hI hz q2 h1 h2 nx) (fun _ => ?_)
    refine sr_ite (c := FI 1000002 i &&& nI 63 = nI 26) (fun _ => lw_c_lives hI hz q2 h1 h2 nx) (fun _ => ?_)
    refine sr_ite (c := FI 1000002 i &&& nI 63 = nI 27) (fun _ => lw_c_nearest hI hz q2 h1 h2 nx) (fun _ => ?_)
    refine sr_ite (c := FI 1000002 i &&& nI 63 = nI 28) (fun _ => lw_c_twins hI hz q2 h1 h2 nx) (fun _ => ?_)
    refine sr_ite (c := FI 1000002 i &&& nI 63 = nI 29) (fun _ => lw_c_pairs hI hz q2 h1 h2 nx) (fun _ => ?_)
    refine sr_ite (c := FI 1000002 i &&& nI 63 = nI 30) (fun _ => lw_c_ring hI hz q2 h1 h2 nx) (fun _ => ?_)
    refine sr_ite (c := FI 1000002 i &&& nI 63 = nI 31) (fun _ => lw_c_who hI hz q2 h1 h2 nx) (fun _ => ?_)
    refine sr_ite (c := FI 1000002 i &&& nI 63 = nI 32) (fun _ => lw_c_marks hI hz q2 h1 h2 nx) (fun _ => ?_)
    refine sr_ite (c := FI 1000002 i &&& nI 63 = nI 33) (fun _ => lw_c_bill hI hz q2 h1 h2 nx) (fun _ => ?_)
    refine sr_ite (c := FI 1000002 i &&& nI 63 = nI 34) (fun _ => lw_c_pays hI hz q2 h1 h2 nx) (fun _ => ?_)
    refine sr_ite (c := FI 1000002 i &&& nI 63 = nI 35) (fun _ => lw_c_cheapest hI hz q2 h1 h2 nx) (fun _ => ?_)
    refine sr_ite (c := FI 1000002 i &&& nI 63 = nI 36) (fun _ => lw_c_spread hI hz q2 h1 h2 nx) (fun _ => ?_)
    refine sr_ite (c := FI 1000002 i &&& nI 63 = nI 37) (fun _ => lw_c_odds hI hz q2 h1 h2 nx) (fun _ => ?_)
    refine sr_ite (c := FI 1000002 i &&& nI 63 = nI 38) (fun _ => lw_c_lots hI hz q2 h1 h2 nx) (fun _ => ?_)
    refine sr_ite (c := FI 1000002 i &&& nI 63 = nI 39) (fun _ => lw_c_asked hI hz q2 h1 h2 nx) (fun _ => ?_)
    refine sr_ite (c := FI 1000002 i &&& nI 63 = nI 40) (fun _ => lw_c_upper hI hz q2 h1 h2 nx) (fun _ => ?_)
    refine sr_ite (c := FI 1000002 i &&& nI 63 = nI 41) (fun _ => lw_c_lower hI hz q2 h1 h2 nx) (fun _ => ?_)
    refine sr_ite (c := FI 1000002 i &&& nI 63 = nI 42) (fun _ => lw_c_count hI hz q2 h1 h2 nx) (fun _ => ?_)
    refine sr_ite (c := FI 1000002 i &&& nI 63 = nI 43) (fun _ => lw_c_finding hI hz q2 h1 h2 nx) (fun _ => ?_)
    refine sr_ite (c := FI 1000002 i &&& nI 63 = nI 44) (fun _ => lw_c_findings hI hz q2 h1 h2 nx) (fun _ => ?_)
    refine sr_ite (c := FI 1000002 i &&& nI 63 = nI 45) (fun _ => lw_c_digest hI hz q2 h1 h2 nx) (fun _ => ?_)
    exact nx nz FI FJ kp b hI (by omega) (by omega)
end LL
