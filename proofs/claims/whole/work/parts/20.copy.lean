/-! pairs of calls: copy -/
def sp_g1 (FI : Nat → Nat → Int32) (lo m : Nat) : Nat → Nat → Int32 := fun x y => if x = 34 ∧ y < m then FI 33 (lo + y) else FI x y
def sp_g2 (FI : Nat → Nat → Int32) (lo dst m : Nat) (G : Nat → Nat → Int32) : Nat → Nat → Int32 := fun x y => if x = 33 ∧ dst ≤ y ∧ y < dst + m then FI 33 (lo + (y - dst)) else G x y
theorem sp_g1_0 (FI : Nat → Nat → Int32) (lo : Nat) : sp_g1 FI lo 0 = FI := by
  funext x y; exact if_neg (by omega)
theorem sp_g1_s (FI : Nat → Nat → Int32) (lo m : Nat) : sr_u (sp_g1 FI lo m) 34 m (FI 33 (lo + m)) = sp_g1 FI lo (m + 1) := by
  funext x y
  unfold sr_u sp_g1
  by_cases h1 : x = 34 ∧ y = m
  · rw [if_pos h1, if_pos (by omega), h1.2]
  · rw [if_neg h1]
    by_cases h2 : x = 34 ∧ y < m
    · rw [if_pos h2, if_pos (by omega)]
    · rw [if_neg h2, if_neg (by omega)]
theorem sp_g2_0 (FI G : Nat → Nat → Int32) (lo dst : Nat) : sp_g2 FI lo dst 0 G = G := by
  funext x y; exact if_neg (by omega)
theorem sp_g2_s (FI G : Nat → Nat → Int32) (lo dst m : Nat) : sr_u (sp_g2 FI lo dst m G) 33 (dst + m) (FI 33 (lo + m)) = sp_g2 FI lo dst (m + 1) G := by
  funext x y
  unfold sr_u sp_g2
  by_cases h1 : x = 33 ∧ y = dst + m
  · rw [if_pos h1, if_pos (by omega), h1.2, Nat.add_sub_cancel_left]
  · rw [if_neg h1]
    by_cases h2 : x = 33 ∧ dst ≤ y ∧ y < dst + m
    · rw [if_pos h2, if_pos (by omega)]
    · rw [if_neg h2, if_neg (by omega)]
section RZ
variable {Ls nz d : Nat} {xs : Nat → Int32} {FI : Nat → Nat → Int32} {FJ : Nat → Nat → Int64} {kp : Nat → Option Nat}
theorem c5_copy_l2 {P : Option Value → sr_H → Prop} {a c I J N : Nat} {r i t j n : Int32} (hr : r = nI a) (ha : a < 6) (ht : t = nI c) (hc : c < 6) (hn : n = nI N) (hi : I + N ≤ 40) (hj : j = nI J) (hj2 : J + N ≤ 40)
    (h : P (some (.int (sr_k 1))) (hp Ls nz (sp_g2 FI (40 * a + I) (40 * c + J) N (sp_g1 FI (40 * a + I) N)) FJ kp)) : ∀ (m k : Nat) (x : Int32), k + m = N → x = nI k → sr_Go mX5_copy (d + 2) 136 [some (.ref 30), some (.int r), some (.int i), some (.int t), some (.int j), some (.int n), some (.int x)] [] (0, 0) (hp Ls nz (sp_g2 FI (40 * a + I) (40 * c + J) k (sp_g1 FI (40 * a + I) N)) FJ kp) P := by
  intro m
  induction m with
  | zero =>
    intro k x hk hx
    refine eX5_copy [104, 136] ?_
    refine sr_ite (c := x < n) (fun c1 => ?_) (fun c1 => ?_)
    · exfalso; rw [hx, hn] at c1; have := (nI_ltI (by omega) (by omega)).mp c1; omega
    · have : k = N := by omega
      subst this
      exact h
  | succ m ih =>
    intro k x hk hx
    refine eX5_copy [104, 136] ?_
    refine sr_ite (c := x < n) (fun c1 => ?_) (fun c1 => ?_)
    · refine ⟨k, ⟨hx, show k < 40 by omega⟩, ⟨40 * c + J + k, ⟨show nI 40 * t + j + x = _ by rw [ht, hj, hx, nI_mul, nI_add, nI_add], show 40 * c + J + k < 240 by omega⟩, ?_⟩⟩
      have := ih (k + 1) (x + nI 1) (by omega) (by rw [hx, nI_add])
      rw [← sp_g2_s] at this
      have e9 : sp_g2 FI (40 * a + I) (40 * c + J) k (sp_g1 FI (40 * a + I) N) 34 k = FI 33 (40 * a + I + k) := by
        show sp_g1 FI (40 * a + I) N 34 k = _
        exact if_pos ⟨rfl, by omega⟩
      rw [← e9] at this
      exact this
    · exfalso; rw [hx, hn] at c1; exact c1 (nI_lt (by omega) (by omega))
theorem c5_copy_l1 {P : Option Value → sr_H → Prop} {a c I J N : Nat} {r i t j n : Int32} (hr : r = nI a) (ha : a < 6) (ht : t = nI c) (hc : c < 6) (hn : n = nI N) (hi0 : i = nI I) (hi : I + N ≤ 40) (hj : j = nI J) (hj2 : J + N ≤ 40)
    (h : P (some (.int (sr_k 1))) (hp Ls nz (sp_g2 FI (40 * a + I) (40 * c + J) N (sp_g1 FI (40 * a + I) N)) FJ kp)) : ∀ (m k : Nat) (x : Int32), k + m = N → x = nI k → sr_Go mX5_copy (d + 2) 104 [some (.ref 30), some (.int r), some (.int i), some (.int t), some (.int j), some (.int n), some (.int x)] [] (0, 0) (hp Ls nz (sp_g1 FI (40 * a + I) k) FJ kp) P := by
  intro m
  induction m with
  | zero =>
    intro k x hk hx
    refine eX5_copy [104, 136] ?_
    refine sr_ite (c := x < n) (fun c1 => ?_) (fun c1 => ?_)
    · exfalso; rw [hx, hn] at c1; have := (nI_ltI (by omega) (by omega)).mp c1; omega
    · have : k = N := by omega
      subst this
      have := c5_copy_l2 (d := d) (i := i) hr ha ht hc hn hi hj hj2 h k 0 0 (by omega) rfl
      rw [sp_g2_0] at this
      exact this
  | succ m ih =>
    intro k x hk hx
    refine eX5_copy [104, 136] ?_
    refine sr_ite (c := x < n) (fun c1 => ?_) (fun c1 => ?_)
    · refine c5_rowAt (a := a) (b := I + k) hr (show i + x = _ by rw [hi0, hx, nI_add]) (by omega) ?_
      refine ⟨k, ⟨hx, show k < 40 by omega⟩, ?_⟩
      have := ih (k + 1) (x + nI 1) (by omega) (by rw [hx, nI_add])
      rw [← sp_g1_s, Nat.add_assoc (40 * a) I k] at this
      exact this
    · exfalso; rw [hx, hn] at c1; exact c1 (nI_lt (by omega) (by omega))
theorem c5_copy {P : Option Value → sr_H → Prop} {r i t j n : Int32} (hz : ∀ q, q < 6 → FI 32 q = -1 ∨ ∃ S, S ≤ 40 ∧ FI 32 q = nI S)
    (h0 : ((∀ k, k < 6 → r ≠ nI k) ∨ (∀ k, k < 6 → t ≠ nI k)) → P (some (.int (sr_k (-1)))) (hp Ls nz FI FJ kp))
    (h1 : ∀ a c, a < 6 → c < 6 → r = nI a → t = nI c → n < 0 → P (some (.int (sr_k (-3)))) (hp Ls nz (sr_u (sr_u FI 30 0 (nI 5)) 31 5 (FI 31 5 + 1)) FJ kp))
    (h2 : ∀ a c, a < 6 → c < 6 → r = nI a → t = nI c → ¬ n < 0 → (FI 32 a < 0 ∨ FI 32 c < 0) → P (some (.int (sr_k (-3)))) (hp Ls nz (sr_u (sr_u FI 30 0 (nI 1)) 31 1 (FI 31 1 + 1)) FJ kp))
    (h3 : ∀ a c N S U, a < 6 → c < 6 → r = nI a → t = nI c → N < 2147483648 → n = nI N → S ≤ 40 → FI 32 a = nI S → U ≤ 40 → FI 32 c = nI U → (¬ sp_ok i N S ∨ ¬ sp_ok j N U) → P (some (.int (sr_k (-3)))) (hp Ls nz (sr_u (sr_u FI 30 0 (nI 2)) 31 2 (FI 31 2 + 1)) FJ kp))
    (h4 : ∀ a c N S U I J, a < 6 → c < 6 → r = nI a → t = nI c → n = nI N → S ≤ 40 → FI 32 a = nI S → U ≤ 40 → FI 32 c = nI U → i = nI I → I + N ≤ S → j = nI J → J + N ≤ U → P (some (.int (sr_k 1))) (hp Ls nz (sp_g2 FI (40 * a + I) (40 * c + J) N (sp_g1 FI (40 * a + I) N)) FJ kp)) :
    sr_Call mX5_copy (d + 2) [.ref 30, .int r, .int i, .int t, .int j, .int n] (hp Ls nz FI FJ kp) P := by
  refine eX5_copy [104, 136] ?_
  refine c5_isRow (fun a ha e => ?_) (fun c0 => h0 (Or.inl c0))
  refine c5_isRow' (fun c hc e2 z hz9 => ?_) (fun c0 z hz9 => by subst hz9; exact h0 (Or.inr c0))
  refine sr_n1 hz9 ?_
  refine sr_ite (c := n < 0) (fun c1 => ?_) (fun c1 => ?_)
  · refine c5_meets (a := 5) rfl (by omega) ?_
    exact h1 a c ha hc e e2 c1
  refine ⟨a, ⟨e, ha⟩, ?_⟩
  refine sr_ite (c := FI 32 a < 0) (fun c2 => ?_) (fun c2 => ?_)
  · refine c5_meets (a := 1) rfl (by omega) ?_
    exact h2 a c ha hc e e2 c1 (Or.inl c2)
  refine ⟨c, ⟨e2, hc⟩, ?_⟩
  refine sr_ite (c := FI 32 c < 0) (fun c3 => ?_) (fun c3 => ?_)
  · refine c5_meets (a := 1) rfl (by omega) ?_
    exact h2 a c ha hc e e2 c1 (Or.inr c3)
  obtain ⟨S, hS, eS⟩ := (hz a ha).resolve_left (fun q => c2 (sp_m1 q))
  obtain ⟨U, hU, eU⟩ := (hz c hc).resolve_left (fun q => c3 (sp_m1 q))
  obtain ⟨N, hN, eN⟩ := nI_all c1
  have bad := h3 a c N S U ha hc e e2 hN eN hS eS hU eU
  refine sr_ite (c := i < 0) (fun c4 => ?_) (fun c4 => ?_)
  · exact c5_meets (a := 2) rfl (by omega) (bad (Or.inl (fun ⟨I, q, _⟩ => by rw [q] at c4; exact nI_pos (by omega) c4)))
  refine sr_ite (c := j < 0) (fun c5 => ?_) (fun c5 => ?_)
  · exact c5_meets (a := 2) rfl (by omega) (bad (Or.inr (fun ⟨I, q, _⟩ => by rw [q] at c5; exact nI_pos (by omega) c5)))
  refine ⟨a, ⟨e, ha⟩, ?_⟩
  refine sr_ite (c := 0 < lg_cmp (i.toInt64 + n.toInt64) (FI 32 a).toInt64) (fun c6 => ?_) (fun c6 => ?_)
  · rw [lg_gt, eS, eN, sp_okM hS hN c4] at c6
    exact c5_meets (a := 2) rfl (by omega) (bad (Or.inl c6))
  rw [lg_gt, eS, eN, sp_okM hS hN c4, Classical.not_not] at c6
  refine ⟨c, ⟨e2, hc⟩, ?_⟩
  refine sr_ite (c := 0 < lg_cmp (j.toInt64 + n.toInt64) (FI 32 c).toInt64) (fun c7 => ?_) (fun c7 => ?_)
  · rw [lg_gt, eU, eN, sp_okM hU hN c5] at c7
    exact c5_meets (a := 2) rfl (by omega) (bad (Or.inr c7))
  rw [lg_gt, eU, eN, sp_okM hU hN c5, Classical.not_not] at c7
  obtain ⟨I, i1, i2⟩ := c6
  obtain ⟨J, j1, j2⟩ := c7
  have := c5_copy_l1 (d := d) (P := P) (FI := FI) (FJ := FJ) (kp := kp) (Ls := Ls) (nz := nz) e ha e2 hc eN i1 (by omega) j1 (by omega) (h4 a c N S U I J ha hc e e2 eN hS eS hU eU i1 i2 j1 j2) N 0 0 (by omega) rfl
  rw [sp_g1_0] at this
  exact this
theorem sp_Inv_copy (h : sp_Inv xs nz FI FJ kp) {a c N S U I J : Nat} (ha : a < 6) (hc : c < 6) (hS : S ≤ 40) (eS : FI 2 a = nI S) (hU : U ≤ 40) (hI2 : I + N ≤ S) (hJ : J + N ≤ U) : sp_Inv xs nz (sp_g2 (fun u z => if u = 3 then va_cpy (FI 3) (FI 3) (a * 40 + I) (c * 40 + J) N z else FI u z) (40 * a + I) (40 * c + J) N (sp_g1 (fun u z => if u = 3 then va_cpy (FI 3) (FI 3) (a * 40 + I) (c * 40 + J) N z else FI u z) (40 * a + I) N)) FJ kp := by
  obtain ⟨hS9, hO, hA, hB, hC, hH⟩ := h
  refine ⟨hS9, hO, hA, ⟨hB.1, fun q hq => ?_⟩, hC, hH⟩
  obtain ⟨h1, h2⟩ := hB.2 q hq
  refine ⟨h1, h2.imp id (fun ⟨m, m1, m2, m3⟩ => ⟨m, m1, m2, fun i hi => ?_⟩)⟩
  show va_cpy (FI 3) (FI 3) (a * 40 + I) (c * 40 + J) N (q * 40 + i) = (if (33 : Nat) = 33 ∧ 40 * c + J ≤ 40 * q + i ∧ 40 * q + i < 40 * c + J + N then FI 33 (40 * a + I + (40 * q + i - (40 * c + J))) else FI 33 (40 * q + i))
  unfold va_cpy
  by_cases hin : c * 40 + J ≤ q * 40 + i ∧ q * 40 + i < c * 40 + J + N
  · rw [if_pos hin, if_pos (by omega)]
    obtain ⟨-, g2⟩ := hB.2 a ha
    rcases g2 with g2 | ⟨M, M1, M2, M3⟩
    · exact absurd (sp_m1 g2) (by rw [eS]; exact nI_pos (by omega))
    · have : M = S := nI_inj (by omega) (by omega) (M2.symm.trans eS)
      subst this
      have e1 : a * 40 + I + (q * 40 + i - (c * 40 + J)) = a * 40 + (I + (q * 40 + i - (c * 40 + J))) := by omega
      have e2 : 40 * a + I + (40 * q + i - (40 * c + J)) = 40 * a + (I + (q * 40 + i - (c * 40 + J))) := by omega
      rw [e1, e2]
      exact M3 _ (by omega)
  · rw [if_neg hin, if_neg (by omega)]
    exact m3 i hi
theorem c3r_isNumber9 {P : Option Value → sr_H → Prop} {p : Int32} (h1 : ∀ k, k < 6 → p = nI k → P (some (.int 1)) (hp Ls nz FI FJ kp)) (h0 : (∀ k, k < 6 → p ≠ nI k) → P (some (.int 0)) (hp Ls nz FI FJ kp)) : sr_Call mX3_isNumber d [.ref 1, .int p] (hp Ls nz FI FJ kp) P := c3r_isNumber h1 h0
set_option maxHeartbeats 4000000 in
theorem q_copy {r i t j n : Int32} (hI : sp_Inv xs nz FI FJ kp) : sp_two (sp_I Ls xs) mX4_copy mX5_copy (d + 4) [.int r, .int i, .int t, .int j, .int n] (hp Ls nz FI FJ kp) := by
  have hB := hI.2.2.2.1
  have hz32 : ∀ q, q < 6 → FI 32 q = -1 ∨ ∃ S, S ≤ 40 ∧ FI 32 q = nI S := fun q hq => by
    obtain ⟨h1, h2⟩ := hB.2 q hq
    rw [← h1]
    exact h2.imp id (fun ⟨m, m1, m2, _⟩ => ⟨m, m1, m2⟩)
  have uq : ∀ {a b : Nat} {x : Int32}, a < 6 → b < 6 → x = nI a → x = nI b → a = b := fun ha hb e1 e2 => nI_inj (by omega) (by omega) (e1.symm.trans e2)
  refine eX4_copy [] ?_
  refine c3r_isNumber (fun a ha e => ?_) (fun c0 => ?_)
  · refine c3r_isNumber' (fun c hc e2 z hz9 => ?_) (fun c0 z hz9 => ?_)
    · refine sr_n1 hz9 ?_
      refine sr_ite (c := n < 0) (fun c1 => ?_) (fun c1 => ?_)
      · refine c4_found (a := 5) rfl (by omega) ?_
        refine c5_copy hz32 (fun q => ?_) (fun a2 c2 ha2 hc2 ea ec q => ?_) (fun a2 c2 ha2 hc2 ea ec q => absurd c1 q) (fun a2 c2 N S U ha2 hc2 ea ec hN eN => ?_) (fun a2 c2 N S U I J ha2 hc2 ea ec eN => ?_)
        · rcases q with q | q
          · exact absurd e (q a ha)
          · exact absurd e2 (q c hc)
        · exact ⟨rfl, .of (sp_Inv_found hI (a := 5) (by omega))⟩
        · exact absurd c1 (by rw [eN]; exact nI_pos (by omega))
        · intro hS eS hU eU i1 i2
          exact absurd c1 (by rw [eN]; exact nI_pos (by omega))
      · refine c3r_isMissing (a := a) ha e (fun c2 => ?_) (fun c2 => ?_)
        · refine c4_found (a := 1) rfl (by omega) ?_
          refine c5_copy hz32 (fun q => ?_) (fun a2 c2 ha2 hc2 ea ec q => absurd q c1) (fun a2 c2 ha2 hc2 ea ec q q2 => ?_) (fun a2 c3 N S U ha2 hc2 ea ec hN eN hS eS => ?_) (fun a2 c3 N S U I J ha2 hc2 ea ec eN hS eS => ?_)
          · rcases q with q | q
            · exact absurd e (q a ha)
            · exact absurd e2 (q c hc)
          · exact ⟨rfl, .of (sp_Inv_found hI (a := 1) (by omega))⟩
          · have : a2 = a := uq ha2 ha ea e
            subst this
            exact absurd c2 (by rw [(hB.2 a2 ha).1]; exact sp_neg (n := S) (by omega) eS)
          · have : a2 = a := uq ha2 ha ea e
            subst this
            exact absurd c2 (by rw [(hB.2 a2 ha).1]; exact sp_neg (n := S) (by omega) eS)
        · refine c3r_isMissing (a := c) hc e2 (fun c3 => ?_) (fun c3 => ?_)
          · refine c4_found (a := 1) rfl (by omega) ?_
            refine c5_copy hz32 (fun q => ?_) (fun a2 c2 ha2 hc2 ea ec q => absurd q c1) (fun a2 c2 ha2 hc2 ea ec q q2 => ?_) (fun a2 c4 N S U ha2 hc2 ea ec hN eN hS eS hU eU => ?_) (fun a2 c4 N S U I J ha2 hc2 ea ec eN hS eS hU eU => ?_)
            · rcases q with q | q
              · exact absurd e (q a ha)
              · exact absurd e2 (q c hc)
            · exact ⟨rfl, .of (sp_Inv_found hI (a := 1) (by omega))⟩
            · have : c4 = c := uq hc2 hc ec e2
              subst this
              exact absurd c3 (by rw [(hB.2 c4 hc).1]; exact sp_neg (n := U) (by omega) eU)
            · have : c4 = c := uq hc2 hc ec e2
              subst this
              exact absurd c3 (by rw [(hB.2 c4 hc).1]; exact sp_neg (n := U) (by omega) eU)
          · obtain ⟨z1, S, hS, eS, -⟩ := sp_RB_n hB ha c2
            obtain ⟨z2, U, hU, eU, -⟩ := sp_RB_n hB hc c3
            obtain ⟨N, hN, eN⟩ := nI_all c1
            have bad : (¬ sp_ok i N S ∨ ¬ sp_ok j N U) → sr_Call mX5_copy (d + 4) [.ref 30, .int r, .int i, .int t, .int j, .int n] (hp Ls nz (sr_u (sr_u FI 0 14 (nI 2)) 29 2 (FI 29 2 + 1)) FJ kp) (fun v2 h2 => v2 = some (.int (sr_k (-3))) ∧ sp_I Ls xs h2) := by
              intro hbad
              refine c5_copy hz32 (fun q => ?_) (fun a2 c2 ha2 hc2 ea ec q => absurd q c1) (fun a2 c4 ha2 hc2 ea ec q q2 => ?_) (fun a2 c4 N S U ha2 hc2 ea ec hN eN hS eS hU eU q => ?_) (fun a2 c4 N2 S2 U2 I J ha2 hc2 ea ec eN2 hS2 eS2 hU2 eU2 i1 i2 j1 j2 => ?_)
              · rcases q with q | q
                · exact absurd e (q a ha)
                · exact absurd e2 (q c hc)
              · exfalso
                have : a2 = a := uq ha2 ha ea e
                subst this
                have : c4 = c := uq hc2 hc ec e2
                subst this
                rcases q2 with q2 | q2
                · exact c2 (by rw [z1]; exact q2)
                · exact c3 (by rw [z2]; exact q2)
              · exact ⟨rfl, .of (sp_Inv_found hI (a := 2) (by omega))⟩
              · exfalso
                have : a2 = a := uq ha2 ha ea e
                subst this
                have : c4 = c := uq hc2 hc ec e2
                subst this
                have t1 : S2 = S := nI_inj (by omega) (by omega) (eS2.symm.trans (z1.symm.trans eS))
                have t2 : U2 = U := nI_inj (by omega) (by omega) (eU2.symm.trans (z2.symm.trans eU))
                have t3 : N2 = N := nI_inj (by omega) (by omega) (eN2.symm.trans eN)
                subst t1; subst t2; subst t3
                rcases hbad with hb | hb
                · exact hb ⟨I, i1, i2⟩
                · exact hb ⟨J, j1, j2⟩
            refine c3r_arePlaces (a := a) ha e (fun d1 d2 d3 => ?_) (fun d1 => ?_)
            · rw [eS] at d2 d3
              rw [eN] at d3
              have ok1 := sp_okX hS hN d1 d2 d3
              refine c3r_arePlaces (a := c) hc e2 (fun f1 f2 f3 => ?_) (fun f1 => ?_)
              · rw [eU] at f2 f3
                rw [eN] at f3
                obtain ⟨J, j1, j2⟩ := sp_okX hU hN f1 f2 f3
                obtain ⟨I, i1, i2⟩ := ok1
                refine c3r_copyPlaces hB.1 e i1 e2 j1 eN (by omega) (by omega) ?_
                refine c5_copy hz32 (fun q => ?_) (fun a2 c2 ha2 hc2 ea ec q => absurd q c1) (fun a2 c4 ha2 hc2 ea ec q q2 => ?_) (fun a2 c4 N2 S2 U2 ha2 hc2 ea ec hN2 eN2 hS2 eS2 hU2 eU2 q => ?_) (fun a2 c4 N2 S2 U2 I2 J2 ha2 hc2 ea ec eN2 hS2 eS2 hU2 eU2 i3 i4 j3 j4 => ?_)
                · rcases q with q | q
                  · exact absurd e (q a ha)
                  · exact absurd e2 (q c hc)
                · exfalso
                  have : a2 = a := uq ha2 ha ea e
                  subst this
                  have : c4 = c := uq hc2 hc ec e2
                  subst this
                  rcases q2 with q2 | q2
                  · exact c2 (by rw [z1]; exact q2)
                  · exact c3 (by rw [z2]; exact q2)
                · exfalso
                  have : a2 = a := uq ha2 ha ea e
                  subst this
                  have : c4 = c := uq hc2 hc ec e2
                  subst this
                  have eS2 : FI 32 a2 = nI S2 := eS2
                  have eU2 : FI 32 c4 = nI U2 := eU2
                  have t1 : S2 = S := nI_inj (by omega) (by omega) (eS2.symm.trans (z1.symm.trans eS))
                  have t2 : U2 = U := nI_inj (by omega) (by omega) (eU2.symm.trans (z2.symm.trans eU))
                  have t3 : N2 = N := nI_inj (by omega) (by omega) (eN2.symm.trans eN)
                  subst t1; subst t2; subst t3
                  rcases q with q | q
                  · exact q ⟨I, i1, i2⟩
                  · exact q ⟨J, j1, j2⟩
                · have t0 : a2 = a := uq ha2 ha ea e
                  subst t0
                  have t0 : c4 = c := uq hc2 hc ec e2
                  subst t0
                  have eS2 : FI 32 a2 = nI S2 := eS2
                  have eU2 : FI 32 c4 = nI U2 := eU2
                  have t1 : S2 = S := nI_inj (by omega) (by omega) (eS2.symm.trans (z1.symm.trans eS))
                  have t2 : U2 = U := nI_inj (by omega) (by omega) (eU2.symm.trans (z2.symm.trans eU))
                  subst t1; subst t2
                  have t3 : I2 = I := nI_inj (by omega) (by omega) (i3.symm.trans i1)
                  have t4 : J2 = J := nI_inj (by omega) (by omega) (j3.symm.trans j1)
                  have t5 : N2 = N := nI_inj (by omega) (by omega) (eN2.symm.trans eN)
                  subst t3; subst t4; subst t5
                  exact ⟨rfl, .of (sp_Inv_copy hI ha hc hS eS hU i4 j4)⟩
              · rw [eU, eN] at f1
                refine c4_found (a := 2) rfl (by omega) ?_
                exact bad (Or.inr (sp_okX0 hU hN f1))
            · rw [eS, eN] at d1
              refine c4_found (a := 2) rfl (by omega) ?_
              exact bad (Or.inl (sp_okX0 hS hN d1))
    · subst hz9
      refine c5_copy hz32 (fun q => ?_) (fun a2 c2 ha2 hc2 ea ec q => absurd ec (c0 c2 hc2)) (fun a2 c2 ha2 hc2 ea ec q => absurd ec (c0 c2 hc2)) (fun a2 c2 N S U ha2 hc2 ea ec => absurd ec (c0 c2 hc2)) (fun a2 c2 N S U I J ha2 hc2 ea ec => absurd ec (c0 c2 hc2))
      exact ⟨rfl, .of hI⟩
  · refine c5_copy hz32 (fun q => ?_) (fun a2 c2 ha2 hc2 ea ec q => absurd ea (c0 a2 ha2)) (fun a2 c2 ha2 hc2 ea ec q => absurd ea (c0 a2 ha2)) (fun a2 c2 N S U ha2 hc2 ea ec => absurd ea (c0 a2 ha2)) (fun a2 c2 N S U I J ha2 hc2 ea ec => absurd ea (c0 a2 ha2))
    exact ⟨rfl, .of hI⟩
end RZ
