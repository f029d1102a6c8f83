/-! the constructors -/
def hs_K (Ls n r : Nat) : Nat × Nat := bif Nat.blt r n || Nat.ble 1000000 r then hp_K Ls 0 r else (99, 0)
def hs (Ls n : Nat) (FI : Nat → Nat → Int32) (FJ : Nat → Nat → Int64) (FR : Nat → Nat → Option Nat) : sr_H := (n, hs_K Ls n, FI, FJ, FR)
/-- nothing stands from n on -/
def sr_bl (n : Nat) (FI : Nat → Nat → Int32) (FJ : Nat → Nat → Int64) (FR : Nat → Nat → Option Nat) : Prop := ∀ r, n ≤ r → r < 1000000 → ∀ k, FI r k = 0 ∧ FJ r k = 0 ∧ FR r k = none
def hs_FR (l : List (Nat × Nat × Nat)) (FR : Nat → Nat → Option Nat) : Nat → Nat → Option Nat := l.foldl (fun f q => sr_u f q.1 q.2.1 (some q.2.2)) FR
theorem sr_heq {md : sr_MD} {d pc : Nat} {L : sr_L} {st : List Value} {b : Nat × Nat} {h h' : sr_H} {P : Option Value → sr_H → Prop} (e : h = h') (k : sr_Go md d pc L st b h' P) : sr_Go md d pc L st b h P := e ▸ k
theorem sr_fill_row (FI : Nat → Nat → Int32) {r lo n z : Nat} (v : Int32) (h : z ≠ r) : sr_fill FI r lo n v z = FI z := by
  funext k
  exact if_neg (fun q => h q.1)
section MA
variable {Ls n d : Nat} {FI : Nat → Nat → Int32} {FJ : Nat → Nat → Int64} {FR : Nat → Nat → Option Nat} {P : Option Value → sr_H → Prop}
theorem hs_blt {a b : Nat} : Nat.blt a b = decide (a < b) := by
  cases q : Nat.blt a b with
  | true => exact (decide_eq_true (Nat.ble_eq.mp q)).symm
  | false =>
    refine (decide_eq_false (fun w => ?_)).symm
    rw [show Nat.blt a b = true from Nat.ble_eq.mpr w] at q
    cases q
theorem hs_new {kd : Nat × Nat} (hb : sr_bl n FI FJ FR) (hn : n < 1000000) (hk : hp_K Ls 0 n = kd) : sr_new (hs Ls n FI FJ FR) kd = hs Ls (n + 1) FI FJ FR := by
  have e1 : (fun r => if r = n then kd else hs_K Ls n r) = hs_K Ls (n + 1) := by
    funext r
    unfold hs_K
    rw [hs_blt, hs_blt]
    by_cases c : r = n
    · rw [if_pos c, c, show decide (n < n + 1) = true from decide_eq_true (by omega)]
      exact hk.symm
    · rw [if_neg c]
      by_cases c2 : r < n
      · rw [show decide (r < n) = true from decide_eq_true c2, show decide (r < n + 1) = true from decide_eq_true (by omega)]
      · rw [show decide (r < n) = false from decide_eq_false c2, show decide (r < n + 1) = false from decide_eq_false (by omega)]
  have e2 : (fun r k => if r = n then (0 : Int32) else FI r k) = FI := by
    funext r k
    by_cases c : r = n
    · rw [if_pos c, c]; exact (hb n (Nat.le_refl n) hn k).1.symm
    · rw [if_neg c]
  have e3 : (fun r k => if r = n then (0 : Int64) else FJ r k) = FJ := by
    funext r k
    by_cases c : r = n
    · rw [if_pos c, c]; exact (hb n (Nat.le_refl n) hn k).2.1.symm
    · rw [if_neg c]
  have e4 : (fun r k => if r = n then none else FR r k) = FR := by
    funext r k
    by_cases c : r = n
    · rw [if_pos c, c]; exact (hb n (Nat.le_refl n) hn k).2.2.symm
    · rw [if_neg c]
  show (n + 1, (fun r => if r = n then kd else hs_K Ls n r), (fun r k => if r = n then (0 : Int32) else FI r k), (fun r k => if r = n then (0 : Int64) else FJ r k), (fun r k => if r = n then none else FR r k)) = _
  rw [e1, e2, e3, e4]
  rfl
theorem hs_nr {kd : Nat × Nat} {r k : Nat} (hb : sr_bl n FI FJ FR) (hn : n < 1000000) (hk : hp_K Ls 0 n = kd) (hr : r < n) : sr_setR (sr_new (hs Ls n FI FJ FR) kd) r k (some n) = hs Ls (n + 1) FI FJ (sr_u FR r k (some n)) ∧ sr_bl (n + 1) FI FJ (sr_u FR r k (some n)) := by
  rw [hs_new hb hn hk]
  refine ⟨rfl, fun q h1 h2 j => ?_⟩
  rw [sr_u_row _ _ (by omega)]
  exact hb q (by omega) h2 j
theorem hs_I0 {r k : Nat} (e : FI r k = 0) : sr_setI (hs Ls n FI FJ FR) r k (nI 0) = hs Ls n FI FJ FR := by
  show hs Ls n (sr_u FI r k (nI 0)) FJ FR = _
  rw [nI_0, sr_u_id e]
theorem hs_FR_row {l : List (Nat × Nat × Nat)} {z : Nat} (h : ∀ q ∈ l, q.1 ≠ z) : hs_FR l FR z = FR z := by
  induction l generalizing FR with
  | nil => rfl
  | cons q l ih =>
    show hs_FR l (sr_u FR q.1 q.2.1 (some q.2.2)) z = _
    rw [ih (fun p hp => h p (List.mem_cons_of_mem _ hp)), sr_u_row _ _ (fun e => h q List.mem_cons_self e.symm)]
theorem sr_bl.to {m : Nat} {FI' : Nat → Nat → Int32} {FJ' : Nat → Nat → Int64} {l : List (Nat × Nat × Nat)} (hb : sr_bl m FI FJ FR) (hm : m ≤ n) (hI : ∀ r, n ≤ r → r < 1000000 → FI' r = FI r) (hJ : ∀ r, n ≤ r → FJ' r = FJ r) (hR : (l.all fun q => Nat.blt q.1 n) = true) : sr_bl n FI' FJ' (hs_FR l FR) := by
  intro r h1 h2 k
  have := hb r (by omega) h2 k
  rw [hI r h1 h2, hJ r h1, hs_FR_row (fun q hq e => ?_)]
  · exact this
  · have := List.all_eq_true.mp hR q hq
    have := Nat.ble_eq.mp this
    omega
theorem c0_init8 (hb : sr_bl 9 FI FJ FR) (hN : ∀ k, FI 8 k = 0) (h : P none (hs Ls 14 FI FJ (hs_FR [(8, 3, 9), (8, 4, 10), (8, 5, 11), (8, 6, 12), (8, 7, 13)] FR))) : sr_Call mX0_init (d + 1) [.ref 8] (hs Ls 9 FI FJ FR) P := by
  refine eX0_init [19] ?_
  refine sr_heq (h' := hs Ls 9 FI FJ FR) (show sr_setI (sr_setI (sr_setI (hs Ls 9 FI FJ FR) 8 0 (nI 0)) 8 1 (nI 0)) 8 2 (nI 0) = _ by rw [hs_I0 (hN 0), hs_I0 (hN 1), hs_I0 (hN 2)]) ?_
  obtain ⟨e1, b1⟩ := hs_nr (Ls := Ls) (r := 8) (k := 3) (kd := (7, 5)) hb (by decide) rfl (by decide)
  obtain ⟨e2, b2⟩ := hs_nr (Ls := Ls) (r := 8) (k := 4) (kd := (7, 5)) b1 (by decide) rfl (by decide)
  obtain ⟨e3, b3⟩ := hs_nr (Ls := Ls) (r := 8) (k := 5) (kd := (7, 5)) b2 (by decide) rfl (by decide)
  obtain ⟨e4, b4⟩ := hs_nr (Ls := Ls) (r := 8) (k := 6) (kd := (7, 8)) b3 (by decide) rfl (by decide)
  obtain ⟨e5, b5⟩ := hs_nr (Ls := Ls) (r := 8) (k := 7) (kd := (7, 8)) b4 (by decide) rfl (by decide)
  refine eX0_init [26] ?_
  refine ⟨5, ⟨rfl, by decide, by decide, by decide, (by decide : 9 < 1000000), by decide⟩, ?_⟩
  refine sr_heq e1 ?_
  refine eX0_init [33] ?_
  refine ⟨5, ⟨rfl, by decide, by decide, by decide, (by decide : 10 < 1000000), by decide⟩, ?_⟩
  refine sr_heq e2 ?_
  refine eX0_init [40] ?_
  refine ⟨5, ⟨rfl, by decide, by decide, by decide, (by decide : 11 < 1000000), by decide⟩, ?_⟩
  refine sr_heq e3 ?_
  refine eX0_init [48] ?_
  refine ⟨8, ⟨rfl, by decide, by decide, by decide, (by decide : 12 < 1000000), by decide⟩, ?_⟩
  refine sr_heq e4 ?_
  refine eX0_init [56] ?_
  refine ⟨8, ⟨rfl, by decide, by decide, by decide, (by decide : 13 < 1000000), by decide⟩, ?_⟩
  refine sr_heq e5 ?_
  exact eX0_init [] h
theorem c0_init14 (hb : sr_bl 15 FI FJ FR) (hN : ∀ k, FI 14 k = 0) (h : P none (hs Ls 20 FI FJ (hs_FR [(14, 3, 15), (14, 4, 16), (14, 5, 17), (14, 6, 18), (14, 7, 19)] FR))) : sr_Call mX0_init (d + 1) [.ref 14] (hs Ls 15 FI FJ FR) P := by
  refine eX0_init [19] ?_
  refine sr_heq (h' := hs Ls 15 FI FJ FR) (show sr_setI (sr_setI (sr_setI (hs Ls 15 FI FJ FR) 14 0 (nI 0)) 14 1 (nI 0)) 14 2 (nI 0) = _ by rw [hs_I0 (hN 0), hs_I0 (hN 1), hs_I0 (hN 2)]) ?_
  obtain ⟨e1, b1⟩ := hs_nr (Ls := Ls) (r := 14) (k := 3) (kd := (7, 5)) hb (by decide) rfl (by decide)
  obtain ⟨e2, b2⟩ := hs_nr (Ls := Ls) (r := 14) (k := 4) (kd := (7, 5)) b1 (by decide) rfl (by decide)
  obtain ⟨e3, b3⟩ := hs_nr (Ls := Ls) (r := 14) (k := 5) (kd := (7, 5)) b2 (by decide) rfl (by decide)
  obtain ⟨e4, b4⟩ := hs_nr (Ls := Ls) (r := 14) (k := 6) (kd := (7, 8)) b3 (by decide) rfl (by decide)
  obtain ⟨e5, b5⟩ := hs_nr (Ls := Ls) (r := 14) (k := 7) (kd := (7, 8)) b4 (by decide) rfl (by decide)
  refine eX0_init [26] ?_
  refine ⟨5, ⟨rfl, by decide, by decide, by decide, (by decide : 15 < 1000000), by decide⟩, ?_⟩
  refine sr_heq e1 ?_
  refine eX0_init [33] ?_
  refine ⟨5, ⟨rfl, by decide, by decide, by decide, (by decide : 16 < 1000000), by decide⟩, ?_⟩
  refine sr_heq e2 ?_
  refine eX0_init [40] ?_
  refine ⟨5, ⟨rfl, by decide, by decide, by decide, (by decide : 17 < 1000000), by decide⟩, ?_⟩
  refine sr_heq e3 ?_
  refine eX0_init [48] ?_
  refine ⟨8, ⟨rfl, by decide, by decide, by decide, (by decide : 18 < 1000000), by decide⟩, ?_⟩
  refine sr_heq e4 ?_
  refine eX0_init [56] ?_
  refine ⟨8, ⟨rfl, by decide, by decide, by decide, (by decide : 19 < 1000000), by decide⟩, ?_⟩
  refine sr_heq e5 ?_
  exact eX0_init [] h
theorem c1_init20 (hb : sr_bl 21 FI FJ FR) (hN : ∀ k, FI 20 k = 0) (h : P none (hs Ls 25 FI FJ (hs_FR [(20, 3, 21), (20, 4, 22), (20, 5, 23), (20, 6, 24)] FR))) : sr_Call mX1_init (d + 1) [.ref 20] (hs Ls 21 FI FJ FR) P := by
  refine eX1_init [19] ?_
  refine sr_heq (h' := hs Ls 21 FI FJ FR) (show sr_setI (sr_setI (sr_setI (hs Ls 21 FI FJ FR) 20 0 (nI 0)) 20 1 (nI 0)) 20 2 (nI 0) = _ by rw [hs_I0 (hN 0), hs_I0 (hN 1), hs_I0 (hN 2)]) ?_
  obtain ⟨e1, b1⟩ := hs_nr (Ls := Ls) (r := 20) (k := 3) (kd := (7, 5)) hb (by decide) rfl (by decide)
  obtain ⟨e2, b2⟩ := hs_nr (Ls := Ls) (r := 20) (k := 4) (kd := (7, 10)) b1 (by decide) rfl (by decide)
  obtain ⟨e3, b3⟩ := hs_nr (Ls := Ls) (r := 20) (k := 5) (kd := (7, 60)) b2 (by decide) rfl (by decide)
  obtain ⟨e4, b4⟩ := hs_nr (Ls := Ls) (r := 20) (k := 6) (kd := (7, 60)) b3 (by decide) rfl (by decide)
  refine eX1_init [26] ?_
  refine ⟨5, ⟨rfl, by decide, by decide, by decide, (by decide : 21 < 1000000), by decide⟩, ?_⟩
  refine sr_heq e1 ?_
  refine eX1_init [34] ?_
  refine ⟨10, ⟨rfl, by decide, by decide, by decide, (by decide : 22 < 1000000), by decide⟩, ?_⟩
  refine sr_heq e2 ?_
  refine eX1_init [42] ?_
  refine ⟨60, ⟨rfl, by decide, by decide, by decide, (by decide : 23 < 1000000), by decide⟩, ?_⟩
  refine sr_heq e3 ?_
  refine eX1_init [50] ?_
  refine ⟨60, ⟨rfl, by decide, by decide, by decide, (by decide : 24 < 1000000), by decide⟩, ?_⟩
  refine sr_heq e4 ?_
  exact eX1_init [] h
theorem c2_init7 (hN : ∀ k, FI 7 k = 0) (h : P none (hs Ls 8 FI FJ (hs_FR [(7, 0, 4)] FR))) : sr_Call mX2_init (d + 1) [.ref 7, .ref 4] (hs Ls 8 FI FJ FR) P := by
  refine eX2_init [19] ?_
  refine sr_heq (h' := hs Ls 8 FI FJ FR) (show sr_setI (sr_setI (sr_setI (hs Ls 8 FI FJ FR) 7 1 (nI 0)) 7 2 (nI 0)) 7 3 (nI 0) = _ by rw [hs_I0 (hN 1), hs_I0 (hN 2), hs_I0 (hN 3)]) ?_
  exact eX2_init [] h
theorem c3_init1 (hb : sr_bl 2 FI FJ FR) (h : P none (hs Ls 4 (sr_fill (sr_u FI 1 0 (nI 40)) 2 0 6 (-1)) FJ (hs_FR [(1, 1, 2), (1, 2, 3)] FR))) : sr_Call mX3_init (d + 1) [.ref 1, .int (nI 6), .int (nI 40)] (hs Ls 2 FI FJ FR) P := by
  have bb : sr_bl 2 (sr_u FI 1 0 (nI 40)) FJ FR := fun r h1 h2 k => by rw [sr_u_row _ _ (by omega)]; exact hb r h1 h2 k
  obtain ⟨e1, b1⟩ := hs_nr (Ls := Ls) (r := 1) (k := 1) (kd := (7, 6)) bb (by decide) rfl (by decide)
  have b2 : sr_bl 3 (sr_fill (sr_u FI 1 0 (nI 40)) 2 0 6 (-1)) FJ (sr_u FR 1 1 (some 2)) := fun r h1 h2 k => by rw [sr_fill_row _ _ (by omega)]; exact b1 r h1 h2 k
  obtain ⟨e2, b3⟩ := hs_nr (Ls := Ls) (r := 1) (k := 2) (kd := (7, 240)) b2 (by decide) rfl (by decide)
  have l1 : ∀ k, k ≤ 6 → ∀ z : Int32, z = nI k → sr_Go mX3_init (d + 1) 18 [some (.ref 1), some (.int (nI 6)), some (.int (nI 40)), some (.int z)] [] (1, 240) (hs Ls 3 (sr_fill (sr_u FI 1 0 (nI 40)) 2 0 k (-1)) FJ (sr_u FR 1 1 (some 2))) P := by
    refine sp_for (fun z hz => ?_) (fun k hk ih z hz => ?_)
    · refine eX3_init [18, 45] ?_
      refine sr_ite (c := z < nI 6) (fun q => absurd q (by rw [hz]; exact nI_nlt (Nat.le_refl _) (by omega))) (fun _ => ?_)
      refine ⟨240, ⟨show nI 6 * nI 40 = nI 240 by rw [nI_mul], by decide, by decide, by decide, (by decide : 3 < 1000000), by decide⟩, ?_⟩
      refine sr_heq e2 ?_
      exact eX3_init [] h
    · refine eX3_init [18, 45] ?_
      refine sr_ite (c := z < nI 6) (fun _ => ?_) (fun q => absurd (by rw [hz]; exact nI_lt hk (by omega)) q)
      refine ⟨k, ⟨hz, show k < 6 from hk⟩, ?_⟩
      have := ih (z + nI 1) (by rw [hz]; exact nI_1 k)
      rw [← sr_fill_s, Nat.zero_add] at this
      exact this
  refine eX3_init [16] ?_
  refine ⟨6, ⟨rfl, by decide, by decide, by decide, (by decide : 2 < 1000000), by decide⟩, ?_⟩
  refine sr_heq e1 ?_
  refine eX3_init [18] ?_
  have := l1 0 (by omega) _ rfl
  rw [sr_fill_0] at this
  exact this
theorem c3_init4 (hb : sr_bl 5 FI FJ FR) (h : P none (hs Ls 7 (sr_fill (sr_u FI 4 0 (nI 60)) 5 0 4 (-1)) FJ (hs_FR [(4, 1, 5), (4, 2, 6)] FR))) : sr_Call mX3_init (d + 1) [.ref 4, .int (nI 4), .int (nI 60)] (hs Ls 5 FI FJ FR) P := by
  have bb : sr_bl 5 (sr_u FI 4 0 (nI 60)) FJ FR := fun r h1 h2 k => by rw [sr_u_row _ _ (by omega)]; exact hb r h1 h2 k
  obtain ⟨e1, b1⟩ := hs_nr (Ls := Ls) (r := 4) (k := 1) (kd := (7, 4)) bb (by decide) rfl (by decide)
  have b2 : sr_bl 6 (sr_fill (sr_u FI 4 0 (nI 60)) 5 0 4 (-1)) FJ (sr_u FR 4 1 (some 5)) := fun r h1 h2 k => by rw [sr_fill_row _ _ (by omega)]; exact b1 r h1 h2 k
  obtain ⟨e2, b3⟩ := hs_nr (Ls := Ls) (r := 4) (k := 2) (kd := (7, 240)) b2 (by decide) rfl (by decide)
  have l1 : ∀ k, k ≤ 4 → ∀ z : Int32, z = nI k → sr_Go mX3_init (d + 1) 18 [some (.ref 4), some (.int (nI 4)), some (.int (nI 60)), some (.int z)] [] (1, 242) (hs Ls 6 (sr_fill (sr_u FI 4 0 (nI 60)) 5 0 k (-1)) FJ (sr_u FR 4 1 (some 5))) P := by
    refine sp_for (fun z hz => ?_) (fun k hk ih z hz => ?_)
    · refine eX3_init [18, 45] ?_
      refine sr_ite (c := z < nI 4) (fun q => absurd q (by rw [hz]; exact nI_nlt (Nat.le_refl _) (by omega))) (fun _ => ?_)
      refine ⟨240, ⟨show nI 4 * nI 60 = nI 240 by rw [nI_mul], by decide, by decide, by decide, (by decide : 6 < 1000000), by decide⟩, ?_⟩
      refine sr_heq e2 ?_
      exact eX3_init [] h
    · refine eX3_init [18, 45] ?_
      refine sr_ite (c := z < nI 4) (fun _ => ?_) (fun q => absurd (by rw [hz]; exact nI_lt hk (by omega)) q)
      refine ⟨k, ⟨hz, show k < 4 from hk⟩, ?_⟩
      have := ih (z + nI 1) (by rw [hz]; exact nI_1 k)
      rw [← sr_fill_s, Nat.zero_add] at this
      exact this
  refine eX3_init [16] ?_
  refine ⟨4, ⟨rfl, by decide, by decide, by decide, (by decide : 5 < 1000000), by decide⟩, ?_⟩
  refine sr_heq e1 ?_
  refine eX3_init [18] ?_
  have := l1 0 (by omega) _ rfl
  rw [sr_fill_0] at this
  exact this
def hs_I4 (FI : Nat → Nat → Int32) : Nat → Nat → Int32 := (sr_fill (sr_u (sr_fill (sr_u FI 1 0 (nI 40)) 2 0 6 (-1)) 4 0 (nI 60)) 5 0 4 (-1))
theorem c4_init (hb : sr_bl 1 FI FJ FR) (h0 : ∀ k, FI 0 k = 0) (hJ0 : FJ 0 12 = 0) (h : P none (hs Ls 30 (sr_fill (sr_u (sr_fill (sr_u FI 1 0 (nI 40)) 2 0 6 (-1)) 4 0 (nI 60)) 5 0 4 (-1)) (sr_u FJ 0 13 1) (hs_FR [(1, 1, 2), (1, 2, 3), (0, 0, 1), (4, 1, 5), (4, 2, 6), (0, 1, 4), (7, 0, 4), (0, 2, 7), (8, 3, 9), (8, 4, 10), (8, 5, 11), (8, 6, 12), (8, 7, 13), (0, 3, 8), (14, 3, 15), (14, 4, 16), (14, 5, 17), (14, 6, 18), (14, 7, 19), (0, 4, 14), (20, 3, 21), (20, 4, 22), (20, 5, 23), (20, 6, 24), (0, 5, 20), (0, 6, 25), (0, 7, 26), (0, 9, 27), (0, 10, 28), (0, 15, 29)] FR))) : sr_Call mX4_init (d + 2) [.ref 0] (hs Ls 1 FI FJ FR) P := by
  have i1 : ∀ r, 4 ≤ r → r < 1000000 → (sr_fill (sr_u FI 1 0 (nI 40)) 2 0 6 (-1)) r = FI r := fun r h1 h2 => by rw [sr_fill_row _ _ (by omega), sr_u_row _ _ (by omega)]
  have i2 : ∀ r, 7 ≤ r → r < 1000000 → (sr_fill (sr_u (sr_fill (sr_u FI 1 0 (nI 40)) 2 0 6 (-1)) 4 0 (nI 60)) 5 0 4 (-1)) r = FI r := fun r h1 h2 => by rw [sr_fill_row _ _ (by omega), sr_u_row _ _ (by omega)]; exact i1 r (by omega) h2
  have z2 : ∀ r, 7 ≤ r → r < 1000000 → ∀ k, (sr_fill (sr_u (sr_fill (sr_u FI 1 0 (nI 40)) 2 0 6 (-1)) 4 0 (nI 60)) 5 0 4 (-1)) r k = 0 := fun r h1 h2 k => by rw [i2 r h1 h2]; exact (hb r (by omega) h2 k).1
  refine eX4_init [13] ?_
  refine ⟨⟨by decide, by decide, (by decide : 1 < 1000000)⟩, ?_⟩
  refine sr_heq (hs_new (n := 1) (FI := FI) (FJ := FJ) (FR := hs_FR [] FR) (kd := (3, 0)) (sr_bl.to (n := 1) (FI' := FI) (FJ' := FJ) (l := []) hb (by decide) (fun r h1 h2 => rfl) (fun r h1 => rfl) rfl) (by decide) rfl) ?_
  refine eX4_init [19] ?_
  refine c3_init1 (FI := FI) (FR := hs_FR [] FR) (sr_bl.to (n := 2) (FI' := FI) (FJ' := FJ) (l := []) hb (by decide) (fun r h1 h2 => rfl) (fun r h1 => rfl) rfl) ?_
  refine eX4_init [27] ?_
  refine ⟨⟨by decide, by decide, (by decide : 4 < 1000000)⟩, ?_⟩
  refine sr_heq (hs_new (n := 4) (FI := (sr_fill (sr_u FI 1 0 (nI 40)) 2 0 6 (-1))) (FJ := FJ) (FR := hs_FR [(1, 1, 2), (1, 2, 3), (0, 0, 1)] FR) (kd := (3, 0)) (sr_bl.to (n := 4) (FI' := (sr_fill (sr_u FI 1 0 (nI 40)) 2 0 6 (-1))) (FJ' := FJ) (l := [(1, 1, 2), (1, 2, 3), (0, 0, 1)]) hb (by decide) (fun r h1 h2 => i1 r (by omega) h2) (fun r h1 => rfl) rfl) (by decide) rfl) ?_
  refine eX4_init [33] ?_
  refine c3_init4 (FI := (sr_fill (sr_u FI 1 0 (nI 40)) 2 0 6 (-1))) (FR := hs_FR [(1, 1, 2), (1, 2, 3), (0, 0, 1)] FR) (sr_bl.to (n := 5) (FI' := (sr_fill (sr_u FI 1 0 (nI 40)) 2 0 6 (-1))) (FJ' := FJ) (l := [(1, 1, 2), (1, 2, 3), (0, 0, 1)]) hb (by decide) (fun r h1 h2 => i1 r (by omega) h2) (fun r h1 => rfl) rfl) ?_
  refine eX4_init [42] ?_
  refine ⟨⟨by decide, by decide, (by decide : 7 < 1000000)⟩, ?_⟩
  refine sr_heq (hs_new (n := 7) (FI := (sr_fill (sr_u (sr_fill (sr_u FI 1 0 (nI 40)) 2 0 6 (-1)) 4 0 (nI 60)) 5 0 4 (-1))) (FJ := FJ) (FR := hs_FR [(1, 1, 2), (1, 2, 3), (0, 0, 1), (4, 1, 5), (4, 2, 6), (0, 1, 4)] FR) (kd := (2, 0)) (sr_bl.to (n := 7) (FI' := (sr_fill (sr_u (sr_fill (sr_u FI 1 0 (nI 40)) 2 0 6 (-1)) 4 0 (nI 60)) 5 0 4 (-1))) (FJ' := FJ) (l := [(1, 1, 2), (1, 2, 3), (0, 0, 1), (4, 1, 5), (4, 2, 6), (0, 1, 4)]) hb (by decide) (fun r h1 h2 => i2 r (by omega) h2) (fun r h1 => rfl) rfl) (by decide) rfl) ?_
  refine eX4_init [48] ?_
  refine c2_init7 (FI := (sr_fill (sr_u (sr_fill (sr_u FI 1 0 (nI 40)) 2 0 6 (-1)) 4 0 (nI 60)) 5 0 4 (-1))) (FR := hs_FR [(1, 1, 2), (1, 2, 3), (0, 0, 1), (4, 1, 5), (4, 2, 6), (0, 1, 4)] FR) (z2 7 (by decide) (by decide)) ?_
  refine eX4_init [53] ?_
  refine ⟨⟨by decide, by decide, (by decide : 8 < 1000000)⟩, ?_⟩
  refine sr_heq (hs_new (n := 8) (FI := (sr_fill (sr_u (sr_fill (sr_u FI 1 0 (nI 40)) 2 0 6 (-1)) 4 0 (nI 60)) 5 0 4 (-1))) (FJ := FJ) (FR := hs_FR [(1, 1, 2), (1, 2, 3), (0, 0, 1), (4, 1, 5), (4, 2, 6), (0, 1, 4), (7, 0, 4), (0, 2, 7)] FR) (kd := (0, 0)) (sr_bl.to (n := 8) (FI' := (sr_fill (sr_u (sr_fill (sr_u FI 1 0 (nI 40)) 2 0 6 (-1)) 4 0 (nI 60)) 5 0 4 (-1))) (FJ' := FJ) (l := [(1, 1, 2), (1, 2, 3), (0, 0, 1), (4, 1, 5), (4, 2, 6), (0, 1, 4), (7, 0, 4), (0, 2, 7)]) hb (by decide) (fun r h1 h2 => i2 r (by omega) h2) (fun r h1 => rfl) rfl) (by decide) rfl) ?_
  refine eX4_init [59] ?_
  refine c0_init8 (FI := (sr_fill (sr_u (sr_fill (sr_u FI 1 0 (nI 40)) 2 0 6 (-1)) 4 0 (nI 60)) 5 0 4 (-1))) (FR := hs_FR [(1, 1, 2), (1, 2, 3), (0, 0, 1), (4, 1, 5), (4, 2, 6), (0, 1, 4), (7, 0, 4), (0, 2, 7)] FR) (sr_bl.to (n := 9) (FI' := (sr_fill (sr_u (sr_fill (sr_u FI 1 0 (nI 40)) 2 0 6 (-1)) 4 0 (nI 60)) 5 0 4 (-1))) (FJ' := FJ) (l := [(1, 1, 2), (1, 2, 3), (0, 0, 1), (4, 1, 5), (4, 2, 6), (0, 1, 4), (7, 0, 4), (0, 2, 7)]) hb (by decide) (fun r h1 h2 => i2 r (by omega) h2) (fun r h1 => rfl) rfl) (z2 8 (by decide) (by decide)) ?_
  refine eX4_init [64] ?_
  refine ⟨⟨by decide, by decide, (by decide : 14 < 1000000)⟩, ?_⟩
  refine sr_heq (hs_new (n := 14) (FI := (sr_fill (sr_u (sr_fill (sr_u FI 1 0 (nI 40)) 2 0 6 (-1)) 4 0 (nI 60)) 5 0 4 (-1))) (FJ := FJ) (FR := hs_FR [(1, 1, 2), (1, 2, 3), (0, 0, 1), (4, 1, 5), (4, 2, 6), (0, 1, 4), (7, 0, 4), (0, 2, 7), (8, 3, 9), (8, 4, 10), (8, 5, 11), (8, 6, 12), (8, 7, 13), (0, 3, 8)] FR) (kd := (0, 0)) (sr_bl.to (n := 14) (FI' := (sr_fill (sr_u (sr_fill (sr_u FI 1 0 (nI 40)) 2 0 6 (-1)) 4 0 (nI 60)) 5 0 4 (-1))) (FJ' := FJ) (l := [(1, 1, 2), (1, 2, 3), (0, 0, 1), (4, 1, 5), (4, 2, 6), (0, 1, 4), (7, 0, 4), (0, 2, 7), (8, 3, 9), (8, 4, 10), (8, 5, 11), (8, 6, 12), (8, 7, 13), (0, 3, 8)]) hb (by decide) (fun r h1 h2 => i2 r (by omega) h2) (fun r h1 => rfl) rfl) (by decide) rfl) ?_
  refine eX4_init [70] ?_
  refine c0_init14 (FI := (sr_fill (sr_u (sr_fill (sr_u FI 1 0 (nI 40)) 2 0 6 (-1)) 4 0 (nI 60)) 5 0 4 (-1))) (FR := hs_FR [(1, 1, 2), (1, 2, 3), (0, 0, 1), (4, 1, 5), (4, 2, 6), (0, 1, 4), (7, 0, 4), (0, 2, 7), (8, 3, 9), (8, 4, 10), (8, 5, 11), (8, 6, 12), (8, 7, 13), (0, 3, 8)] FR) (sr_bl.to (n := 15) (FI' := (sr_fill (sr_u (sr_fill (sr_u FI 1 0 (nI 40)) 2 0 6 (-1)) 4 0 (nI 60)) 5 0 4 (-1))) (FJ' := FJ) (l := [(1, 1, 2), (1, 2, 3), (0, 0, 1), (4, 1, 5), (4, 2, 6), (0, 1, 4), (7, 0, 4), (0, 2, 7), (8, 3, 9), (8, 4, 10), (8, 5, 11), (8, 6, 12), (8, 7, 13), (0, 3, 8)]) hb (by decide) (fun r h1 h2 => i2 r (by omega) h2) (fun r h1 => rfl) rfl) (z2 14 (by decide) (by decide)) ?_
  refine eX4_init [75] ?_
  refine ⟨⟨by decide, by decide, (by decide : 20 < 1000000)⟩, ?_⟩
  refine sr_heq (hs_new (n := 20) (FI := (sr_fill (sr_u (sr_fill (sr_u FI 1 0 (nI 40)) 2 0 6 (-1)) 4 0 (nI 60)) 5 0 4 (-1))) (FJ := FJ) (FR := hs_FR [(1, 1, 2), (1, 2, 3), (0, 0, 1), (4, 1, 5), (4, 2, 6), (0, 1, 4), (7, 0, 4), (0, 2, 7), (8, 3, 9), (8, 4, 10), (8, 5, 11), (8, 6, 12), (8, 7, 13), (0, 3, 8), (14, 3, 15), (14, 4, 16), (14, 5, 17), (14, 6, 18), (14, 7, 19), (0, 4, 14)] FR) (kd := (1, 0)) (sr_bl.to (n := 20) (FI' := (sr_fill (sr_u (sr_fill (sr_u FI 1 0 (nI 40)) 2 0 6 (-1)) 4 0 (nI 60)) 5 0 4 (-1))) (FJ' := FJ) (l := [(1, 1, 2), (1, 2, 3), (0, 0, 1), (4, 1, 5), (4, 2, 6), (0, 1, 4), (7, 0, 4), (0, 2, 7), (8, 3, 9), (8, 4, 10), (8, 5, 11), (8, 6, 12), (8, 7, 13), (0, 3, 8), (14, 3, 15), (14, 4, 16), (14, 5, 17), (14, 6, 18), (14, 7, 19), (0, 4, 14)]) hb (by decide) (fun r h1 h2 => i2 r (by omega) h2) (fun r h1 => rfl) rfl) (by decide) rfl) ?_
  refine eX4_init [81] ?_
  refine c1_init20 (FI := (sr_fill (sr_u (sr_fill (sr_u FI 1 0 (nI 40)) 2 0 6 (-1)) 4 0 (nI 60)) 5 0 4 (-1))) (FR := hs_FR [(1, 1, 2), (1, 2, 3), (0, 0, 1), (4, 1, 5), (4, 2, 6), (0, 1, 4), (7, 0, 4), (0, 2, 7), (8, 3, 9), (8, 4, 10), (8, 5, 11), (8, 6, 12), (8, 7, 13), (0, 3, 8), (14, 3, 15), (14, 4, 16), (14, 5, 17), (14, 6, 18), (14, 7, 19), (0, 4, 14)] FR) (sr_bl.to (n := 21) (FI' := (sr_fill (sr_u (sr_fill (sr_u FI 1 0 (nI 40)) 2 0 6 (-1)) 4 0 (nI 60)) 5 0 4 (-1))) (FJ' := FJ) (l := [(1, 1, 2), (1, 2, 3), (0, 0, 1), (4, 1, 5), (4, 2, 6), (0, 1, 4), (7, 0, 4), (0, 2, 7), (8, 3, 9), (8, 4, 10), (8, 5, 11), (8, 6, 12), (8, 7, 13), (0, 3, 8), (14, 3, 15), (14, 4, 16), (14, 5, 17), (14, 6, 18), (14, 7, 19), (0, 4, 14)]) hb (by decide) (fun r h1 h2 => i2 r (by omega) h2) (fun r h1 => rfl) rfl) (z2 20 (by decide) (by decide)) ?_
  refine eX4_init [89] ?_
  refine ⟨rfl, 3, ⟨rfl, by decide, by decide, by decide, (by decide : 25 < 1000000)⟩, ?_⟩
  refine sr_heq (hs_nr (Ls := Ls) (n := 25) (FI := (sr_fill (sr_u (sr_fill (sr_u FI 1 0 (nI 40)) 2 0 6 (-1)) 4 0 (nI 60)) 5 0 4 (-1))) (FJ := FJ) (FR := hs_FR [(1, 1, 2), (1, 2, 3), (0, 0, 1), (4, 1, 5), (4, 2, 6), (0, 1, 4), (7, 0, 4), (0, 2, 7), (8, 3, 9), (8, 4, 10), (8, 5, 11), (8, 6, 12), (8, 7, 13), (0, 3, 8), (14, 3, 15), (14, 4, 16), (14, 5, 17), (14, 6, 18), (14, 7, 19), (0, 4, 14), (20, 3, 21), (20, 4, 22), (20, 5, 23), (20, 6, 24), (0, 5, 20)] FR) (r := 0) (k := 6) (kd := (9, 3)) (sr_bl.to (n := 25) (FI' := (sr_fill (sr_u (sr_fill (sr_u FI 1 0 (nI 40)) 2 0 6 (-1)) 4 0 (nI 60)) 5 0 4 (-1))) (FJ' := FJ) (l := [(1, 1, 2), (1, 2, 3), (0, 0, 1), (4, 1, 5), (4, 2, 6), (0, 1, 4), (7, 0, 4), (0, 2, 7), (8, 3, 9), (8, 4, 10), (8, 5, 11), (8, 6, 12), (8, 7, 13), (0, 3, 8), (14, 3, 15), (14, 4, 16), (14, 5, 17), (14, 6, 18), (14, 7, 19), (0, 4, 14), (20, 3, 21), (20, 4, 22), (20, 5, 23), (20, 6, 24), (0, 5, 20)]) hb (by decide) (fun r h1 h2 => i2 r (by omega) h2) (fun r h1 => rfl) rfl) (by decide) rfl (by decide)).1 ?_
  refine eX4_init [97] ?_
  refine ⟨45, ⟨rfl, by decide, by decide, by decide, (by decide : 26 < 1000000), by decide⟩, ?_⟩
  refine sr_heq (hs_nr (Ls := Ls) (n := 26) (FI := (sr_fill (sr_u (sr_fill (sr_u FI 1 0 (nI 40)) 2 0 6 (-1)) 4 0 (nI 60)) 5 0 4 (-1))) (FJ := FJ) (FR := hs_FR [(1, 1, 2), (1, 2, 3), (0, 0, 1), (4, 1, 5), (4, 2, 6), (0, 1, 4), (7, 0, 4), (0, 2, 7), (8, 3, 9), (8, 4, 10), (8, 5, 11), (8, 6, 12), (8, 7, 13), (0, 3, 8), (14, 3, 15), (14, 4, 16), (14, 5, 17), (14, 6, 18), (14, 7, 19), (0, 4, 14), (20, 3, 21), (20, 4, 22), (20, 5, 23), (20, 6, 24), (0, 5, 20), (0, 6, 25)] FR) (r := 0) (k := 7) (kd := (7, 45)) (sr_bl.to (n := 26) (FI' := (sr_fill (sr_u (sr_fill (sr_u FI 1 0 (nI 40)) 2 0 6 (-1)) 4 0 (nI 60)) 5 0 4 (-1))) (FJ' := FJ) (l := [(1, 1, 2), (1, 2, 3), (0, 0, 1), (4, 1, 5), (4, 2, 6), (0, 1, 4), (7, 0, 4), (0, 2, 7), (8, 3, 9), (8, 4, 10), (8, 5, 11), (8, 6, 12), (8, 7, 13), (0, 3, 8), (14, 3, 15), (14, 4, 16), (14, 5, 17), (14, 6, 18), (14, 7, 19), (0, 4, 14), (20, 3, 21), (20, 4, 22), (20, 5, 23), (20, 6, 24), (0, 5, 20), (0, 6, 25)]) hb (by decide) (fun r h1 h2 => i2 r (by omega) h2) (fun r h1 => rfl) rfl) (by decide) rfl (by decide)).1 ?_
  refine eX4_init [102] ?_
  refine sr_heq (hs_I0 (n := 27) (FI := (sr_fill (sr_u (sr_fill (sr_u FI 1 0 (nI 40)) 2 0 6 (-1)) 4 0 (nI 60)) 5 0 4 (-1))) (FJ := FJ) (FR := hs_FR [(1, 1, 2), (1, 2, 3), (0, 0, 1), (4, 1, 5), (4, 2, 6), (0, 1, 4), (7, 0, 4), (0, 2, 7), (8, 3, 9), (8, 4, 10), (8, 5, 11), (8, 6, 12), (8, 7, 13), (0, 3, 8), (14, 3, 15), (14, 4, 16), (14, 5, 17), (14, 6, 18), (14, 7, 19), (0, 4, 14), (20, 3, 21), (20, 4, 22), (20, 5, 23), (20, 6, 24), (0, 5, 20), (0, 6, 25), (0, 7, 26)] FR) (r := 0) (k := 8) (h0 8)) ?_
  refine eX4_init [110] ?_
  refine ⟨10, ⟨rfl, by decide, by decide, by decide, (by decide : 27 < 1000000), by decide⟩, ?_⟩
  refine sr_heq (hs_nr (Ls := Ls) (n := 27) (FI := (sr_fill (sr_u (sr_fill (sr_u FI 1 0 (nI 40)) 2 0 6 (-1)) 4 0 (nI 60)) 5 0 4 (-1))) (FJ := FJ) (FR := hs_FR [(1, 1, 2), (1, 2, 3), (0, 0, 1), (4, 1, 5), (4, 2, 6), (0, 1, 4), (7, 0, 4), (0, 2, 7), (8, 3, 9), (8, 4, 10), (8, 5, 11), (8, 6, 12), (8, 7, 13), (0, 3, 8), (14, 3, 15), (14, 4, 16), (14, 5, 17), (14, 6, 18), (14, 7, 19), (0, 4, 14), (20, 3, 21), (20, 4, 22), (20, 5, 23), (20, 6, 24), (0, 5, 20), (0, 6, 25), (0, 7, 26)] FR) (r := 0) (k := 9) (kd := (7, 10)) (sr_bl.to (n := 27) (FI' := (sr_fill (sr_u (sr_fill (sr_u FI 1 0 (nI 40)) 2 0 6 (-1)) 4 0 (nI 60)) 5 0 4 (-1))) (FJ' := FJ) (l := [(1, 1, 2), (1, 2, 3), (0, 0, 1), (4, 1, 5), (4, 2, 6), (0, 1, 4), (7, 0, 4), (0, 2, 7), (8, 3, 9), (8, 4, 10), (8, 5, 11), (8, 6, 12), (8, 7, 13), (0, 3, 8), (14, 3, 15), (14, 4, 16), (14, 5, 17), (14, 6, 18), (14, 7, 19), (0, 4, 14), (20, 3, 21), (20, 4, 22), (20, 5, 23), (20, 6, 24), (0, 5, 20), (0, 6, 25), (0, 7, 26)]) hb (by decide) (fun r h1 h2 => i2 r (by omega) h2) (fun r h1 => rfl) rfl) (by decide) rfl (by decide)).1 ?_
  refine eX4_init [118] ?_
  refine ⟨32, ⟨rfl, by decide, by decide, by decide, (by decide : 28 < 1000000), by decide⟩, ?_⟩
  refine sr_heq (hs_nr (Ls := Ls) (n := 28) (FI := (sr_fill (sr_u (sr_fill (sr_u FI 1 0 (nI 40)) 2 0 6 (-1)) 4 0 (nI 60)) 5 0 4 (-1))) (FJ := FJ) (FR := hs_FR [(1, 1, 2), (1, 2, 3), (0, 0, 1), (4, 1, 5), (4, 2, 6), (0, 1, 4), (7, 0, 4), (0, 2, 7), (8, 3, 9), (8, 4, 10), (8, 5, 11), (8, 6, 12), (8, 7, 13), (0, 3, 8), (14, 3, 15), (14, 4, 16), (14, 5, 17), (14, 6, 18), (14, 7, 19), (0, 4, 14), (20, 3, 21), (20, 4, 22), (20, 5, 23), (20, 6, 24), (0, 5, 20), (0, 6, 25), (0, 7, 26), (0, 9, 27)] FR) (r := 0) (k := 10) (kd := (7, 32)) (sr_bl.to (n := 28) (FI' := (sr_fill (sr_u (sr_fill (sr_u FI 1 0 (nI 40)) 2 0 6 (-1)) 4 0 (nI 60)) 5 0 4 (-1))) (FJ' := FJ) (l := [(1, 1, 2), (1, 2, 3), (0, 0, 1), (4, 1, 5), (4, 2, 6), (0, 1, 4), (7, 0, 4), (0, 2, 7), (8, 3, 9), (8, 4, 10), (8, 5, 11), (8, 6, 12), (8, 7, 13), (0, 3, 8), (14, 3, 15), (14, 4, 16), (14, 5, 17), (14, 6, 18), (14, 7, 19), (0, 4, 14), (20, 3, 21), (20, 4, 22), (20, 5, 23), (20, 6, 24), (0, 5, 20), (0, 6, 25), (0, 7, 26), (0, 9, 27)]) hb (by decide) (fun r h1 h2 => i2 r (by omega) h2) (fun r h1 => rfl) rfl) (by decide) rfl (by decide)).1 ?_
  refine eX4_init [123] ?_
  refine sr_heq (hs_I0 (n := 29) (FI := (sr_fill (sr_u (sr_fill (sr_u FI 1 0 (nI 40)) 2 0 6 (-1)) 4 0 (nI 60)) 5 0 4 (-1))) (FJ := FJ) (FR := hs_FR [(1, 1, 2), (1, 2, 3), (0, 0, 1), (4, 1, 5), (4, 2, 6), (0, 1, 4), (7, 0, 4), (0, 2, 7), (8, 3, 9), (8, 4, 10), (8, 5, 11), (8, 6, 12), (8, 7, 13), (0, 3, 8), (14, 3, 15), (14, 4, 16), (14, 5, 17), (14, 6, 18), (14, 7, 19), (0, 4, 14), (20, 3, 21), (20, 4, 22), (20, 5, 23), (20, 6, 24), (0, 5, 20), (0, 6, 25), (0, 7, 26), (0, 9, 27), (0, 10, 28)] FR) (r := 0) (k := 11) (h0 11)) ?_
  refine eX4_init [128] ?_
  refine sr_heq (h' := hs Ls 29 (sr_fill (sr_u (sr_fill (sr_u FI 1 0 (nI 40)) 2 0 6 (-1)) 4 0 (nI 60)) 5 0 4 (-1)) FJ (hs_FR [(1, 1, 2), (1, 2, 3), (0, 0, 1), (4, 1, 5), (4, 2, 6), (0, 1, 4), (7, 0, 4), (0, 2, 7), (8, 3, 9), (8, 4, 10), (8, 5, 11), (8, 6, 12), (8, 7, 13), (0, 3, 8), (14, 3, 15), (14, 4, 16), (14, 5, 17), (14, 6, 18), (14, 7, 19), (0, 4, 14), (20, 3, 21), (20, 4, 22), (20, 5, 23), (20, 6, 24), (0, 5, 20), (0, 6, 25), (0, 7, 26), (0, 9, 27), (0, 10, 28)] FR)) (show hs Ls 29 (sr_fill (sr_u (sr_fill (sr_u FI 1 0 (nI 40)) 2 0 6 (-1)) 4 0 (nI 60)) 5 0 4 (-1)) (sr_u FJ 0 12 0) (hs_FR [(1, 1, 2), (1, 2, 3), (0, 0, 1), (4, 1, 5), (4, 2, 6), (0, 1, 4), (7, 0, 4), (0, 2, 7), (8, 3, 9), (8, 4, 10), (8, 5, 11), (8, 6, 12), (8, 7, 13), (0, 3, 8), (14, 3, 15), (14, 4, 16), (14, 5, 17), (14, 6, 18), (14, 7, 19), (0, 4, 14), (20, 3, 21), (20, 4, 22), (20, 5, 23), (20, 6, 24), (0, 5, 20), (0, 6, 25), (0, 7, 26), (0, 9, 27), (0, 10, 28)] FR) = _ by rw [sr_u_id hJ0]) ?_
  refine eX4_init [133] ?_
  refine sr_heq (h' := hs Ls 29 (sr_fill (sr_u (sr_fill (sr_u FI 1 0 (nI 40)) 2 0 6 (-1)) 4 0 (nI 60)) 5 0 4 (-1)) (sr_u FJ 0 13 1) (hs_FR [(1, 1, 2), (1, 2, 3), (0, 0, 1), (4, 1, 5), (4, 2, 6), (0, 1, 4), (7, 0, 4), (0, 2, 7), (8, 3, 9), (8, 4, 10), (8, 5, 11), (8, 6, 12), (8, 7, 13), (0, 3, 8), (14, 3, 15), (14, 4, 16), (14, 5, 17), (14, 6, 18), (14, 7, 19), (0, 4, 14), (20, 3, 21), (20, 4, 22), (20, 5, 23), (20, 6, 24), (0, 5, 20), (0, 6, 25), (0, 7, 26), (0, 9, 27), (0, 10, 28)] FR)) rfl ?_
  refine eX4_init [138] ?_
  refine sr_heq (hs_I0 (n := 29) (FI := (sr_fill (sr_u (sr_fill (sr_u FI 1 0 (nI 40)) 2 0 6 (-1)) 4 0 (nI 60)) 5 0 4 (-1))) (FJ := sr_u FJ 0 13 1) (FR := hs_FR [(1, 1, 2), (1, 2, 3), (0, 0, 1), (4, 1, 5), (4, 2, 6), (0, 1, 4), (7, 0, 4), (0, 2, 7), (8, 3, 9), (8, 4, 10), (8, 5, 11), (8, 6, 12), (8, 7, 13), (0, 3, 8), (14, 3, 15), (14, 4, 16), (14, 5, 17), (14, 6, 18), (14, 7, 19), (0, 4, 14), (20, 3, 21), (20, 4, 22), (20, 5, 23), (20, 6, 24), (0, 5, 20), (0, 6, 25), (0, 7, 26), (0, 9, 27), (0, 10, 28)] FR) (r := 0) (k := 14) (h0 14)) ?_
  refine eX4_init [146] ?_
  refine ⟨6, ⟨rfl, by decide, by decide, by decide, (by decide : 29 < 1000000), by decide⟩, ?_⟩
  refine sr_heq (hs_nr (Ls := Ls) (n := 29) (FI := (sr_fill (sr_u (sr_fill (sr_u FI 1 0 (nI 40)) 2 0 6 (-1)) 4 0 (nI 60)) 5 0 4 (-1))) (FJ := (sr_u FJ 0 13 1)) (FR := hs_FR [(1, 1, 2), (1, 2, 3), (0, 0, 1), (4, 1, 5), (4, 2, 6), (0, 1, 4), (7, 0, 4), (0, 2, 7), (8, 3, 9), (8, 4, 10), (8, 5, 11), (8, 6, 12), (8, 7, 13), (0, 3, 8), (14, 3, 15), (14, 4, 16), (14, 5, 17), (14, 6, 18), (14, 7, 19), (0, 4, 14), (20, 3, 21), (20, 4, 22), (20, 5, 23), (20, 6, 24), (0, 5, 20), (0, 6, 25), (0, 7, 26), (0, 9, 27), (0, 10, 28)] FR) (r := 0) (k := 15) (kd := (7, 6)) (sr_bl.to (n := 29) (FI' := (sr_fill (sr_u (sr_fill (sr_u FI 1 0 (nI 40)) 2 0 6 (-1)) 4 0 (nI 60)) 5 0 4 (-1))) (FJ' := (sr_u FJ 0 13 1)) (l := [(1, 1, 2), (1, 2, 3), (0, 0, 1), (4, 1, 5), (4, 2, 6), (0, 1, 4), (7, 0, 4), (0, 2, 7), (8, 3, 9), (8, 4, 10), (8, 5, 11), (8, 6, 12), (8, 7, 13), (0, 3, 8), (14, 3, 15), (14, 4, 16), (14, 5, 17), (14, 6, 18), (14, 7, 19), (0, 4, 14), (20, 3, 21), (20, 4, 22), (20, 5, 23), (20, 6, 24), (0, 5, 20), (0, 6, 25), (0, 7, 26), (0, 9, 27), (0, 10, 28)]) hb (by decide) (fun r h1 h2 => i2 r (by omega) h2) (fun r h1 => sr_u_row _ _ (by omega)) rfl) (by decide) rfl (by decide)).1 ?_
  exact eX4_init [] h
theorem c5_init (hb : sr_bl 31 FI FJ FR) (h : P none (hs Ls 51 (sr_fill (sr_fill FI 32 0 6 (-1)) 35 0 4 (-1)) (sr_u FJ 30 4 1) (hs_FR [(30, 1, 31), (30, 5, 32), (30, 6, 33), (30, 7, 34), (30, 8, 35), (30, 9, 36), (30, 13, 37), (30, 14, 38), (30, 15, 39), (30, 16, 40), (30, 21, 41), (30, 22, 42), (30, 23, 43), (30, 25, 44), (30, 26, 45), (30, 27, 46), (30, 28, 47), (30, 29, 48), (30, 30, 49), (30, 31, 50)] FR))) : sr_Call mX5_init (d + 1) [.ref 30] (hs Ls 31 FI FJ FR) P := by
  have l2 : ∀ k, k ≤ 4 → ∀ z : Int32, z = nI k → sr_Go mX5_init (d + 1) 190 [some (.ref 30), some (.int z)] [] (0, 0) (hs Ls 51 (sr_fill (sr_fill FI 32 0 6 (-1)) 35 0 k (-1)) (sr_u FJ 30 4 1) (hs_FR [(30, 1, 31), (30, 5, 32), (30, 6, 33), (30, 7, 34), (30, 8, 35), (30, 9, 36), (30, 13, 37), (30, 14, 38), (30, 15, 39), (30, 16, 40), (30, 21, 41), (30, 22, 42), (30, 23, 43), (30, 25, 44), (30, 26, 45), (30, 27, 46), (30, 28, 47), (30, 29, 48), (30, 30, 49), (30, 31, 50)] FR)) P := by
    refine sp_for (fun z hz => ?_) (fun k hk ih z hz => ?_)
    · refine eX5_init [190] ?_
      refine sr_ite (c := z < nI 4) (fun q => absurd q (by rw [hz]; exact nI_nlt (Nat.le_refl _) (by omega))) (fun _ => ?_)
      exact h
    · refine eX5_init [190] ?_
      refine sr_ite (c := z < nI 4) (fun _ => ?_) (fun q => absurd (by rw [hz]; exact nI_lt hk (by omega)) q)
      refine ⟨k, ⟨hz, show k < 4 from hk⟩, ?_⟩
      have := ih (z + nI 1) (by rw [hz]; exact nI_1 k)
      rw [← sr_fill_s, Nat.zero_add] at this
      exact this
  have l1 : ∀ k, k ≤ 6 → ∀ z : Int32, z = nI k → sr_Go mX5_init (d + 1) 169 [some (.ref 30), some (.int z)] [] (0, 0) (hs Ls 51 (sr_fill FI 32 0 k (-1)) (sr_u FJ 30 4 1) (hs_FR [(30, 1, 31), (30, 5, 32), (30, 6, 33), (30, 7, 34), (30, 8, 35), (30, 9, 36), (30, 13, 37), (30, 14, 38), (30, 15, 39), (30, 16, 40), (30, 21, 41), (30, 22, 42), (30, 23, 43), (30, 25, 44), (30, 26, 45), (30, 27, 46), (30, 28, 47), (30, 29, 48), (30, 30, 49), (30, 31, 50)] FR)) P := by
    refine sp_for (fun z hz => ?_) (fun k hk ih z hz => ?_)
    · refine eX5_init [169, 190] ?_
      refine sr_ite (c := z < nI 6) (fun q => absurd q (by rw [hz]; exact nI_nlt (Nat.le_refl _) (by omega))) (fun _ => ?_)
      have := l2 0 (by omega) _ rfl
      rw [sr_fill_0] at this
      exact this
    · refine eX5_init [169, 190] ?_
      refine sr_ite (c := z < nI 6) (fun _ => ?_) (fun q => absurd (by rw [hz]; exact nI_lt hk (by omega)) q)
      refine ⟨k, ⟨hz, show k < 6 from hk⟩, ?_⟩
      have := ih (z + nI 1) (by rw [hz]; exact nI_1 k)
      rw [← sr_fill_s, Nat.zero_add] at this
      exact this
  refine eX5_init [12] ?_
  refine ⟨6, ⟨rfl, by decide, by decide, by decide, (by decide : 31 < 1000000), by decide⟩, ?_⟩
  refine sr_heq (hs_nr (Ls := Ls) (n := 31) (FI := FI) (FJ := FJ) (FR := hs_FR [] FR) (r := 30) (k := 1) (kd := (7, 6)) (sr_bl.to (n := 31) (FI' := FI) (FJ' := FJ) (l := []) hb (by decide) (fun r h1 h2 => rfl) (fun r h1 => rfl) rfl) (by decide) rfl (by decide)).1 ?_
  refine eX5_init [17] ?_
  refine sr_heq (h' := hs Ls 32 FI (sr_u FJ 30 4 1) (hs_FR [(30, 1, 31)] FR)) rfl ?_
  refine eX5_init [25] ?_
  refine ⟨6, ⟨rfl, by decide, by decide, by decide, (by decide : 32 < 1000000), by decide⟩, ?_⟩
  refine sr_heq (hs_nr (Ls := Ls) (n := 32) (FI := FI) (FJ := (sr_u FJ 30 4 1)) (FR := hs_FR [(30, 1, 31)] FR) (r := 30) (k := 5) (kd := (7, 6)) (sr_bl.to (n := 32) (FI' := FI) (FJ' := (sr_u FJ 30 4 1)) (l := [(30, 1, 31)]) hb (by decide) (fun r h1 h2 => rfl) (fun r h1 => sr_u_row _ _ (by omega)) rfl) (by decide) rfl (by decide)).1 ?_
  refine eX5_init [34] ?_
  refine ⟨240, ⟨rfl, by decide, by decide, by decide, (by decide : 33 < 1000000), by decide⟩, ?_⟩
  refine sr_heq (hs_nr (Ls := Ls) (n := 33) (FI := FI) (FJ := (sr_u FJ 30 4 1)) (FR := hs_FR [(30, 1, 31), (30, 5, 32)] FR) (r := 30) (k := 6) (kd := (7, 240)) (sr_bl.to (n := 33) (FI' := FI) (FJ' := (sr_u FJ 30 4 1)) (l := [(30, 1, 31), (30, 5, 32)]) hb (by decide) (fun r h1 h2 => rfl) (fun r h1 => sr_u_row _ _ (by omega)) rfl) (by decide) rfl (by decide)).1 ?_
  refine eX5_init [42] ?_
  refine ⟨40, ⟨rfl, by decide, by decide, by decide, (by decide : 34 < 1000000), by decide⟩, ?_⟩
  refine sr_heq (hs_nr (Ls := Ls) (n := 34) (FI := FI) (FJ := (sr_u FJ 30 4 1)) (FR := hs_FR [(30, 1, 31), (30, 5, 32), (30, 6, 33)] FR) (r := 30) (k := 7) (kd := (7, 40)) (sr_bl.to (n := 34) (FI' := FI) (FJ' := (sr_u FJ 30 4 1)) (l := [(30, 1, 31), (30, 5, 32), (30, 6, 33)]) hb (by decide) (fun r h1 h2 => rfl) (fun r h1 => sr_u_row _ _ (by omega)) rfl) (by decide) rfl (by decide)).1 ?_
  refine eX5_init [49] ?_
  refine ⟨4, ⟨rfl, by decide, by decide, by decide, (by decide : 35 < 1000000), by decide⟩, ?_⟩
  refine sr_heq (hs_nr (Ls := Ls) (n := 35) (FI := FI) (FJ := (sr_u FJ 30 4 1)) (FR := hs_FR [(30, 1, 31), (30, 5, 32), (30, 6, 33), (30, 7, 34)] FR) (r := 30) (k := 8) (kd := (7, 4)) (sr_bl.to (n := 35) (FI' := FI) (FJ' := (sr_u FJ 30 4 1)) (l := [(30, 1, 31), (30, 5, 32), (30, 6, 33), (30, 7, 34)]) hb (by decide) (fun r h1 h2 => rfl) (fun r h1 => sr_u_row _ _ (by omega)) rfl) (by decide) rfl (by decide)).1 ?_
  refine eX5_init [58] ?_
  refine ⟨240, ⟨rfl, by decide, by decide, by decide, (by decide : 36 < 1000000), by decide⟩, ?_⟩
  refine sr_heq (hs_nr (Ls := Ls) (n := 36) (FI := FI) (FJ := (sr_u FJ 30 4 1)) (FR := hs_FR [(30, 1, 31), (30, 5, 32), (30, 6, 33), (30, 7, 34), (30, 8, 35)] FR) (r := 30) (k := 9) (kd := (6, 240)) (sr_bl.to (n := 36) (FI' := FI) (FJ' := (sr_u FJ 30 4 1)) (l := [(30, 1, 31), (30, 5, 32), (30, 6, 33), (30, 7, 34), (30, 8, 35)]) hb (by decide) (fun r h1 h2 => rfl) (fun r h1 => sr_u_row _ _ (by omega)) rfl) (by decide) rfl (by decide)).1 ?_
  refine eX5_init [65] ?_
  refine ⟨5, ⟨rfl, by decide, by decide, by decide, (by decide : 37 < 1000000), by decide⟩, ?_⟩
  refine sr_heq (hs_nr (Ls := Ls) (n := 37) (FI := FI) (FJ := (sr_u FJ 30 4 1)) (FR := hs_FR [(30, 1, 31), (30, 5, 32), (30, 6, 33), (30, 7, 34), (30, 8, 35), (30, 9, 36)] FR) (r := 30) (k := 13) (kd := (7, 5)) (sr_bl.to (n := 37) (FI' := FI) (FJ' := (sr_u FJ 30 4 1)) (l := [(30, 1, 31), (30, 5, 32), (30, 6, 33), (30, 7, 34), (30, 8, 35), (30, 9, 36)]) hb (by decide) (fun r h1 h2 => rfl) (fun r h1 => sr_u_row _ _ (by omega)) rfl) (by decide) rfl (by decide)).1 ?_
  refine eX5_init [72] ?_
  refine ⟨5, ⟨rfl, by decide, by decide, by decide, (by decide : 38 < 1000000), by decide⟩, ?_⟩
  refine sr_heq (hs_nr (Ls := Ls) (n := 38) (FI := FI) (FJ := (sr_u FJ 30 4 1)) (FR := hs_FR [(30, 1, 31), (30, 5, 32), (30, 6, 33), (30, 7, 34), (30, 8, 35), (30, 9, 36), (30, 13, 37)] FR) (r := 30) (k := 14) (kd := (7, 5)) (sr_bl.to (n := 38) (FI' := FI) (FJ' := (sr_u FJ 30 4 1)) (l := [(30, 1, 31), (30, 5, 32), (30, 6, 33), (30, 7, 34), (30, 8, 35), (30, 9, 36), (30, 13, 37)]) hb (by decide) (fun r h1 h2 => rfl) (fun r h1 => sr_u_row _ _ (by omega)) rfl) (by decide) rfl (by decide)).1 ?_
  refine eX5_init [79] ?_
  refine ⟨5, ⟨rfl, by decide, by decide, by decide, (by decide : 39 < 1000000), by decide⟩, ?_⟩
  refine sr_heq (hs_nr (Ls := Ls) (n := 39) (FI := FI) (FJ := (sr_u FJ 30 4 1)) (FR := hs_FR [(30, 1, 31), (30, 5, 32), (30, 6, 33), (30, 7, 34), (30, 8, 35), (30, 9, 36), (30, 13, 37), (30, 14, 38)] FR) (r := 30) (k := 15) (kd := (7, 5)) (sr_bl.to (n := 39) (FI' := FI) (FJ' := (sr_u FJ 30 4 1)) (l := [(30, 1, 31), (30, 5, 32), (30, 6, 33), (30, 7, 34), (30, 8, 35), (30, 9, 36), (30, 13, 37), (30, 14, 38)]) hb (by decide) (fun r h1 h2 => rfl) (fun r h1 => sr_u_row _ _ (by omega)) rfl) (by decide) rfl (by decide)).1 ?_
  refine eX5_init [87] ?_
  refine ⟨32, ⟨rfl, by decide, by decide, by decide, (by decide : 40 < 1000000), by decide⟩, ?_⟩
  refine sr_heq (hs_nr (Ls := Ls) (n := 40) (FI := FI) (FJ := (sr_u FJ 30 4 1)) (FR := hs_FR [(30, 1, 31), (30, 5, 32), (30, 6, 33), (30, 7, 34), (30, 8, 35), (30, 9, 36), (30, 13, 37), (30, 14, 38), (30, 15, 39)] FR) (r := 30) (k := 16) (kd := (7, 32)) (sr_bl.to (n := 40) (FI' := FI) (FJ' := (sr_u FJ 30 4 1)) (l := [(30, 1, 31), (30, 5, 32), (30, 6, 33), (30, 7, 34), (30, 8, 35), (30, 9, 36), (30, 13, 37), (30, 14, 38), (30, 15, 39)]) hb (by decide) (fun r h1 h2 => rfl) (fun r h1 => sr_u_row _ _ (by omega)) rfl) (by decide) rfl (by decide)).1 ?_
  refine eX5_init [95] ?_
  refine ⟨15, ⟨rfl, by decide, by decide, by decide, (by decide : 41 < 1000000), by decide⟩, ?_⟩
  refine sr_heq (hs_nr (Ls := Ls) (n := 41) (FI := FI) (FJ := (sr_u FJ 30 4 1)) (FR := hs_FR [(30, 1, 31), (30, 5, 32), (30, 6, 33), (30, 7, 34), (30, 8, 35), (30, 9, 36), (30, 13, 37), (30, 14, 38), (30, 15, 39), (30, 16, 40)] FR) (r := 30) (k := 21) (kd := (7, 15)) (sr_bl.to (n := 41) (FI' := FI) (FJ' := (sr_u FJ 30 4 1)) (l := [(30, 1, 31), (30, 5, 32), (30, 6, 33), (30, 7, 34), (30, 8, 35), (30, 9, 36), (30, 13, 37), (30, 14, 38), (30, 15, 39), (30, 16, 40)]) hb (by decide) (fun r h1 h2 => rfl) (fun r h1 => sr_u_row _ _ (by omega)) rfl) (by decide) rfl (by decide)).1 ?_
  refine eX5_init [103] ?_
  refine ⟨32, ⟨rfl, by decide, by decide, by decide, (by decide : 42 < 1000000), by decide⟩, ?_⟩
  refine sr_heq (hs_nr (Ls := Ls) (n := 42) (FI := FI) (FJ := (sr_u FJ 30 4 1)) (FR := hs_FR [(30, 1, 31), (30, 5, 32), (30, 6, 33), (30, 7, 34), (30, 8, 35), (30, 9, 36), (30, 13, 37), (30, 14, 38), (30, 15, 39), (30, 16, 40), (30, 21, 41)] FR) (r := 30) (k := 22) (kd := (7, 32)) (sr_bl.to (n := 42) (FI' := FI) (FJ' := (sr_u FJ 30 4 1)) (l := [(30, 1, 31), (30, 5, 32), (30, 6, 33), (30, 7, 34), (30, 8, 35), (30, 9, 36), (30, 13, 37), (30, 14, 38), (30, 15, 39), (30, 16, 40), (30, 21, 41)]) hb (by decide) (fun r h1 h2 => rfl) (fun r h1 => sr_u_row _ _ (by omega)) rfl) (by decide) rfl (by decide)).1 ?_
  refine eX5_init [111] ?_
  refine ⟨12, ⟨rfl, by decide, by decide, by decide, (by decide : 43 < 1000000), by decide⟩, ?_⟩
  refine sr_heq (hs_nr (Ls := Ls) (n := 43) (FI := FI) (FJ := (sr_u FJ 30 4 1)) (FR := hs_FR [(30, 1, 31), (30, 5, 32), (30, 6, 33), (30, 7, 34), (30, 8, 35), (30, 9, 36), (30, 13, 37), (30, 14, 38), (30, 15, 39), (30, 16, 40), (30, 21, 41), (30, 22, 42)] FR) (r := 30) (k := 23) (kd := (7, 12)) (sr_bl.to (n := 43) (FI' := FI) (FJ' := (sr_u FJ 30 4 1)) (l := [(30, 1, 31), (30, 5, 32), (30, 6, 33), (30, 7, 34), (30, 8, 35), (30, 9, 36), (30, 13, 37), (30, 14, 38), (30, 15, 39), (30, 16, 40), (30, 21, 41), (30, 22, 42)]) hb (by decide) (fun r h1 h2 => rfl) (fun r h1 => sr_u_row _ _ (by omega)) rfl) (by decide) rfl (by decide)).1 ?_
  refine eX5_init [120] ?_
  refine ⟨720, ⟨rfl, by decide, by decide, by decide, (by decide : 44 < 1000000), by decide⟩, ?_⟩
  refine sr_heq (hs_nr (Ls := Ls) (n := 44) (FI := FI) (FJ := (sr_u FJ 30 4 1)) (FR := hs_FR [(30, 1, 31), (30, 5, 32), (30, 6, 33), (30, 7, 34), (30, 8, 35), (30, 9, 36), (30, 13, 37), (30, 14, 38), (30, 15, 39), (30, 16, 40), (30, 21, 41), (30, 22, 42), (30, 23, 43)] FR) (r := 30) (k := 25) (kd := (7, 720)) (sr_bl.to (n := 44) (FI' := FI) (FJ' := (sr_u FJ 30 4 1)) (l := [(30, 1, 31), (30, 5, 32), (30, 6, 33), (30, 7, 34), (30, 8, 35), (30, 9, 36), (30, 13, 37), (30, 14, 38), (30, 15, 39), (30, 16, 40), (30, 21, 41), (30, 22, 42), (30, 23, 43)]) hb (by decide) (fun r h1 h2 => rfl) (fun r h1 => sr_u_row _ _ (by omega)) rfl) (by decide) rfl (by decide)).1 ?_
  refine eX5_init [127] ?_
  refine ⟨3, ⟨rfl, by decide, by decide, by decide, (by decide : 45 < 1000000), by decide⟩, ?_⟩
  refine sr_heq (hs_nr (Ls := Ls) (n := 45) (FI := FI) (FJ := (sr_u FJ 30 4 1)) (FR := hs_FR [(30, 1, 31), (30, 5, 32), (30, 6, 33), (30, 7, 34), (30, 8, 35), (30, 9, 36), (30, 13, 37), (30, 14, 38), (30, 15, 39), (30, 16, 40), (30, 21, 41), (30, 22, 42), (30, 23, 43), (30, 25, 44)] FR) (r := 30) (k := 26) (kd := (8, 3)) (sr_bl.to (n := 45) (FI' := FI) (FJ' := (sr_u FJ 30 4 1)) (l := [(30, 1, 31), (30, 5, 32), (30, 6, 33), (30, 7, 34), (30, 8, 35), (30, 9, 36), (30, 13, 37), (30, 14, 38), (30, 15, 39), (30, 16, 40), (30, 21, 41), (30, 22, 42), (30, 23, 43), (30, 25, 44)]) hb (by decide) (fun r h1 h2 => rfl) (fun r h1 => sr_u_row _ _ (by omega)) rfl) (by decide) rfl (by decide)).1 ?_
  refine eX5_init [134] ?_
  refine ⟨3, ⟨rfl, by decide, by decide, by decide, (by decide : 46 < 1000000), by decide⟩, ?_⟩
  refine sr_heq (hs_nr (Ls := Ls) (n := 46) (FI := FI) (FJ := (sr_u FJ 30 4 1)) (FR := hs_FR [(30, 1, 31), (30, 5, 32), (30, 6, 33), (30, 7, 34), (30, 8, 35), (30, 9, 36), (30, 13, 37), (30, 14, 38), (30, 15, 39), (30, 16, 40), (30, 21, 41), (30, 22, 42), (30, 23, 43), (30, 25, 44), (30, 26, 45)] FR) (r := 30) (k := 27) (kd := (7, 3)) (sr_bl.to (n := 46) (FI' := FI) (FJ' := (sr_u FJ 30 4 1)) (l := [(30, 1, 31), (30, 5, 32), (30, 6, 33), (30, 7, 34), (30, 8, 35), (30, 9, 36), (30, 13, 37), (30, 14, 38), (30, 15, 39), (30, 16, 40), (30, 21, 41), (30, 22, 42), (30, 23, 43), (30, 25, 44), (30, 26, 45)]) hb (by decide) (fun r h1 h2 => rfl) (fun r h1 => sr_u_row _ _ (by omega)) rfl) (by decide) rfl (by decide)).1 ?_
  refine eX5_init [142] ?_
  refine ⟨15, ⟨rfl, by decide, by decide, by decide, (by decide : 47 < 1000000), by decide⟩, ?_⟩
  refine sr_heq (hs_nr (Ls := Ls) (n := 47) (FI := FI) (FJ := (sr_u FJ 30 4 1)) (FR := hs_FR [(30, 1, 31), (30, 5, 32), (30, 6, 33), (30, 7, 34), (30, 8, 35), (30, 9, 36), (30, 13, 37), (30, 14, 38), (30, 15, 39), (30, 16, 40), (30, 21, 41), (30, 22, 42), (30, 23, 43), (30, 25, 44), (30, 26, 45), (30, 27, 46)] FR) (r := 30) (k := 28) (kd := (7, 15)) (sr_bl.to (n := 47) (FI' := FI) (FJ' := (sr_u FJ 30 4 1)) (l := [(30, 1, 31), (30, 5, 32), (30, 6, 33), (30, 7, 34), (30, 8, 35), (30, 9, 36), (30, 13, 37), (30, 14, 38), (30, 15, 39), (30, 16, 40), (30, 21, 41), (30, 22, 42), (30, 23, 43), (30, 25, 44), (30, 26, 45), (30, 27, 46)]) hb (by decide) (fun r h1 h2 => rfl) (fun r h1 => sr_u_row _ _ (by omega)) rfl) (by decide) rfl (by decide)).1 ?_
  refine eX5_init [150] ?_
  refine ⟨36, ⟨rfl, by decide, by decide, by decide, (by decide : 48 < 1000000), by decide⟩, ?_⟩
  refine sr_heq (hs_nr (Ls := Ls) (n := 48) (FI := FI) (FJ := (sr_u FJ 30 4 1)) (FR := hs_FR [(30, 1, 31), (30, 5, 32), (30, 6, 33), (30, 7, 34), (30, 8, 35), (30, 9, 36), (30, 13, 37), (30, 14, 38), (30, 15, 39), (30, 16, 40), (30, 21, 41), (30, 22, 42), (30, 23, 43), (30, 25, 44), (30, 26, 45), (30, 27, 46), (30, 28, 47)] FR) (r := 30) (k := 29) (kd := (7, 36)) (sr_bl.to (n := 48) (FI' := FI) (FJ' := (sr_u FJ 30 4 1)) (l := [(30, 1, 31), (30, 5, 32), (30, 6, 33), (30, 7, 34), (30, 8, 35), (30, 9, 36), (30, 13, 37), (30, 14, 38), (30, 15, 39), (30, 16, 40), (30, 21, 41), (30, 22, 42), (30, 23, 43), (30, 25, 44), (30, 26, 45), (30, 27, 46), (30, 28, 47)]) hb (by decide) (fun r h1 h2 => rfl) (fun r h1 => sr_u_row _ _ (by omega)) rfl) (by decide) rfl (by decide)).1 ?_
  refine eX5_init [159] ?_
  refine ⟨2160, ⟨rfl, by decide, by decide, by decide, (by decide : 49 < 1000000), by decide⟩, ?_⟩
  refine sr_heq (hs_nr (Ls := Ls) (n := 49) (FI := FI) (FJ := (sr_u FJ 30 4 1)) (FR := hs_FR [(30, 1, 31), (30, 5, 32), (30, 6, 33), (30, 7, 34), (30, 8, 35), (30, 9, 36), (30, 13, 37), (30, 14, 38), (30, 15, 39), (30, 16, 40), (30, 21, 41), (30, 22, 42), (30, 23, 43), (30, 25, 44), (30, 26, 45), (30, 27, 46), (30, 28, 47), (30, 29, 48)] FR) (r := 30) (k := 30) (kd := (7, 2160)) (sr_bl.to (n := 49) (FI' := FI) (FJ' := (sr_u FJ 30 4 1)) (l := [(30, 1, 31), (30, 5, 32), (30, 6, 33), (30, 7, 34), (30, 8, 35), (30, 9, 36), (30, 13, 37), (30, 14, 38), (30, 15, 39), (30, 16, 40), (30, 21, 41), (30, 22, 42), (30, 23, 43), (30, 25, 44), (30, 26, 45), (30, 27, 46), (30, 28, 47), (30, 29, 48)]) hb (by decide) (fun r h1 h2 => rfl) (fun r h1 => sr_u_row _ _ (by omega)) rfl) (by decide) rfl (by decide)).1 ?_
  refine eX5_init [167] ?_
  refine ⟨10, ⟨rfl, by decide, by decide, by decide, (by decide : 50 < 1000000), by decide⟩, ?_⟩
  refine sr_heq (hs_nr (Ls := Ls) (n := 50) (FI := FI) (FJ := (sr_u FJ 30 4 1)) (FR := hs_FR [(30, 1, 31), (30, 5, 32), (30, 6, 33), (30, 7, 34), (30, 8, 35), (30, 9, 36), (30, 13, 37), (30, 14, 38), (30, 15, 39), (30, 16, 40), (30, 21, 41), (30, 22, 42), (30, 23, 43), (30, 25, 44), (30, 26, 45), (30, 27, 46), (30, 28, 47), (30, 29, 48), (30, 30, 49)] FR) (r := 30) (k := 31) (kd := (7, 10)) (sr_bl.to (n := 50) (FI' := FI) (FJ' := (sr_u FJ 30 4 1)) (l := [(30, 1, 31), (30, 5, 32), (30, 6, 33), (30, 7, 34), (30, 8, 35), (30, 9, 36), (30, 13, 37), (30, 14, 38), (30, 15, 39), (30, 16, 40), (30, 21, 41), (30, 22, 42), (30, 23, 43), (30, 25, 44), (30, 26, 45), (30, 27, 46), (30, 28, 47), (30, 29, 48), (30, 30, 49)]) hb (by decide) (fun r h1 h2 => rfl) (fun r h1 => sr_u_row _ _ (by omega)) rfl) (by decide) rfl (by decide)).1 ?_
  refine eX5_init [169] ?_
  have := l1 0 (by omega) _ rfl
  rw [sr_fill_0] at this
  exact this
end MA
/-- all references -/
def hs_L : List (Nat × Nat × Nat) := [(1, 1, 2), (1, 2, 3), (0, 0, 1), (4, 1, 5), (4, 2, 6), (0, 1, 4), (7, 0, 4), (0, 2, 7), (8, 3, 9), (8, 4, 10), (8, 5, 11), (8, 6, 12), (8, 7, 13), (0, 3, 8), (14, 3, 15), (14, 4, 16), (14, 5, 17), (14, 6, 18), (14, 7, 19), (0, 4, 14), (20, 3, 21), (20, 4, 22), (20, 5, 23), (20, 6, 24), (0, 5, 20), (0, 6, 25), (0, 7, 26), (0, 9, 27), (0, 10, 28), (0, 15, 29), (30, 1, 31), (30, 5, 32), (30, 6, 33), (30, 7, 34), (30, 8, 35), (30, 9, 36), (30, 13, 37), (30, 14, 38), (30, 15, 39), (30, 16, 40), (30, 21, 41), (30, 22, 42), (30, 23, 43), (30, 25, 44), (30, 26, 45), (30, 27, 46), (30, 28, 47), (30, 29, 48), (30, 30, 49), (30, 31, 50)]
