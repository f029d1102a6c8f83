/-! a night taken over; a new night -/
def sr_ua (F : Nat → Nat → Int32) (r : Nat) (f : Nat → Int32) : Nat → Nat → Int32 := fun a b => if a = r then f b else F a b
def sp_c1 (F : Nat → Nat → Int32) (A B k : Nat) : Nat → Nat → Int32 := sr_u F A k (F B k)
def sp_ca (F : Nat → Nat → Int32) (a b n : Nat) : Nat → Nat → Int32 := sr_ua F a (va_cpy (F b) (F a) 0 0 n)
def sp_tk (F : Nat → Nat → Int32) (A B : Nat) : Nat → Nat → Int32 := sp_ca (sp_ca (sp_ca (sp_ca (sp_c1 (sp_c1 (sp_c1 F A B 0) A B 1) A B 2) (A + 1) (B + 1) 5) (A + 2) (B + 2) 10) (A + 3) (B + 3) 60) (A + 4) (B + 4) 60
theorem sp_c1_ne {F : Nat → Nat → Int32} {A B k r : Nat} (h : r ≠ A) : sp_c1 F A B k r = F r := sr_u_row F _ h
theorem sp_ca_ne {F : Nat → Nat → Int32} {a b n r : Nat} (h : r ≠ a) : sp_ca F a b n r = F r := by
  funext k
  exact if_neg h
theorem sp_ca_at {F : Nat → Nat → Int32} {a b n k : Nat} (hk : k < n) : sp_ca F a b n a k = F b k := by
  show (if a = a then va_cpy (F b) (F a) 0 0 n k else F a k) = _
  rw [if_pos rfl]
  unfold va_cpy
  rw [if_pos (by omega)]
  congr 1
  omega
theorem sp_tk_ne {F : Nat → Nat → Int32} {A B r : Nat} (h : r < A ∨ A + 5 ≤ r) : sp_tk F A B r = F r := by
  unfold sp_tk
  rw [sp_ca_ne (by omega), sp_ca_ne (by omega), sp_ca_ne (by omega), sp_ca_ne (by omega), sp_c1_ne (by omega), sp_c1_ne (by omega), sp_c1_ne (by omega)]
theorem sp_tk_0 {F : Nat → Nat → Int32} {A B k : Nat} (hAB : A + 5 ≤ B ∨ B + 5 ≤ A) (hk : k < 3) : sp_tk F A B A k = F B k := by
  unfold sp_tk
  rw [sp_ca_ne (by omega), sp_ca_ne (by omega), sp_ca_ne (by omega), sp_ca_ne (by omega)]
  rcases (show k = 0 ∨ k = 1 ∨ k = 2 by omega) with rfl | rfl | rfl
  · rw [sp_c1, sr_u_ne _ _ (by omega), sp_c1, sr_u_ne _ _ (by omega), sp_c1, sr_u_same]
  · rw [sp_c1, sr_u_ne _ _ (by omega), sp_c1, sr_u_same, sp_c1_ne (by omega)]
  · rw [sp_c1, sr_u_same, sp_c1_ne (by omega), sp_c1_ne (by omega)]
theorem sp_tk_b {F : Nat → Nat → Int32} {A B j : Nat} (h : A + 5 ≤ B ∨ B + 5 ≤ A) (hj : j < 5) : sp_c1 (sp_c1 (sp_c1 F A B 0) A B 1) A B 2 (B + j) = F (B + j) := by rw [sp_c1_ne (by omega), sp_c1_ne (by omega), sp_c1_ne (by omega)]
theorem sp_tk_1 {F : Nat → Nat → Int32} {A B k : Nat} (hAB : A + 5 ≤ B ∨ B + 5 ≤ A) (hk : k < 5) : sp_tk F A B (A + 1) k = F (B + 1) k := by
  unfold sp_tk
  rw [sp_ca_ne (by omega), sp_ca_ne (by omega), sp_ca_ne (by omega), sp_ca_at hk, sp_tk_b hAB (by omega)]
theorem sp_tk_2 {F : Nat → Nat → Int32} {A B k : Nat} (hAB : A + 5 ≤ B ∨ B + 5 ≤ A) (hk : k < 10) : sp_tk F A B (A + 2) k = F (B + 2) k := by
  unfold sp_tk
  rw [sp_ca_ne (by omega), sp_ca_ne (by omega), sp_ca_at hk, sp_ca_ne (by omega), sp_tk_b hAB (by omega)]
theorem sp_tk_3 {F : Nat → Nat → Int32} {A B k : Nat} (hAB : A + 5 ≤ B ∨ B + 5 ≤ A) (hk : k < 60) : sp_tk F A B (A + 3) k = F (B + 3) k := by
  unfold sp_tk
  rw [sp_ca_ne (by omega), sp_ca_at hk, sp_ca_ne (by omega), sp_ca_ne (by omega), sp_tk_b hAB (by omega)]
theorem sp_tk_4 {F : Nat → Nat → Int32} {A B k : Nat} (hAB : A + 5 ≤ B ∨ B + 5 ≤ A) (hk : k < 60) : sp_tk F A B (A + 4) k = F (B + 4) k := by
  unfold sp_tk
  rw [sp_ca_at hk, sp_ca_ne (by omega), sp_ca_ne (by omega), sp_ca_ne (by omega), sp_tk_b hAB (by omega)]
/-- heaps that differ where nobody looks -/
def sr_like (h h' : sr_H) : Prop := h.1 = h'.1 ∧ (∀ r, h.2.1 r = h'.2.1 r) ∧ h.2.2.1 = h'.2.2.1 ∧ h.2.2.2.1 = h'.2.2.2.1 ∧ (∀ r, (h.2.1 r).1 = 9 → ∀ k, h.2.2.2.2 r k = h'.2.2.2.2 r k) ∧ ∀ r, (h.2.1 r).1 < 6 → ∀ k, k < (sr_ts (h.2.1 r).1).length → (sr_ts (h.2.1 r).1).getD k 0 = 2 → h.2.2.2.2 r k = h'.2.2.2.2 r k
theorem sr_tsB : ∀ c, c < 6 → ∀ k, k < (sr_ts c).length → (sr_ts c).getD k 0 < 3 := by decide +kernel
theorem sr_like_hw {G : sr_G} {h h' : sr_H} {s : State} {H : Heap} (hl : sr_like h h') (w : sr_hw G h s H) : sr_hw G h' s H := by
  obtain ⟨l1, l2, l3, l4, l5, l6⟩ := hl
  obtain ⟨w1, w2, w3, w4, w5, w6⟩ := w
  refine ⟨by rw [← l1]; exact w1, by rw [← l1]; exact w2, fun r hr hr2 => ?_, fun r => by rw [← l2]; exact w4 r, fun r hr hr2 => ?_, w6⟩
  · rw [← l2] at hr
    obtain ⟨a, b⟩ := w3 r hr hr2
    refine ⟨by rw [← l1]; exact a, ?_⟩
    have e : sr_ce G h' r = sr_ce G h r := by
      unfold sr_ce
      rw [← l2]
      by_cases c9 : (h.2.1 r).1 = 9
      · rw [if_pos c9, if_pos c9]
        have : (fun j => (h'.2.2.2.2 r j).map (sr_cr G)) = fun j => (h.2.2.2.2 r j).map (sr_cr G) := by
          funext j
          rw [l5 r c9 j]
        rw [this]
      · rw [if_neg c9, if_neg c9]
        by_cases c6 : 6 ≤ (h.2.1 r).1
        · rw [if_pos c6, if_pos c6, l3]
        · rw [if_neg c6, if_neg c6]
          have : sr_fs G h' r (h.2.1 r).1 = sr_fs G h r (h.2.1 r).1 := by
            unfold sr_fs
            apply List.map_congr_left
            intro k hk
            rw [List.mem_range] at hk
            have hb := sr_tsB _ (by omega) k hk
            unfold sr_fv
            rcases (show (sr_ts (h.2.1 r).1).getD k 0 = 0 ∨ (sr_ts (h.2.1 r).1).getD k 0 = 1 ∨ (sr_ts (h.2.1 r).1).getD k 0 = 2 by omega) with q | q | q
            · rw [q]; show Value.int _ = Value.int _; rw [l3]
            · rw [q]; show Value.long _ = Value.long _; rw [l4]
            · rw [q]; show va_rf _ = va_rf _; rw [l6 r (by omega) k hk q]
          rw [this]
    rw [e]; exact b
  · rw [← l2] at hr
    have := w5 r hr hr2
    rw [← l2, ← l3]
    exact this
theorem sr_like_go {md : sr_MD} {d pc : Nat} {L : sr_L} {st : List Value} {b : Nat × Nat} {h h' : sr_H} {P : Option Value → sr_H → Prop} (hl : sr_like h h') (k : sr_Go md d pc L st b h' P) : sr_Go md d pc L st b h P := by
  intro G p l e R s m args below meth c H locs cells slots Q ls F Rt hw lr hlen hlc hc1 hc2
  exact k G p l e R s m args below meth c H locs cells slots Q ls F Rt (sr_like_hw hl hw) lr hlen hlc hc1 hc2
section KE
variable {Ls nz d T g o D : Nat} {kd lf th tn v : Nat → Nat} {vs : Nat → Nat → Nat} {ac gs : Nat → Nat} {xs : Nat → Int32} {FI : Nat → Nat → Int32} {FJ : Nat → Nat → Int64} {kp : Nat → Option Nat} {P : Option Value → sr_H → Prop} {h9 : sr_H}
theorem c1_takeOver1 {z : Nat} (hz : z < nz) (hn : nz ≤ 3) (h : P none (hp Ls nz (sp_tk FI (5 * z + 51) 20) FJ kp)) : sr_Call mX1_takeOver (d + 1) [.ref (5 * z + 51), .ref 20] (hp Ls nz FI FJ kp) P := by
  rcases (show nz = 1 ∨ nz = 2 ∨ nz = 3 by omega) with rfl | rfl | rfl <;> rcases (show z = 0 ∨ z = 1 ∨ z = 2 by omega) with rfl | rfl | rfl <;> first | omega | exact eX1_takeOver [] ⟨0, 0, 5, ⟨rfl, rfl, rfl, Nat.le_refl 5, Nat.le_refl 5⟩, ⟨0, 0, 10, ⟨rfl, rfl, rfl, Nat.le_refl 10, Nat.le_refl 10⟩, ⟨0, 0, 60, ⟨rfl, rfl, rfl, Nat.le_refl 60, Nat.le_refl 60⟩, ⟨0, 0, 60, ⟨rfl, rfl, rfl, Nat.le_refl 60, Nat.le_refl 60⟩, h⟩⟩⟩⟩
theorem c1_takeOver2 {z : Nat} (hz : z < nz) (hn : nz ≤ 3) (h : P none (hp Ls nz (sp_tk FI 20 (5 * z + 51)) FJ kp)) : sr_Call mX1_takeOver (d + 1) [.ref 20, .ref (5 * z + 51)] (hp Ls nz FI FJ kp) P := by
  rcases (show nz = 1 ∨ nz = 2 ∨ nz = 3 by omega) with rfl | rfl | rfl <;> rcases (show z = 0 ∨ z = 1 ∨ z = 2 by omega) with rfl | rfl | rfl <;> first | omega | exact eX1_takeOver [] ⟨0, 0, 5, ⟨rfl, rfl, rfl, Nat.le_refl 5, Nat.le_refl 5⟩, ⟨0, 0, 10, ⟨rfl, rfl, rfl, Nat.le_refl 10, Nat.le_refl 10⟩, ⟨0, 0, 60, ⟨rfl, rfl, rfl, Nat.le_refl 60, Nat.le_refl 60⟩, ⟨0, 0, 60, ⟨rfl, rfl, rfl, Nat.le_refl 60, Nat.le_refl 60⟩, h⟩⟩⟩⟩
end KE
