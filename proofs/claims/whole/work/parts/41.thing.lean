/-! the reader: things, items -/
def sp_FTX (F : Nat → Nat → Int32) (b : Nat → Int32) (o p : Nat) : Nat → Nat → Int32 := sr_u (sr_u (sr_u (sr_u F 7 3 (nI (p + 5))) 18 o (nI (sp_on (sp_cv b (p + 1)) (sp_cv b (p + 2)) (sp_cv b (p + 3)) (sp_cv b (p + 4))))) 19 o (nI (sp_no (sp_cv b (p + 1)) (sp_cv b (p + 2)) (sp_cv b (p + 3)) (sp_cv b (p + 4))))) 14 2 (nI (o + 1))
def sp_FTM (F : Nat → Nat → Int32) (b : Nat → Int32) (o p : Nat) : Nat → Nat → Int32 := sr_u (sr_u (sr_u (sr_u (sr_u (sr_u F 42 (4 * o) (nI (sp_cv b (p + 1)))) 42 (4 * o + 1) (nI (sp_cv b (p + 2)))) 42 (4 * o + 2) (nI (sp_cv b (p + 3)))) 42 (4 * o + 3) (nI (sp_cv b (p + 4)))) 30 17 (nI (p + 5))) 30 20 (nI (o + 1))
def sp_ons (b : Nat → Int32) (p : Nat) : Nat → Int32
  | 0 => sr_k 0
  | m + 1 => sp_ons b p m ||| (nI (sp_cv b (p + 1 + 2 * m + 1)) <<< (nI (sp_cv b (p + 1 + 2 * m)) &&& 31))
def sp_nos (b : Nat → Int32) (p : Nat) : Nat → Int32
  | 0 => sr_k 0
  | m + 1 => sp_nos b p m ||| ((nI 1 - nI (sp_cv b (p + 1 + 2 * m + 1))) <<< (nI (sp_cv b (p + 1 + 2 * m)) &&& 31))
theorem sp_ons_2 {b : Nat → Int32} {p : Nat} (h1 : sp_cv b (p + 1) < 6) (h2 : sp_cv b (p + 2) < 2) (h3 : sp_cv b (p + 3) < 6) (h4 : sp_cv b (p + 4) < 2) : sp_ons b p 2 = nI (sp_on (sp_cv b (p + 1)) (sp_cv b (p + 2)) (sp_cv b (p + 3)) (sp_cv b (p + 4))) := by
  show (nI 0 ||| (nI (sp_cv b (p + 2)) <<< (nI (sp_cv b (p + 1)) &&& 31))) ||| (nI (sp_cv b (p + 4)) <<< (nI (sp_cv b (p + 3)) &&& 31)) = _
  rw [(nb_ct _ h2 _ h1).1, (nb_ct _ h4 _ h3).1, nI_or, Nat.zero_or, nI_or]; rfl
theorem sp_nos_2 {b : Nat → Int32} {p : Nat} (h1 : sp_cv b (p + 1) < 6) (h2 : sp_cv b (p + 2) < 2) (h3 : sp_cv b (p + 3) < 6) (h4 : sp_cv b (p + 4) < 2) : sp_nos b p 2 = nI (sp_no (sp_cv b (p + 1)) (sp_cv b (p + 2)) (sp_cv b (p + 3)) (sp_cv b (p + 4))) := by
  show (nI 0 ||| ((nI 1 - nI (sp_cv b (p + 2))) <<< (nI (sp_cv b (p + 1)) &&& 31))) ||| ((nI 1 - nI (sp_cv b (p + 4))) <<< (nI (sp_cv b (p + 3)) &&& 31)) = _
  rw [(nb_ct _ h2 _ h1).2, (nb_ct _ h4 _ h3).2, nI_or, Nat.zero_or, nI_or]; rfl
theorem sp_sq4 {b : Nat → Int32} {N T p : Nat} (h0 : sp_fg b N 0 (T - 1) (p + 1)) (h1 : sp_fg b N 0 1 (p + 2)) (h2 : sp_fg b N 0 (T - 1) (p + 3)) (h3 : sp_fg b N 0 1 (p + 4)) : sp_sqO b N (sp_tH T) p 4 := by
  intro i hi
  rcases (show i = 0 ∨ i = 1 ∨ i = 2 ∨ i = 3 by omega) with rfl | rfl | rfl | rfl
  · exact h0
  · exact h1
  · exact h2
  · exact h3
section TH
variable {Ls nz d T g o D t N p : Nat} {b : Nat → Int32} {kd lf ft th : Nat → Nat} {xs : Nat → Int32} {F : Nat → Nat → Int32} {FJ : Nat → Nat → Int64} {kp : Nat → Option Nat} {P : Option Value → sr_H → Prop} {h9 : sr_H}
theorem c2_readThing (hT : sp_TX F t N b) (hR : sp_RX F t N p) (hpN : p < N) (hT0 : F 14 0 = nI T) (hT2 : 2 ≤ T) (hT6 : T ≤ 6) (hG : F 14 1 = nI g) (hg5 : g ≤ 5) (hQ : F 14 2 = nI o) (ho8 : o ≤ 8) (hr : (g = 0 ∨ ¬ o < 8) → ∀ z, z = 0 → P (some (.int z)) (hp Ls nz F FJ kp)) (hf : ∀ j, 0 < g → o < 8 → sp_sqF b N (sp_tH T) p 4 j → ∀ z, z = 0 → P (some (.int z)) (hp Ls nz (sr_u F 7 3 (nI (p + 1 + j))) FJ kp)) (hok : 0 < g → o < 8 → sp_sqO b N (sp_tH T) p 4 → ∀ z, z = 1 → P (some (.int z)) (hp Ls nz (sp_FTX F b o p) FJ kp)) : sr_Call mX2_readThing (d + 3) [.ref 7, .ref 14] (hp Ls nz F FJ kp) P := by
  have hN := hT.2.2.1
  have eT : F 14 0 - nI 1 = nI (T - 1) := by rw [hT0, nI_sub (by omega)]
  refine eX2_readThing [35] ?_
  refine sr_ite (c := F 14 1 = 0) (fun c => ?_) (fun c => ?_)
  · rw [hG] at c
    exact ⟨Or.inl rfl, hr (Or.inl (nI_inj (by omega) (by omega) c)) 0 rfl⟩
  have hg0 : 0 < g := by
    rcases Nat.eq_zero_or_pos g with e | e
    · subst e; exact absurd hG c
    · exact e
  refine sr_ite (c := F 14 2 < nI 8) (fun c2 => ?_) (fun c2 => ?_)
  · rw [hQ] at c2
    have ho := (nI_ltI (by omega) (by omega)).mp c2
    have e : F 7 3 + nI 1 = nI (p + 1) := by rw [hR.2.2, nI_add]
    have loop : ∀ m, m ≤ 2 → ∀ (z x y : Int32) (e5 e6 : Option Value), z = nI m → x = sp_ons b p m → y = sp_nos b p m → (∀ i, i < 2 * m → sp_fg b N 0 (sp_tH T i) (p + 1 + i)) → sr_Go mX2_readThing (d + 3) 35 [some (.ref 7), some (.ref 14), some (.int x), some (.int y), some (.int z), e5, e6] [] (0, 0) (hp Ls nz (sr_u F 7 3 (nI (p + 1 + 2 * m))) FJ kp) P := by
      refine sp_for (fun z x y e5 e6 hz hx hy hfs => ?_) (fun m hm ih z x y e5 e6 hz hx hy hfs => ?_)
      · refine eX2_readThing [35] ?_
        refine sr_ite (c := z < nI 2) (fun q => absurd q (by rw [hz]; exact nI_nlt (by omega) (by omega))) (fun _ => ?_)
        have v0 := (sp_fgv (b := b) (N := N) (lo := 0) (hi := T - 1) (q := p + 1) (by omega) (by omega) (hfs 0 (by omega))).2.2
        have v1 := (sp_fgv (b := b) (N := N) (lo := 0) (hi := 1) (q := p + 2) (by omega) (by omega) (hfs 1 (by omega))).2.2
        have v2 := (sp_fgv (b := b) (N := N) (lo := 0) (hi := T - 1) (q := p + 3) (by omega) (by omega) (hfs 2 (by omega))).2.2
        have v3 := (sp_fgv (b := b) (N := N) (lo := 0) (hi := 1) (q := p + 4) (by omega) (by omega) (hfs 3 (by omega))).2.2
        refine c0_addThing14 (F := sr_u F 7 3 (nI (p + 1 + 2 * 2))) hQ ho ?_
        have := hok hg0 ho hfs 1 rfl
        unfold sp_FTX at this
        rw [← sp_ons_2 (by omega) (by omega) (by omega) (by omega), ← sp_nos_2 (by omega) (by omega) (by omega) (by omega), ← hx, ← hy] at this
        exact ⟨Or.inr rfl, this⟩
      · have t0 : sp_tH T (2 * m) = T - 1 := if_pos (by omega)
        have t1 : sp_tH T (2 * m + 1) = 1 := if_neg (by omega)
        refine eX2_readThing [35] ?_
        refine sr_ite (c := z < nI 2) (fun _ => ?_) (fun q => absurd (by rw [hz]; exact nI_lt hm (by omega)) q)
        refine c2_figure (F := sr_u F 7 3 (nI (p + 1 + 2 * m))) (p := p + 1 + 2 * m) (lo := 0) (hi := T - 1) hT (sp_RX_u hR) (by omega) rfl (by omega) eT (by omega) (fun f0 => ?_) (fun f0 w hw => ?_)
        · have v0 := sp_fgv (by omega) (by omega) f0
          refine sr_ite (c := nI (sp_cv b (p + 1 + 2 * m)) < 0) (fun q => absurd q (nI_pos (by omega))) (fun _ => ?_)
          refine c2_figure (F := sr_u (sr_u F 7 3 (nI (p + 1 + 2 * m))) 7 3 (nI (p + 1 + 2 * m + 1))) (p := p + 1 + 2 * m + 1) (lo := 0) (hi := 1) hT ⟨hR.1, hR.2.1, rfl⟩ (by omega) rfl (by omega) rfl (by omega) (fun f1 => ?_) (fun f1 w hw => ?_)
          · have v1 := sp_fgv (by omega) (by omega) f1
            refine sr_ite (c := nI (sp_cv b (p + 1 + 2 * m + 1)) < 0) (fun q => absurd q (nI_pos (by omega))) (fun _ => ?_)
            have := ih (z + nI 1) (x ||| (nI (sp_cv b (p + 1 + 2 * m + 1)) <<< (nI (sp_cv b (p + 1 + 2 * m)) &&& 31))) (y ||| ((nI 1 - nI (sp_cv b (p + 1 + 2 * m + 1))) <<< (nI (sp_cv b (p + 1 + 2 * m)) &&& 31))) (some (.int (nI (sp_cv b (p + 1 + 2 * m))))) (some (.int (nI (sp_cv b (p + 1 + 2 * m + 1))))) (by rw [hz]; exact nI_1 m) (by rw [hx]; rfl) (by rw [hy]; rfl) (fun i hi => by
              by_cases c : i < 2 * m
              · exact hfs i c
              · rcases (show i = 2 * m ∨ i = 2 * m + 1 by omega) with q | q
                · rw [q, t0]; exact f0
                · rw [q, t1]; exact f1)
            rw [show p + 1 + 2 * (m + 1) = p + 1 + 2 * m + 1 + 1 by omega, ← sr_uu F 7 3 (nI (p + 1 + 2 * m)), ← sr_uu (sr_u F 7 3 (nI (p + 1 + 2 * m))) 7 3 (nI (p + 1 + 2 * m + 1))] at this
            exact this
          · refine sr_ite (c := w < 0) (fun _ => ?_) (fun q => absurd (by rw [hw]; decide +kernel) q)
            have := hf (2 * m + 1) hg0 ho ⟨by omega, fun i hi => ?_, by rw [t1]; exact f1⟩ 0 rfl
            · rw [← sr_uu F 7 3 (nI (p + 1 + 2 * m))] at this
              exact ⟨Or.inl rfl, this⟩
            · by_cases c : i < 2 * m
              · exact hfs i c
              · have q : i = 2 * m := by omega
                rw [q, t0]; exact f0
        · refine sr_ite (c := w < 0) (fun _ => ?_) (fun q => absurd (by rw [hw]; decide +kernel) q)
          exact ⟨Or.inl rfl, hf (2 * m) hg0 ho ⟨by omega, hfs, by rw [t0]; exact f0⟩ 0 rfl⟩
    have := loop 0 (by omega) (nI 0) (nI 0) (nI 0) none none rfl rfl rfl (fun i hi => by omega)
    rw [Nat.mul_zero, Nat.add_zero, ← e] at this
    exact this
  · exact ⟨Or.inl rfl, hr (Or.inr (fun q => c2 (by rw [hQ]; exact nI_lt q (by omega)))) 0 rfl⟩
theorem c5_readsThing {w : Int32} (hT : sp_TM F t N b) (hR : F 30 17 = nI p) (hw : w = nI t) (hpN : p < N) (hT0 : F 30 19 = nI T) (hT2 : 2 ≤ T) (hT6 : T ≤ 6) (hG : F 30 18 = nI g) (hg5 : g ≤ 5) (hQ : F 30 20 = nI o) (ho8 : o ≤ 8) (hr : (g = 0 ∨ ¬ o < 8) → ∀ z, z = 0 → P (some (.int z)) (hp Ls nz F FJ kp)) (hf : ∀ j, 0 < g → o < 8 → sp_sqF b N (sp_tH T) p 4 j → ∀ F', (∀ r, r ≠ 30 → r ≠ 42 → F' r = F r) → (∀ k, k ≠ 17 → F' 30 k = F 30 k) → F' 30 17 = nI (p + 1 + j) → ∀ z, z = 0 → P (some (.int z)) (hp Ls nz F' FJ kp)) (hok : 0 < g → o < 8 → sp_sqO b N (sp_tH T) p 4 → ∀ F', (∀ r, r ≠ 30 → r ≠ 42 → F' r = F r) → (∀ k, k ≠ 17 → k ≠ 20 → F' 30 k = F 30 k) → F' 30 17 = nI (p + 5) → F' 30 20 = nI (o + 1) → (∀ i, i < 4 * o → F' 42 i = F 42 i) → (∀ i, i < 4 → F' 42 (4 * o + i) = nI (sp_cv b (p + 1 + i))) → ∀ z, z = 1 → P (some (.int z)) (hp Ls nz F' FJ kp)) : sr_Call mX5_readsThing (d + 3) [.ref 30, .int w] (hp Ls nz F FJ kp) P := by
  obtain ⟨ht, hN, hz6, hb6⟩ := id hT
  refine eX5_readsThing [30] ?_
  refine sr_ite (c := F 30 18 = 0) (fun c => ?_) (fun c => ?_)
  · rw [hG] at c
    exact ⟨Or.inl rfl, hr (Or.inl (nI_inj (by omega) (by omega) c)) 0 rfl⟩
  have hg0 : 0 < g := by
    rcases Nat.eq_zero_or_pos g with e | e
    · subst e; exact absurd hG c
    · exact e
  refine sr_ite (c := F 30 20 = nI 8) (fun c2 => ?_) (fun c2 => ?_)
  · rw [hQ] at c2
    have := nI_inj (by omega) (by omega) c2
    exact ⟨Or.inl rfl, hr (Or.inr (by omega)) 0 rfl⟩
  · have ho : o < 8 := by
      have : o ≠ 8 := fun q => c2 (by rw [hQ, q])
      omega
    have e : F 30 17 + nI 1 = nI (p + 1) := by rw [hR, nI_add]
    have loop : ∀ m, m ≤ 4 → ∀ (z : Int32) (e3 : Option Value) (F1 : Nat → Nat → Int32), z = nI m → (∀ r, r ≠ 30 → r ≠ 42 → F1 r = F r) → (∀ k, k ≠ 17 → F1 30 k = F 30 k) → F1 30 17 = nI (p + 1 + m) → (∀ i, i < 4 * o → F1 42 i = F 42 i) → (∀ i, i < m → F1 42 (4 * o + i) = nI (sp_cv b (p + 1 + i))) → (∀ i, i < m → sp_fg b N 0 (sp_tH T i) (p + 1 + i)) → sr_Go mX5_readsThing (d + 3) 30 [some (.ref 30), some (.int w), some (.int z), e3] [] (0, 0) (hp Ls nz F1 FJ kp) P := by
      refine sp_for (fun z e3 F1 hz fr fr30 f17 f42 f43 hfs => ?_) (fun m hm ih z e3 F1 hz fr fr30 f17 f42 f43 hfs => ?_)
      · refine eX5_readsThing [30] ?_
        refine sr_ite (c := z < nI 4) (fun q => absurd q (by rw [hz]; exact nI_nlt (by omega) (by omega))) (fun _ => ?_)
        refine ⟨Or.inr rfl, hok hg0 ho hfs _ (fun r r1 r2 => ?_) (fun k k1 k2 => ?_) ?_ ?_ ?_ ?_ _ rfl⟩
        · rw [← fr r r1 r2]; exact sp_fr22 r r1
        · rw [← fr30 k k1]; exact sr_u_ne _ _ k2
        · show F1 30 17 = _
          rw [f17]
        · show F1 30 20 + nI 1 = _
          rw [fr30 20 (by omega), hQ, nI_add]
        · exact f42
        · exact f43
      · refine eX5_readsThing [30, 54] ?_
        have hT1 : sp_TM F1 t N b := by
          unfold sp_TM at hT ⊢
          rw [fr 35 (by omega) (by omega), fr 36 (by omega) (by omega)]; exact hT
        have e20 : F1 30 20 = nI o := by rw [fr30 20 (by omega)]; exact hQ
        have e19 : F1 30 19 = nI T := by rw [fr30 19 (by omega)]; exact hT0
        have l54 : ∀ (y : Int32), y = nI (sp_tH T m) → sr_Go mX5_readsThing (d + 3) 54 [some (.ref 30), some (.int w), some (.int z), e3] [.int y, .int (sr_k 0), .int w, .ref 30] (0, 0) (hp Ls nz F1 FJ kp) P := by
          intro y hy
          refine eX5_readsThing [30] ?_
          have hH : sp_tH T m < 1000 := by unfold sp_tH; split <;> omega
          refine c5_figure (F := F1) (p := p + 1 + m) (lo := 0) (hi := sp_tH T m) hT1 f17 (by omega) hw rfl (by omega) hy hH (fun c3 => ?_) (fun c3 z2 hz2 => ?_)
          · have hv := sp_fgv hH (by omega) c3
            have hcv : sp_cv b (p + 1 + m) < 1000 := by omega
            refine sr_ite (c := nI (sp_cv b (p + 1 + m)) = sr_k (-9)) (fun q => absurd q (sp_oI_ne hcv)) (fun _ => ?_)
            refine ⟨4 * o + m, ⟨show nI 4 * F1 30 20 + z = _ by rw [e20, hz, nI_mul, nI_add], show 4 * o + m < 32 by omega⟩, ?_⟩
            refine ih _ _ _ (by rw [hz]; exact nI_1 m) (fun r r1 r2 => ?_) (fun k k1 => ?_) ?_ (fun i hi => ?_) (fun i hi => ?_) (fun i hi => ?_)
            · rw [← fr r r1 r2]
              exact (sp_fr22 (q := 42) r r2).trans (sp_fr22 (q := 30) r r1)
            · rw [← fr30 k k1]; exact sr_u_ne _ _ k1
            · show nI (p + 1 + m + 1) = _
              rfl
            · rw [← f42 i hi]
              show sr_u (sr_u F1 30 17 _) 42 (4 * o + m) _ 42 i = F1 42 i
              rw [sr_u_ne _ _ (by omega)]; rfl
            · show sr_u (sr_u F1 30 17 _) 42 (4 * o + m) _ 42 (4 * o + i) = _
              by_cases q : i = m
              · subst q; rw [sr_u_same]
              · rw [sr_u_ne _ _ (by omega)]; exact f43 i (by omega)
            · by_cases q : i = m
              · subst q; exact c3
              · exact hfs i (by omega)
          · refine sr_ite (c := z2 = sr_k (-9)) (fun _ => ?_) (fun q => absurd hz2 q)
            exact ⟨Or.inl rfl, hf m hg0 ho ⟨hm, hfs, c3⟩ F1 fr fr30 f17 _ rfl⟩
        refine sr_ite (c := z < nI 4) (fun _ => ?_) (fun q => absurd (by rw [hz]; exact nI_lt hm (by omega)) q)
        refine ⟨by decide, ?_⟩
        have er : z - z / nI 2 * nI 2 = nI (m % 2) := by rw [hz]; exact pk_rem (by omega) (by omega) (by omega)
        refine sr_ite (c := z - z / nI 2 * nI 2 = 0) (fun q => ?_) (fun q => ?_)
        · rw [er] at q
          have q := nI_inj (b := 0) (by omega) (by omega) q
          refine l54 _ ?_
          show F1 30 19 - nI 1 = _
          rw [e19, nI_sub (by omega), sp_tH, if_pos q]
        · rw [er] at q
          have q : ¬ m % 2 = 0 := fun r => q (by rw [r]; rfl)
          refine l54 _ ?_
          show nI 1 = _
          rw [sp_tH, if_neg q]
    have := loop 0 (by omega) (nI 0) none (sr_u F 30 17 (nI (p + 1))) rfl (fun r r1 r2 => sp_fr22 r r1) (fun k k1 => sr_u_ne _ _ k1) (sr_u_same _ _ _ _) (fun i hi => rfl) (fun i hi => by omega) (fun i hi => by omega)
    rw [← e] at this
    exact this
end TH
