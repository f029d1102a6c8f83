/-! pairs of calls: fault -/
section FU
variable {Ls nz d T g o D t N p : Nat} {b : Nat → Int32} {kd lf ft th : Nat → Nat} {xs : Nat → Int32} {F : Nat → Nat → Int32} {FJ : Nat → Nat → Int64} {kp : Nat → Option Nat} {P : Option Value → sr_H → Prop} {h9 : sr_H}
/-- the reference comes to this place with this -/
def sp_MR (Ls nz d : Nat) (FJ : Nat → Nat → Int64) (kp : Nat → Option Nat) (t N : Nat) (b : Nat → Int32) (p T g o : Nat) (kd lf ft th : Nat → Nat) : Prop := ∀ (F : Nat → Nat → Int32) (Q : Option Value → sr_H → Prop), sp_TM F t N b → (∀ F', sp_fM F F' → F' 30 17 = nI p → sp_MD F' T g o kd lf ft th → sr_Go mX5_faultOf (d + 5) 20 [some (.ref 30), some (.int (nI t))] [] (0, 0) (hp Ls nz F' FJ kp) Q) → sr_Call mX5_faultOf (d + 5) [.ref 30, .int (nI t)] (hp Ls nz F FJ kp) Q
theorem sp_MR_0 : sp_MR Ls nz d FJ kp t N b 0 0 0 0 kd lf ft th := by
  intro F Q hT h
  refine eX5_faultOf [20] ?_
  refine h _ ⟨fun r r1 r2 r3 => ?_, fun k hk => ?_⟩ rfl ⟨rfl, rfl, rfl, fun i hi => by omega, fun i hi => by omega⟩
  · show sr_u (sr_u (sr_u (sr_u F 30 17 0) 30 18 0) 30 19 0) 30 20 0 r = F r
    rw [sr_u_row _ _ r1, sr_u_row _ _ r1, sr_u_row _ _ r1, sr_u_row _ _ r1]
  · show sr_u (sr_u (sr_u (sr_u F 30 17 0) 30 18 0) 30 19 0) 30 20 0 30 k = F 30 k
    rw [sr_u_ne _ _ (by omega), sr_u_ne _ _ (by omega), sr_u_ne _ _ (by omega), sr_u_ne _ _ (by omega)]
theorem sp_MD_17 {q : Nat} (h : sp_MD F T g o kd lf ft th) : sp_MD (sr_u F 30 17 (nI q)) T g o kd lf ft th := h
/-- at a place that isn't blank -/
theorem sp_MR_at {Q : Option Value → sr_H → Prop} {F' : Nat → Nat → Int32} (hT : sp_TM F' t N b) (h17 : F' 30 17 = nI p) (hpN : p < N) (hb : b p ≠ nI 32) (h : sr_Call mX5_readsItem (d + 4) [.ref 30, .int (nI t)] (hp Ls nz F' FJ kp) (fun v h1 => ∃ z : Int32, v = some (.int z) ∧ ((z = 1 ∧ sr_Go mX5_faultOf (d + 5) 20 [some (.ref 30), some (.int (nI t))] [] (0, 0) h1 Q) ∨ (z = 0 ∧ ∃ F2, h1 = hp Ls nz F2 FJ kp ∧ Q (some (.int (F2 30 17))) h1)))) : sr_Go mX5_faultOf (d + 5) 20 [some (.ref 30), some (.int (nI t))] [] (0, 0) (hp Ls nz F' FJ kp) Q := by
  obtain ⟨ht, hN, hz, hb6⟩ := id hT
  refine eX5_faultOf [20] ?_
  refine ⟨t, ⟨rfl, ht⟩, ?_⟩
  refine sr_ite (c := F' 30 17 < F' 35 t) (fun _ => ?_) (fun c => absurd (by rw [h17, hz]; exact nI_lt hpN (by omega)) c)
  refine c5_byteAt (a := t) (b := p) (k := N) rfl ht hN hz h17 (by omega) (fun c => ?_) (fun c => absurd hpN c)
  rw [hb6 p c]
  refine sr_ite (c := b p = nI 32) (fun q => absurd q hb) (fun _ => ?_)
  refine sr_Call_mono (fun v h1 hv => ?_) h
  obtain ⟨z, hvz, hz⟩ := hv
  subst hvz
  rcases hz with ⟨hz, hgo⟩ | ⟨hz, F2, hh, hq⟩
  · refine sr_n1 hz ?_
    exact hgo
  · subst hh
    refine sr_n0 hz ?_
    exact hq
theorem sp_MR_blank (h : sp_MR Ls nz d FJ kp t N b p T g o kd lf ft th) (hpN : p < N) (hb : b p = nI 32) : sp_MR Ls nz d FJ kp t N b (p + 1) T g o kd lf ft th := by
  intro F Q hT hc
  refine h F Q hT (fun F' f1 f17 fD => ?_)
  obtain ⟨ht, hN, hz, hb6⟩ := sp_TM_fM f1 hT
  refine eX5_faultOf [20] ?_
  refine ⟨t, ⟨rfl, ht⟩, ?_⟩
  refine sr_ite (c := F' 30 17 < F' 35 t) (fun _ => ?_) (fun c => absurd (by rw [f17, hz]; exact nI_lt hpN (by omega)) c)
  refine c5_byteAt (a := t) (b := p) (k := N) rfl ht hN hz f17 (by omega) (fun c => ?_) (fun c => absurd hpN c)
  rw [hb6 p c]
  refine sr_ite (c := b p = nI 32) (fun _ => ?_) (fun q => absurd hb q)
  have := hc (sr_u F' 30 17 (nI (p + 1))) (f1.trans (sp_fM30 (by omega) (by omega))) (sr_u_same _ _ _ _) (sp_MD_17 fD)
  rw [← nI_1 p, ← f17] at this
  exact this
theorem sp_MR_blanks {q : Nat} (h : sp_MR Ls nz d FJ kp t N b p T g o kd lf ft th) (hpq : p ≤ q) (hqN : q ≤ N) (hb : ∀ i, p ≤ i → i < q → b i = nI 32) : sp_MR Ls nz d FJ kp t N b q T g o kd lf ft th := by
  have : ∀ m, p + m ≤ q → sp_MR Ls nz d FJ kp t N b (p + m) T g o kd lf ft th := by
    intro m
    induction m with
    | zero => intro _; exact h
    | succ m ih => intro hm; exact sp_MR_blank (p := p + m) (ih (by omega)) (by omega) (hb (p + m) (by omega) (by omega))
  have e : p + (q - p) = q := by omega
  have r := this (q - p) (by omega)
  rw [e] at r
  exact r
theorem sp_110 : ¬ nI 110 = nI 32 := by decide +kernel
theorem sp_111 : ¬ nI 111 = nI 32 := by decide +kernel
theorem sp_MR_turns (h : sp_MR Ls nz d FJ kp t N b p 0 0 0 kd lf ft th) (hpN : p < N) (hb : b p = nI 110) (hf : sp_fg b N 2 6 (p + 1)) : sp_MR Ls nz d FJ kp t N b (p + 2) (sp_cv b (p + 1)) 0 0 kd lf ft th := by
  intro F Q hT hc
  refine h F Q hT (fun F' f1 f17 fD => ?_)
  have hT' := sp_TM_fM f1 hT
  refine sp_MR_at hT' f17 hpN (by rw [hb]; exact sp_110) ?_
  refine eX5_readsItem [] ?_
  refine sr_ite (c := F' 30 19 = 0) (fun _ => ?_) (fun q => absurd fD.1 q)
  refine c5_readsTurns hT' f17 rfl hpN (fun c => absurd hb c) (fun _ c => absurd hf c) (fun _ _ z hz => ?_)
  refine ⟨Or.inr hz, z, rfl, Or.inl ⟨hz, ?_⟩⟩
  refine hc _ (f1.trans ((sp_fM30 (by omega) (by omega)).trans (sp_fM30 (by omega) (by omega)))) rfl ⟨rfl, fD.2.1, fD.2.2.1, fun i hi => by omega, fun i hi => by omega⟩
theorem sp_MR_tbad {Q : Option Value → sr_H → Prop} (h : sp_MR Ls nz d FJ kp t N b p 0 0 0 kd lf ft th) (hT : sp_TM F t N b) (hpN : p < N) (hb32 : b p ≠ nI 32) (hb : b p ≠ nI 110) (hq : ∀ F', sp_fM F F' → Q (some (.int (nI p))) (hp Ls nz F' FJ kp)) : sr_Call mX5_faultOf (d + 5) [.ref 30, .int (nI t)] (hp Ls nz F FJ kp) Q := by
  refine h F Q hT (fun F' f1 f17 fD => ?_)
  have hT' := sp_TM_fM f1 hT
  refine sp_MR_at hT' f17 hpN hb32 ?_
  refine eX5_readsItem [] ?_
  refine sr_ite (c := F' 30 19 = 0) (fun _ => ?_) (fun q => absurd fD.1 q)
  refine c5_readsTurns hT' f17 rfl hpN (fun c z hz => ?_) (fun c => absurd c hb) (fun c => absurd c hb)
  refine ⟨Or.inl hz, z, rfl, Or.inr ⟨hz, F', rfl, ?_⟩⟩
  rw [f17]; exact hq F' f1
theorem sp_MR_tfig {Q : Option Value → sr_H → Prop} (h : sp_MR Ls nz d FJ kp t N b p 0 0 0 kd lf ft th) (hT : sp_TM F t N b) (hpN : p < N) (hb : b p = nI 110) (hf : ¬ sp_fg b N 2 6 (p + 1)) (hq : ∀ F', sp_fM F F' → Q (some (.int (nI (p + 1)))) (hp Ls nz F' FJ kp)) : sr_Call mX5_faultOf (d + 5) [.ref 30, .int (nI t)] (hp Ls nz F FJ kp) Q := by
  refine h F Q hT (fun F' f1 f17 fD => ?_)
  have hT' := sp_TM_fM f1 hT
  refine sp_MR_at hT' f17 hpN (by rw [hb]; exact sp_110) ?_
  refine eX5_readsItem [] ?_
  refine sr_ite (c := F' 30 19 = 0) (fun _ => ?_) (fun q => absurd fD.1 q)
  refine c5_readsTurns hT' f17 rfl hpN (fun c => absurd hb c) (fun _ _ z hz => ?_) (fun _ c => absurd c hf)
  exact ⟨Or.inl hz, z, rfl, Or.inr ⟨hz, _, rfl, hq _ (f1.trans ((sp_fM30 (by omega) (by omega)).trans (sp_fM30 (by omega) (by omega))))⟩⟩
theorem sp_MR_fail {Q : Option Value → sr_H → Prop} {q : Nat} (h : sp_MR Ls nz d FJ kp t N b p T g o kd lf ft th) (hT2 : 2 ≤ T) (hT6 : T ≤ 6) (hP : sp_PD T g o kd lf ft th) (hT : sp_TM F t N b) (hpN : p < N) (hb : b p ≠ nI 32) (hI : sp_IF b N T g o p q) (hq : ∀ F', sp_fM F F' → Q (some (.int (nI q))) (hp Ls nz F' FJ kp)) : sr_Call mX5_faultOf (d + 5) [.ref 30, .int (nI t)] (hp Ls nz F FJ kp) Q := by
  refine h F Q hT (fun F' f1 f17 fD => ?_)
  have hT' := sp_TM_fM f1 hT
  refine sp_MR_at hT' f17 hpN hb ?_
  refine c5_readsItem (d := d) hT' f17 rfl hpN hT2 hT6 hP fD (fun q' hq' F2 f2 f27 z hz => ?_) (fun k hk => (sp_IF_G hI hk).elim) (fun hk => (sp_IF_T hI hk).elim)
  refine ⟨z, rfl, Or.inr ⟨hz, F2, rfl, ?_⟩⟩
  rw [f27, ← sp_IF_inj hI hq']
  exact hq F2 (f1.trans f2)
theorem sp_MR_G {k : Nat} (h : sp_MR Ls nz d FJ kp t N b p T g o kd lf ft th) (hT2 : 2 ≤ T) (hT6 : T ≤ 6) (hP : sp_PD T g o kd lf ft th) (hpN : p < N) (hb : b p ≠ nI 32) (hI : sp_IG b N T g o p k) : sp_MR Ls nz d FJ kp t N b (p + 1 + T + 1) T (g + 1) o (sp_ae kd g k) (sp_ae lf g (sp_lf (fun i => sp_cv b (p + 1 + i)) T)) (sp_ae ft g (sp_cv b (p + 1 + T))) th := by
  intro F Q hT hc
  refine h F Q hT (fun F' f1 f17 fD => ?_)
  have hT' := sp_TM_fM f1 hT
  refine sp_MR_at hT' f17 hpN hb ?_
  refine c5_readsItem (d := d) hT' f17 rfl hpN hT2 hT6 hP fD (fun q' hq' => (sp_IF_G hq' hI).elim) (fun k' hk z hz => ?_) (fun hk => absurd hk.1 hI.1)
  refine ⟨z, rfl, Or.inl ⟨hz, ?_⟩⟩
  have : k' = k := sp_let_inj k' hk.2.1 k hI.2.1 (hk.2.2.1.symm.trans hI.2.2.1)
  subst this
  exact hc _ (f1.trans sp_fM_G) rfl (sp_MD_G fD)
theorem sp_MR_T (h : sp_MR Ls nz d FJ kp t N b p T g o kd lf ft th) (hT2 : 2 ≤ T) (hT6 : T ≤ 6) (hP : sp_PD T g o kd lf ft th) (hpN : p < N) (hb : b p ≠ nI 32) (hI : sp_IT b N T g o p) : sp_MR Ls nz d FJ kp t N b (p + 5) T g (o + 1) kd lf ft (sp_a4 th o (fun i => sp_cv b (p + 1 + i))) := by
  intro F Q hT hc
  refine h F Q hT (fun F' f1 f17 fD => ?_)
  have hT' := sp_TM_fM f1 hT
  refine sp_MR_at hT' f17 hpN hb ?_
  refine c5_readsItem (d := d) hT' f17 rfl hpN hT2 hT6 hP fD (fun q' hq' => (sp_IF_T hq' hI).elim) (fun k' hk => absurd hI.1 hk.1) (fun hk F2 f2 e17 e18 e19 e20 e41 e42 e43 z hz => ?_)
  refine ⟨z, rfl, Or.inl ⟨hz, ?_⟩⟩
  refine hc _ (f1.trans f2) e17 ⟨by rw [e19]; exact fD.1, by rw [e18]; exact fD.2.1, e20, by rw [e41]; exact fD.2.2.2.1, fun i hi => ?_⟩
  by_cases c : i < 4 * o
  · rw [e42 i c, sp_a4_lt c]; exact fD.2.2.2.2 i c
  · have e : i = 4 * o + (i - 4 * o) := by omega
    rw [e, e43 _ (by omega), sp_a4_at]
theorem sp_MR_end {Q : Option Value → sr_H → Prop} (h : sp_MR Ls nz d FJ kp t N b N T g o kd lf ft th) (ho : o ≤ 8) (hT : sp_TM F t N b) (hq : ∀ F', sp_fM F F' → sp_MD F' T g o kd lf ft th → (o = 0 → Q (some (.int (nI N))) (hp Ls nz F' FJ kp)) ∧ (0 < o → Q (some (.int (sr_k (-9)))) (hp Ls nz F' FJ kp))) : sr_Call mX5_faultOf (d + 5) [.ref 30, .int (nI t)] (hp Ls nz F FJ kp) Q := by
  refine h F Q hT (fun F' f1 f17 fD => ?_)
  obtain ⟨ht, hN, hz, hb6⟩ := sp_TM_fM f1 hT
  obtain ⟨q0, q1⟩ := hq F' f1 fD
  refine eX5_faultOf [20] ?_
  refine ⟨t, ⟨rfl, ht⟩, ?_⟩
  refine sr_ite (c := F' 30 17 < F' 35 t) (fun c => absurd c (by rw [f17, hz]; exact nI_nlt (by omega) (by omega))) (fun _ => ?_)
  refine sr_ite (c := F' 30 20 = 0) (fun c => ?_) (fun c => ?_)
  · rw [fD.2.2.1] at c
    have c := nI_inj (b := 0) (by omega) (by omega) c
    refine ⟨t, ⟨rfl, ht⟩, ?_⟩
    show Q (some (.int (F' 35 t))) _
    rw [hz]; exact q0 c
  · refine q1 ?_
    rcases Nat.eq_zero_or_pos o with e | e
    · subst e; exact absurd fD.2.2.1 c
    · exact e
/-- what a reading comes to -/
def sp_outF (Ls nz d : Nat) (FJ : Nat → Nat → Int64) (kp : Nat → Option Nat) (t N : Nat) (b : Nat → Int32) (q : Nat) : Prop := ∀ (F : Nat → Nat → Int32) (Q : Option Value → sr_H → Prop), sp_TM F t N b → (∀ F', sp_fM F F' → Q (some (.int (nI q))) (hp Ls nz F' FJ kp)) → sr_Call mX5_faultOf (d + 5) [.ref 30, .int (nI t)] (hp Ls nz F FJ kp) Q
def sp_outO (Ls nz d : Nat) (FJ : Nat → Nat → Int64) (kp : Nat → Option Nat) (t N : Nat) (b : Nat → Int32) (T g o : Nat) (kd lf ft th : Nat → Nat) : Prop := ∀ (F : Nat → Nat → Int32) (Q : Option Value → sr_H → Prop), sp_TM F t N b → (∀ F', sp_fM F F' → sp_MD F' T g o kd lf ft th → Q (some (.int (sr_k (-9)))) (hp Ls nz F' FJ kp)) → sr_Call mX5_faultOf (d + 5) [.ref 30, .int (nI t)] (hp Ls nz F FJ kp) Q
theorem c2_read_loop {d' : Nat} (hO : sp_RO F) (hT : sp_TX F t N b) (hT2 : 2 ≤ T) (hT6 : T ≤ 6) (hF : ∀ q F', q ≤ 200 → sp_fX F F' → sp_outF Ls nz d' FJ kp t N b q → P (some (.int (nI q))) (hp Ls nz F' FJ kp)) (hK : ∀ g o kd lf ft th F', 0 < o → sp_PD T g o kd lf ft th → sp_fX F F' → sp_XD F' T g o kd lf ft th → sp_outO Ls nz d' FJ kp t N b T g o kd lf ft th → P (some (.int (sr_k (-9)))) (hp Ls nz F' FJ kp)) : ∀ (m p c g o : Nat) (z : Int32) (kd lf ft th : Nat → Nat) (F1 : Nat → Nat → Int32), N - p < m → p ≤ N → c ≤ p → z = nI c → (p < N → b p ≠ nI 32) → sp_PD T g o kd lf ft th → sp_fX F F1 → sp_RX F1 t N p → sp_XD F1 T g o kd lf ft th → sp_MR Ls nz d' FJ kp t N b p T g o kd lf ft th → sr_Go mX2_read (d + 5) 49 [some (.ref 7), some (.int (nI t)), some (.ref 14), some (.int z)] [] (0, 0) (hp Ls nz F1 FJ kp) P := by
  have hN := hT.2.2.1
  intro m
  induction m with
  | zero => intro p c g o z kd lf ft th F1 h1; omega
  | succ m ih =>
    intro p c g o z kd lf ft th F1 hm hp_ hc hz hb hP fX hR hX hMR
    have hT1 := sp_TX_fX fX hT
    have hO1 := sp_RO_fX fX hO
    have fin : p = N → sr_Go mX2_read (d + 5) 91 [some (.ref 7), some (.int (nI t)), some (.ref 14), some (.int z)] [] (0, 0) (hp Ls nz F1 FJ kp) P := by
      intro e
      subst e
      refine eX2_read [] ?_
      refine sr_ite (c := F1 14 2 = 0) (fun q => ?_) (fun q => ?_)
      · rw [hX.2.2.1] at q
        have q := nI_inj (b := 0) (by have := hP.2.1; omega) (by omega) q
        show P (some (.int (F1 7 2))) _
        rw [hR.2.1]
        refine hF p F1 (by omega) fX (fun F2 Q hT2 hq => ?_)
        exact sp_MR_end hMR hP.2.1 hT2 (fun F' f1 f2 => ⟨fun _ => hq F' f1, fun r => by omega⟩)
      · have ho : 0 < o := by
          rcases Nat.eq_zero_or_pos o with e | e
          · subst e; exact absurd hX.2.2.1 q
          · exact e
        refine hK g o kd lf ft th F1 ho hP fX hX (fun F2 Q hT2 hq => ?_)
        exact sp_MR_end hMR hP.2.1 hT2 (fun F' f1 f2 => ⟨fun r => by omega, fun _ => hq F' f1 f2⟩)
    refine eX2_read [49, 91] ?_
    refine sr_ite (c := z < F1 7 2) (fun c1 => ?_) (fun c1 => ?_)
    · refine sr_ite (c := F1 7 3 < F1 7 2) (fun c2 => ?_) (fun c2 => ?_)
      · rw [hR.2.2, hR.2.1] at c2
        have hpN := (nI_ltI (by omega) (by omega)).mp c2
        refine c2_readItem hO1 hT1 hR hpN hT2 hT6 hP hX (fun q hq w hw => ?_) (fun k hk w hw => ?_) (fun hk w hw => ?_)
        · refine sr_n0 hw ?_
          have hq200 : q ≤ 200 := by
            rcases hq with ⟨a, ⟨c, e⟩ | ⟨c1, c2, j, e, s⟩⟩ | ⟨a, ⟨c, e⟩ | ⟨k, c1, c2, c3, c4, j, e, s⟩⟩
            · omega
            · have := s.1; omega
            · omega
            · have := s.1; omega
          exact hF q _ hq200 (fX.trans (sp_fX7 _ _ _)) (fun F2 Q hT3 hq2 => sp_MR_fail hMR hT2 hT6 hP hT3 hpN (hb hpN) hq hq2)
        · refine sr_n1 hw ?_
          have hpe : p + 1 + T + 1 ≤ N := by
            have := (hk.2.2.2.2.2 T (by omega)).1
            omega
          refine c2_skip (F := sp_FGX F1 b T g p k) (p := p + 1 + T + 1) (sp_TX_fX sp_fX_G hT1) ⟨hR.1, hR.2.1, rfl⟩ hpe (fun q h1 h2 h3 h4 => ?_)
          refine ih q (c + 1) (g + 1) o _ _ _ _ _ _ (by omega) h2 (by omega) (by rw [hz]; exact nI_1 c) h4 (sp_PD_G hT2 hT6 hP hk) (fX.trans (sp_fX_G.trans (sp_fX7 _ _ _))) ⟨hR.1, hR.2.1, rfl⟩ (sp_XD_G hX) (sp_MR_blanks (sp_MR_G hMR hT2 hT6 hP hpN (hb hpN) hk) h1 h2 h3)
        · refine sr_n1 hw ?_
          have hpe : p + 5 ≤ N := by
            have := (hk.2.2.2 3 (by omega)).1
            omega
          refine c2_skip (F := sp_FTX F1 b o p) (p := p + 5) (sp_TX_fX sp_fX_T hT1) ⟨hR.1, hR.2.1, rfl⟩ hpe (fun q h1 h2 h3 h4 => ?_)
          refine ih q (c + 1) g (o + 1) _ _ _ _ _ _ (by omega) h2 (by omega) (by rw [hz]; exact nI_1 c) h4 (sp_PD_T hT2 hT6 hP hk) (fX.trans (sp_fX_T.trans (sp_fX7 _ _ _))) ⟨hR.1, hR.2.1, rfl⟩ (sp_XD_T hX) (sp_MR_blanks (sp_MR_T hMR hT2 hT6 hP hpN (hb hpN) hk) h1 h2 h3)
      · refine fin ?_
        by_cases q : p < N
        · exact absurd (by rw [hR.2.2, hR.2.1]; exact nI_lt q (by omega)) c2
        · omega
    · refine fin ?_
      by_cases q : c < N
      · exact absurd (by rw [hz, hR.2.1]; exact nI_lt q (by omega)) c1
      · omega
theorem c2_read {d' : Nat} {x : Int32} (hO : sp_RO F) (hT : sp_TX F t N b) (hx : x = nI t) (hF : ∀ q F', q ≤ 200 → sp_fX F F' → sp_outF Ls nz d' FJ kp t N b q → P (some (.int (nI q))) (hp Ls nz F' FJ kp)) (hK : ∀ T g o kd lf ft th F', 2 ≤ T → T ≤ 6 → 0 < o → sp_PD T g o kd lf ft th → sp_fX F F' → sp_XD F' T g o kd lf ft th → sp_outO Ls nz d' FJ kp t N b T g o kd lf ft th → P (some (.int (sr_k (-9)))) (hp Ls nz F' FJ kp)) : sr_Call mX2_read (d + 5) [.ref 7, .int x, .ref 14] (hp Ls nz F FJ kp) P := by
  subst hx
  have hN := hT.2.2.1
  have ht := hT.2.1
  refine eX2_read [49] ?_
  refine c3t_sizeOf (a := t) ht rfl ?_
  refine eX0_clear [] ?_
  have hN5 : F 5 t = nI N := hT.2.2.2.1
  have fX0 : sp_fX F (sr_u (sr_u (sr_u (sr_u (sr_u (sr_u F 7 1 (nI t)) 7 2 (F 5 t)) 7 3 (nI 0)) 14 0 (nI 0)) 14 1 (nI 0)) 14 2 (nI 0)) := by
    intro r h1 h2
    rw [sr_u_row _ _ (by omega), sr_u_row _ _ (by omega), sr_u_row _ _ (by omega), sr_u_row _ _ h1, sr_u_row _ _ h1, sr_u_row _ _ h1]
  have hT1 := sp_TX_fX fX0 hT
  refine c2_skip (F := sr_u (sr_u (sr_u (sr_u (sr_u (sr_u F 7 1 (nI t)) 7 2 (F 5 t)) 7 3 (nI 0)) 14 0 (nI 0)) 14 1 (nI 0)) 14 2 (nI 0)) (p := 0) hT1 ⟨rfl, hN5, rfl⟩ (by omega) (fun p h1 h2 h3 h4 => ?_)
  have fX1 := fX0.trans (sp_fX7 _ 3 (nI p))
  have hMR : sp_MR Ls nz d' FJ kp t N b p 0 0 0 (fun _ => 0) (fun _ => 0) (fun _ => 0) (fun _ => 0) := sp_MR_blanks sp_MR_0 h1 h2 h3
  refine c2_readTurns (F := sr_u (sr_u (sr_u (sr_u (sr_u (sr_u (sr_u F 7 1 (nI t)) 7 2 (F 5 t)) 7 3 (nI 0)) 14 0 (nI 0)) 14 1 (nI 0)) 14 2 (nI 0)) 7 3 (nI p)) (p := p) hT1 ⟨rfl, hN5, rfl⟩ h2 (fun c z hz => ?_) (fun c1 c2 c3 z hz => ?_) (fun c1 c2 c3 z hz => ?_)
  · refine sr_n0 hz ?_
    refine hF p _ (by omega) fX1 (fun F2 Q hT2 hq => ?_)
    by_cases hpN : p < N
    · exact sp_MR_tbad hMR hT2 hpN (h4 hpN) (c hpN) hq
    · have : p = N := by omega
      subst this
      exact sp_MR_end hMR (by omega) hT2 (fun F' f1 f2 => ⟨fun _ => hq F' f1, fun r => by omega⟩)
  · refine sr_n0 hz ?_
    exact hF (p + 1) _ (by omega) (fX1.trans (sp_fX7 _ _ _)) (fun F2 Q hT2 hq => sp_MR_tfig hMR hT2 c1 c2 c3 hq)
  · refine sr_n1 hz ?_
    have hv := sp_fgv (by omega) (by omega) c3
    have hpe : p + 2 ≤ N := by have := c3.1; omega
    have fX2 := fX1.trans (sp_fX7 (sr_u (sr_u (sr_u (sr_u (sr_u (sr_u (sr_u F 7 1 (nI t)) 7 2 (F 5 t)) 7 3 (nI 0)) 14 0 (nI 0)) 14 1 (nI 0)) 14 2 (nI 0)) 7 3 (nI p)) 3 (nI (p + 2)))
    have fX3 : sp_fX F (sr_u (sr_u (sr_u (sr_u (sr_u (sr_u (sr_u (sr_u (sr_u F 7 1 (nI t)) 7 2 (F 5 t)) 7 3 (nI 0)) 14 0 (nI 0)) 14 1 (nI 0)) 14 2 (nI 0)) 7 3 (nI p)) 7 3 (nI (p + 2))) 14 0 (nI (sp_cv b (p + 1)))) := by
      intro r r1 r2
      rw [sr_u_row _ _ (by omega)]
      exact fX2 r r1 r2
    refine c2_skip (F := sr_u (sr_u (sr_u (sr_u (sr_u (sr_u (sr_u (sr_u (sr_u F 7 1 (nI t)) 7 2 (F 5 t)) 7 3 (nI 0)) 14 0 (nI 0)) 14 1 (nI 0)) 14 2 (nI 0)) 7 3 (nI p)) 7 3 (nI (p + 2))) 14 0 (nI (sp_cv b (p + 1)))) (p := p + 2) hT1 ⟨rfl, hN5, rfl⟩ hpe (fun q g1 g2 g3 g4 => ?_)
    refine c2_read_loop (T := sp_cv b (p + 1)) hO hT hv.2.1 hv.2.2 hF (fun g o kd lf ft th F' => hK (sp_cv b (p + 1)) g o kd lf ft th F' hv.2.1 hv.2.2) (N + 1) q 0 0 0 (sr_k 0) (fun _ => 0) (fun _ => 0) (fun _ => 0) (fun _ => 0) _ (by omega) g2 (by omega) rfl g4 ⟨by omega, by omega, fun h => by omega, fun i hi => by omega, fun i hi => by omega⟩ (fX3.trans (sp_fX7 _ _ _)) ⟨rfl, hN5, rfl⟩ ⟨rfl, rfl, rfl, fun i hi => by omega, fun i hi => by omega⟩ (sp_MR_blanks (sp_MR_turns hMR c1 c2 c3) g1 g2 g3)
end FU
