/-! the reader: turns, guests, things -/
def sp_gh (T i : Nat) : Nat := if i < T then 1 else T - 1
def sp_tH (T i : Nat) : Nat := if i % 2 = 0 then T - 1 else 1
def sp_sqF (b : Nat → Int32) (N : Nat) (hi : Nat → Nat) (p n j : Nat) : Prop := j < n ∧ (∀ i, i < j → sp_fg b N 0 (hi i) (p + 1 + i)) ∧ ¬ sp_fg b N 0 (hi j) (p + 1 + j)
def sp_sqO (b : Nat → Int32) (N : Nat) (hi : Nat → Nat) (p n : Nat) : Prop := ∀ i, i < n → sp_fg b N 0 (hi i) (p + 1 + i)
theorem sp_sqF_inj {b : Nat → Int32} {N : Nat} {hi : Nat → Nat} {p n j l : Nat} (h : sp_sqF b N hi p n j) (k : sp_sqF b N hi p n l) : j = l := by
  rcases Nat.lt_trichotomy j l with c | c | c
  · exact absurd (k.2.1 j c) h.2.2
  · exact c
  · exact absurd (h.2.1 l c) k.2.2
theorem sp_sqFO {b : Nat → Int32} {N : Nat} {hi : Nat → Nat} {p n j : Nat} (h : sp_sqF b N hi p n j) (k : sp_sqO b N hi p n) : False := h.2.2 (k j h.1)
def sp_lf (c : Nat → Nat) : Nat → Nat
  | 0 => 0
  | k + 1 => sp_lf c k + c k * 2 ^ k
theorem sp_lf_lt {c : Nat → Nat} : ∀ {k : Nat}, (∀ i, i < k → c i ≤ 1) → sp_lf c k < 2 ^ k
  | 0, _ => by simp [sp_lf]
  | k + 1, h => by
    have h1 := sp_lf_lt (k := k) (fun i hi => h i (by omega))
    have h2 := h k (by omega)
    rw [sp_lf, Nat.pow_succ]
    rcases (show c k = 0 ∨ c k = 1 by omega) with e | e
    · rw [e]; omega
    · rw [e]; omega
theorem nb_shl0 : ∀ k, k < 31 → (nI 0 <<< (nI k &&& 31)) = nI 0 := by decide +kernel
theorem sp_lf_s {c : Nat → Nat} {k : Nat} {x y z : Int32} (hc : ∀ i, i < k → c i ≤ 1) (hk1 : c k ≤ 1) (hk : k < 7) (hx : x = nI (sp_lf c k)) (hy : y = nI (c k)) (hz : z = nI k) : x ||| (y <<< (z &&& 31)) = nI (sp_lf c (k + 1)) := by
  rw [hx, hy, hz, sp_lf]
  rcases (show c k = 0 ∨ c k = 1 by omega) with e | e
  · rw [e, nb_shl0 k (by omega), nI_or, Nat.zero_mul, Nat.or_zero, Nat.add_zero]
  · rw [e, nI_shl1 k (by omega), nI_or, Nat.one_mul, sp_or_pow (sp_lf_lt hc)]
theorem nb_ct : ∀ c, c < 2 → ∀ t, t < 6 → (nI c <<< (nI t &&& 31)) = nI (c * 2 ^ t) ∧ ((nI 1 - nI c) <<< (nI t &&& 31)) = nI ((1 - c) * 2 ^ t) := by decide +kernel
section IT
variable {Ls nz d T g o D t N p : Nat} {b : Nat → Int32} {kd lf ft th : Nat → Nat} {xs : Nat → Int32} {F : Nat → Nat → Int32} {FJ : Nat → Nat → Int64} {kp : Nat → Option Nat} {P : Option Value → sr_H → Prop} {h9 : sr_H}
theorem c2_readTurns (hT : sp_TX F t N b) (hR : sp_RX F t N p) (hpN : p ≤ N) (hb : (p < N → b p ≠ nI 110) → ∀ z, z = 0 → P (some (.int z)) (hp Ls nz F FJ kp)) (hf : p < N → b p = nI 110 → ¬ sp_fg b N 2 6 (p + 1) → ∀ z, z = 0 → P (some (.int z)) (hp Ls nz (sr_u F 7 3 (nI (p + 1))) FJ kp)) (hok : p < N → b p = nI 110 → sp_fg b N 2 6 (p + 1) → ∀ z, z = 1 → P (some (.int z)) (hp Ls nz (sr_u (sr_u F 7 3 (nI (p + 2))) 14 0 (nI (sp_cv b (p + 1)))) FJ kp)) : sr_Call mX2_readTurns (d + 3) [.ref 7, .ref 14] (hp Ls nz F FJ kp) P := by
  have hN := hT.2.2.1
  refine eX2_readTurns [] ?_
  refine c2_here hT hR (by omega) (fun c => ?_) (fun c => ?_)
  · refine sr_ite (c := b p = nI 110) (fun c2 => ?_) (fun c2 => ?_)
    · have e : F 7 3 + nI 1 = nI (p + 1) := by rw [hR.2.2, nI_add]
      refine c2_figure (F := sr_u F 7 3 (F 7 3 + nI 1)) (p := p + 1) (lo := 2) (hi := 6) hT ⟨hR.1, hR.2.1, e⟩ (by omega) rfl (by omega) rfl (by omega) (fun c3 => ?_) (fun c3 z hz => ?_)
      · have hv := sp_fgv (by omega) (by omega) c3
        refine sr_ite (c := nI (sp_cv b (p + 1)) < 0) (fun q => absurd q (nI_pos (by omega))) (fun _ => ?_)
        have := hok c c2 c3 1 rfl
        rw [← sr_uu F 7 3 (F 7 3 + nI 1)] at this
        exact ⟨Or.inr rfl, this⟩
      · refine sr_ite (c := z < 0) (fun _ => ?_) (fun q => absurd (by rw [hz]; decide +kernel) q)
        have := hf c c2 c3 0 rfl
        rw [← e] at this
        exact ⟨Or.inl rfl, this⟩
    · exact ⟨Or.inl rfl, hb (fun _ => c2) 0 rfl⟩
  · exact ⟨Or.inl rfl, hb (fun q => absurd q c) 0 rfl⟩
theorem c5_readsTurns {w : Int32} (hT : sp_TM F t N b) (hR : F 30 17 = nI p) (hw : w = nI t) (hpN : p < N) (hb : b p ≠ nI 110 → ∀ z, z = 0 → P (some (.int z)) (hp Ls nz F FJ kp)) (hf : b p = nI 110 → ¬ sp_fg b N 2 6 (p + 1) → ∀ z, z = 0 → P (some (.int z)) (hp Ls nz (sr_u (sr_u F 30 17 (nI (p + 1))) 30 19 0) FJ kp)) (hok : b p = nI 110 → sp_fg b N 2 6 (p + 1) → ∀ z, z = 1 → P (some (.int z)) (hp Ls nz (sr_u (sr_u F 30 17 (nI (p + 2))) 30 19 (nI (sp_cv b (p + 1)))) FJ kp)) : sr_Call mX5_readsTurns (d + 3) [.ref 30, .int w] (hp Ls nz F FJ kp) P := by
  obtain ⟨ht, hN, hz, hb6⟩ := id hT
  refine eX5_readsTurns [] ?_
  refine c5_byteAt (a := t) (b := p) (k := N) hw ht hN hz hR (by omega) (fun c => ?_) (fun c => absurd hpN c)
  rw [hb6 p c]
  refine sr_ite (c := b p = nI 110) (fun c2 => ?_) (fun c2 => ?_)
  · have e : F 30 17 + nI 1 = nI (p + 1) := by rw [hR, nI_add]
    refine c5_figure (F := sr_u F 30 17 (F 30 17 + nI 1)) (p := p + 1) (lo := 2) (hi := 6) hT e (by omega) hw rfl (by omega) rfl (by omega) (fun c3 => ?_) (fun c3 z hz => ?_)
    · have hv := sp_fgv (by omega) (by omega) c3
      have hne := sp_oI_ne (n := sp_cv b (p + 1)) (by omega)
      refine sr_ite (c := nI (sp_cv b (p + 1)) = sr_k (-9)) (fun q => absurd q hne) (fun _ => ?_)
      refine sr_ite (c := nI (sp_cv b (p + 1)) = sr_k (-9)) (fun q => absurd q hne) (fun _ => ?_)
      have := hok c2 c3 1 rfl
      rw [← sr_uu F 30 17 (F 30 17 + nI 1)] at this
      exact ⟨Or.inr rfl, this⟩
    · refine sr_ite (c := z = sr_k (-9)) (fun _ => ?_) (fun q => absurd hz q)
      refine sr_ite (c := z = sr_k (-9)) (fun _ => ?_) (fun q => absurd hz q)
      have := hf c2 c3 0 rfl
      rw [← e] at this
      exact ⟨Or.inl rfl, this⟩
  · exact ⟨Or.inl rfl, hb c2 0 rfl⟩
theorem c0_addGuest14 {x y z : Int32} (hg : F 14 1 = nI g) (hg5 : g < 5) (h : P none (hp Ls nz (sr_u (sr_u (sr_u (sr_u F 15 g x) 16 g y) 17 g z) 14 1 (nI (g + 1))) FJ kp)) : sr_Call mX0_addGuest d [.ref 14, .int x, .int y, .int z] (hp Ls nz F FJ kp) P := by
  refine eX0_addGuest [] ?_
  refine sr_ite (c := F 14 1 < nI 5) (fun _ => ?_) (fun c => absurd (by rw [hg]; exact nI_lt hg5 (by omega)) c)
  refine ⟨g, ⟨hg, show g < 5 from hg5⟩, ⟨g, ⟨hg, show g < 5 from hg5⟩, ⟨g, ⟨hg, show g < 5 from hg5⟩, ?_⟩⟩⟩
  have e : F 14 1 + nI 1 = nI (g + 1) := by rw [hg, nI_add]
  rw [← e] at h
  exact h
theorem c0_addThing14 {x y : Int32} (ho : F 14 2 = nI o) (ho8 : o < 8) (h : P none (hp Ls nz (sr_u (sr_u (sr_u F 18 o x) 19 o y) 14 2 (nI (o + 1))) FJ kp)) : sr_Call mX0_addThing d [.ref 14, .int x, .int y] (hp Ls nz F FJ kp) P := by
  refine eX0_addThing [] ?_
  refine sr_ite (c := F 14 2 < nI 8) (fun _ => ?_) (fun c => absurd (by rw [ho]; exact nI_lt ho8 (by omega)) c)
  refine ⟨o, ⟨ho, show o < 8 from ho8⟩, ⟨o, ⟨ho, show o < 8 from ho8⟩, ?_⟩⟩
  have e : F 14 2 + nI 1 = nI (o + 1) := by rw [ho, nI_add]
  rw [← e] at h
  exact h
def sp_FGX (F : Nat → Nat → Int32) (b : Nat → Int32) (T g p k : Nat) : Nat → Nat → Int32 := sr_u (sr_u (sr_u (sr_u (sr_u F 7 3 (nI (p + 1 + T + 1))) 15 g (nI k)) 16 g (nI (sp_lf (fun i => sp_cv b (p + 1 + i)) T))) 17 g (nI (sp_cv b (p + 1 + T)))) 14 1 (nI (g + 1))
theorem c2_readGuest (hO : sp_RO F) (hT : sp_TX F t N b) (hR : sp_RX F t N p) (hpN : p < N) (hT0 : F 14 0 = nI T) (hT2 : 2 ≤ T) (hT6 : T ≤ 6) (hG : F 14 1 = nI g) (hg5 : g ≤ 5) (hQ : F 14 2 = nI o) (ho8 : o ≤ 8) (hr : ((∀ k, k < 6 → b p ≠ nI (sp_let k)) ∨ 0 < o ∨ ¬ g < 5) → ∀ z, z = 0 → P (some (.int z)) (hp Ls nz F FJ kp)) (hf : ∀ k j, k < 6 → b p = nI (sp_let k) → o = 0 → g < 5 → sp_sqF b N (sp_gh T) p (T + 1) j → ∀ z, z = 0 → P (some (.int z)) (hp Ls nz (sr_u F 7 3 (nI (p + 1 + j))) FJ kp)) (hok : ∀ k, k < 6 → b p = nI (sp_let k) → o = 0 → g < 5 → sp_sqO b N (sp_gh T) p (T + 1) → ∀ z, z = 1 → P (some (.int z)) (hp Ls nz (sp_FGX F b T g p k) FJ kp)) : sr_Call mX2_readGuest (d + 3) [.ref 7, .ref 14] (hp Ls nz F FJ kp) P := by
  have hN := hT.2.2.1
  refine eX2_readGuest [27, 44] ?_
  refine c2_here hT hR (by omega) (fun c => ?_) (fun c => absurd hpN c)
  refine c2_kind hO (fun k hk ek => ?_) (fun hk => ?_)
  · refine sr_ite (c := nI k < 0) (fun q => absurd q (nI_pos (by omega))) (fun _ => ?_)
    refine sr_ite (c := 0 < F 14 2) (fun q => ?_) (fun q => ?_)
    · refine eX2_readGuest [] ?_
      rw [hQ] at q
      have q := (nI_ltI (a := 0) (by omega) (by omega)).mp q
      exact ⟨Or.inl rfl, hr (Or.inr (Or.inl q)) 0 rfl⟩
    have ho0 : o = 0 := by
      rcases Nat.eq_zero_or_pos o with e | e
      · exact e
      · exact absurd (by rw [hQ]; exact nI_lt (a := 0) e (by omega)) q
    refine sr_ite (c := F 14 1 < nI 5) (fun q2 => ?_) (fun q2 => ?_)
    · rw [hG] at q2
      have hg := (nI_ltI (by omega) (by omega)).mp q2
      have e : F 7 3 + nI 1 = nI (p + 1) := by rw [hR.2.2, nI_add]
      have loop : ∀ m, m ≤ T → ∀ (l z : Int32) (e5 : Option Value), l = nI (sp_lf (fun i => sp_cv b (p + 1 + i)) m) → z = nI m → (∀ i, i < m → sp_fg b N 0 1 (p + 1 + i)) → sr_Go mX2_readGuest (d + 3) 44 [some (.ref 7), some (.ref 14), some (.int (nI k)), some (.int l), some (.int z), e5] [] (0, 0) (hp Ls nz (sr_u F 7 3 (nI (p + 1 + m))) FJ kp) P := by
        refine sp_for (fun l z e5 hl hz hfs => ?_) (fun m hm ih l z e5 hl hz hfs => ?_)
        · refine eX2_readGuest [44] ?_
          refine sr_ite (c := z < F 14 0) (fun q => absurd q (by rw [hz, hT0]; exact nI_nlt (by omega) (by omega))) (fun _ => ?_)
          have hall : ∀ i, i < T → sp_fg b N 0 (sp_gh T i) (p + 1 + i) := fun i hi => by rw [sp_gh, if_pos hi]; exact hfs i hi
          have ghT : sp_gh T T = T - 1 := if_neg (by omega)
          refine c2_figure (F := sr_u F 7 3 (nI (p + 1 + T))) (p := p + 1 + T) (lo := 0) (hi := T - 1) hT (sp_RX_u hR) (by omega) rfl (by omega) (show F 14 0 - nI 1 = _ by rw [hT0, nI_sub (by omega)]) (by omega) (fun c3 => ?_) (fun c3 z hz => ?_)
          · have hv := sp_fgv (by omega) (by omega) c3
            refine sr_ite (c := nI (sp_cv b (p + 1 + T)) < 0) (fun q => absurd q (nI_pos (by omega))) (fun _ => ?_)
            refine c0_addGuest14 (F := sr_u (sr_u F 7 3 (nI (p + 1 + T))) 7 3 (nI (p + 1 + T + 1))) hG hg ?_
            have := hok k hk ek ho0 hg (fun i hi => by
              by_cases c : i < T
              · exact hall i c
              · have : i = T := by omega
                subst this
                rw [ghT]; exact c3) 1 rfl
            unfold sp_FGX at this
            rw [← sr_uu F 7 3 (nI (p + 1 + T)), ← hl] at this
            exact ⟨Or.inr rfl, this⟩
          · refine sr_ite (c := z < 0) (fun _ => ?_) (fun q => absurd (by rw [hz]; decide +kernel) q)
            exact ⟨Or.inl rfl, hf k T hk ek ho0 hg ⟨by omega, hall, by rw [ghT]; exact c3⟩ 0 rfl⟩
        · refine eX2_readGuest [44] ?_
          refine sr_ite (c := z < F 14 0) (fun _ => ?_) (fun q => absurd (by rw [hz, hT0]; exact nI_lt hm (by omega)) q)
          refine c2_figure (F := sr_u F 7 3 (nI (p + 1 + m))) (p := p + 1 + m) (lo := 0) (hi := 1) hT (sp_RX_u hR) (by omega) rfl (by omega) rfl (by omega) (fun c3 => ?_) (fun c3 z hz => ?_)
          · have hv := sp_fgv (by omega) (by omega) c3
            refine sr_ite (c := nI (sp_cv b (p + 1 + m)) < 0) (fun q => absurd q (nI_pos (by omega))) (fun _ => ?_)
            have := ih (l ||| (nI (sp_cv b (p + 1 + m)) <<< (z &&& 31))) (z + nI 1) (some (.int (nI (sp_cv b (p + 1 + m))))) (sp_lf_s (fun i hi => (sp_fgv (by omega) (by omega) (hfs i hi)).2.2) hv.2.2 (by omega) hl rfl hz) (by rw [hz]; exact nI_1 m) (fun i hi => by
              by_cases c : i < m
              · exact hfs i c
              · have : i = m := by omega
                subst this
                exact c3)
            rw [← Nat.add_assoc (p + 1) m 1, ← sr_uu F 7 3 (nI (p + 1 + m))] at this
            exact this
          · refine sr_ite (c := z < 0) (fun _ => ?_) (fun q => absurd (by rw [hz]; decide +kernel) q)
            exact ⟨Or.inl rfl, hf k m hk ek ho0 hg ⟨by omega, fun i hi => by rw [sp_gh, if_pos (by omega)]; exact hfs i hi, by rw [sp_gh, if_pos hm]; exact c3⟩ 0 rfl⟩
      have := loop 0 (by omega) (nI 0) (nI 0) none rfl rfl (fun i hi => by omega)
      rw [Nat.add_zero, ← e] at this
      exact this
    · refine eX2_readGuest [] ?_
      exact ⟨Or.inl rfl, hr (Or.inr (Or.inr (fun q => q2 (by rw [hG]; exact nI_lt q (by omega))))) 0 rfl⟩
  · refine eX2_readGuest [] ?_
    exact ⟨Or.inl rfl, hr (Or.inl hk) 0 rfl⟩
def sp_FGM (F : Nat → Nat → Int32) (b : Nat → Int32) (T g p k : Nat) : Nat → Nat → Int32 := sr_u (sr_u (sr_u (sr_u (sr_u F 30 17 (nI (p + 1 + T + 1))) 41 (3 * g) (nI k)) 41 (3 * g + 1) (nI (sp_lf (fun i => sp_cv b (p + 1 + i)) T))) 41 (3 * g + 2) (nI (sp_cv b (p + 1 + T)))) 30 18 (nI (g + 1))
theorem c5_readsGuest {w : Int32} (hT : sp_TM F t N b) (hR : F 30 17 = nI p) (hw : w = nI t) (hpN : p < N) (hT0 : F 30 19 = nI T) (hT2 : 2 ≤ T) (hT6 : T ≤ 6) (hG : F 30 18 = nI g) (hg5 : g ≤ 5) (hQ : F 30 20 = nI o) (ho8 : o ≤ 8) (hr : ((∀ k, k < 6 → b p ≠ nI (sp_let k)) ∨ 0 < o ∨ ¬ g < 5) → ∀ z, z = 0 → P (some (.int z)) (hp Ls nz F FJ kp)) (hf : ∀ k j, k < 6 → b p = nI (sp_let k) → o = 0 → g < 5 → sp_sqF b N (sp_gh T) p (T + 1) j → ∀ z, z = 0 → P (some (.int z)) (hp Ls nz (sr_u F 30 17 (nI (p + 1 + j))) FJ kp)) (hok : ∀ k, k < 6 → b p = nI (sp_let k) → o = 0 → g < 5 → sp_sqO b N (sp_gh T) p (T + 1) → ∀ z, z = 1 → P (some (.int z)) (hp Ls nz (sp_FGM F b T g p k) FJ kp)) : sr_Call mX5_readsGuest (d + 3) [.ref 30, .int w] (hp Ls nz F FJ kp) P := by
  obtain ⟨ht, hN, hz, hb6⟩ := id hT
  refine eX5_readsGuest [34, 51] ?_
  refine c5_byteAt (a := t) (b := p) (k := N) hw ht hN hz hR (by omega) (fun c => ?_) (fun c => absurd hpN c)
  rw [hb6 p c]
  refine c5_kind (fun k hk ek => ?_) (fun hk => ?_)
  · refine sr_ite (c := nI k = sr_k (-9)) (fun q => absurd q (sp_oI_ne (by omega))) (fun _ => ?_)
    refine sr_ite (c := 0 < F 30 20) (fun q => ?_) (fun q => ?_)
    · refine eX5_readsGuest [] ?_
      rw [hQ] at q
      have q := (nI_ltI (a := 0) (by omega) (by omega)).mp q
      exact ⟨Or.inl rfl, hr (Or.inr (Or.inl q)) 0 rfl⟩
    have ho0 : o = 0 := by
      rcases Nat.eq_zero_or_pos o with e | e
      · exact e
      · exact absurd (by rw [hQ]; exact nI_lt (a := 0) e (by omega)) q
    refine sr_ite (c := F 30 18 = nI 5) (fun q2 => ?_) (fun q2 => ?_)
    · refine eX5_readsGuest [] ?_
      rw [hG] at q2
      have := nI_inj (by omega) (by omega) q2
      exact ⟨Or.inl rfl, hr (Or.inr (Or.inr (by omega))) 0 rfl⟩
    · have hg : g < 5 := by
        have : g ≠ 5 := fun q => q2 (by rw [hG, q])
        omega
      have e : F 30 17 + nI 1 = nI (p + 1) := by rw [hR, nI_add]
      have loop : ∀ m, m ≤ T → ∀ (l z : Int32) (e5 : Option Value), l = nI (sp_lf (fun i => sp_cv b (p + 1 + i)) m) → z = nI m → (∀ i, i < m → sp_fg b N 0 1 (p + 1 + i)) → sr_Go mX5_readsGuest (d + 3) 51 [some (.ref 30), some (.int w), some (.int (nI k)), some (.int l), some (.int z), e5] [] (0, 0) (hp Ls nz (sr_u F 30 17 (nI (p + 1 + m))) FJ kp) P := by
        refine sp_for (fun l z e5 hl hz hfs => ?_) (fun m hm ih l z e5 hl hz hfs => ?_)
        · refine eX5_readsGuest [51] ?_
          refine sr_ite (c := z < F 30 19) (fun q => absurd q (by rw [hz, hT0]; exact nI_nlt (by omega) (by omega))) (fun _ => ?_)
          have hall : ∀ i, i < T → sp_fg b N 0 (sp_gh T i) (p + 1 + i) := fun i hi => by rw [sp_gh, if_pos hi]; exact hfs i hi
          have ghT : sp_gh T T = T - 1 := if_neg (by omega)
          refine c5_figure (F := sr_u F 30 17 (nI (p + 1 + T))) (p := p + 1 + T) (lo := 0) (hi := T - 1) hT rfl (by omega) hw rfl (by omega) (show F 30 19 - nI 1 = _ by rw [hT0, nI_sub (by omega)]) (by omega) (fun c3 => ?_) (fun c3 z hz => ?_)
          · have hv := sp_fgv (by omega) (by omega) c3
            refine sr_ite (c := nI (sp_cv b (p + 1 + T)) = sr_k (-9)) (fun q => absurd q (sp_oI_ne (by omega))) (fun _ => ?_)
            have e3 : nI 3 * F 30 18 = nI (3 * g) := by rw [hG, nI_mul]
            have e31 : nI 3 * F 30 18 + nI 1 = nI (3 * g + 1) := by rw [e3, nI_add]
            have e32 : nI 3 * F 30 18 + nI 2 = nI (3 * g + 2) := by rw [e3, nI_add]
            refine ⟨3 * g, ⟨e3, show 3 * g < 15 by omega⟩, ⟨3 * g + 1, ⟨e31, show 3 * g + 1 < 15 by omega⟩, ⟨3 * g + 2, ⟨e32, show 3 * g + 2 < 15 by omega⟩, ?_⟩⟩⟩
            have := hok k hk ek ho0 hg (fun i hi => by
              by_cases c : i < T
              · exact hall i c
              · have : i = T := by omega
                subst this
                rw [ghT]; exact c3) 1 rfl
            unfold sp_FGM at this
            rw [← sr_uu F 30 17 (nI (p + 1 + T)), ← hl, ← nI_1 g, ← hG] at this
            exact ⟨Or.inr rfl, this⟩
          · refine sr_ite (c := z = sr_k (-9)) (fun _ => ?_) (fun q => absurd hz q)
            exact ⟨Or.inl rfl, hf k T hk ek ho0 hg ⟨by omega, hall, by rw [ghT]; exact c3⟩ 0 rfl⟩
        · refine eX5_readsGuest [51] ?_
          refine sr_ite (c := z < F 30 19) (fun _ => ?_) (fun q => absurd (by rw [hz, hT0]; exact nI_lt hm (by omega)) q)
          refine c5_figure (F := sr_u F 30 17 (nI (p + 1 + m))) (p := p + 1 + m) (lo := 0) (hi := 1) hT rfl (by omega) hw rfl (by omega) rfl (by omega) (fun c3 => ?_) (fun c3 z hz => ?_)
          · have hv := sp_fgv (by omega) (by omega) c3
            refine sr_ite (c := nI (sp_cv b (p + 1 + m)) = sr_k (-9)) (fun q => absurd q (sp_oI_ne (by omega))) (fun _ => ?_)
            have := ih (l ||| (nI (sp_cv b (p + 1 + m)) <<< (z &&& 31))) (z + nI 1) (some (.int (nI (sp_cv b (p + 1 + m))))) (sp_lf_s (fun i hi => (sp_fgv (by omega) (by omega) (hfs i hi)).2.2) hv.2.2 (by omega) hl rfl hz) (by rw [hz]; exact nI_1 m) (fun i hi => by
              by_cases c : i < m
              · exact hfs i c
              · have : i = m := by omega
                subst this
                exact c3)
            rw [← Nat.add_assoc (p + 1) m 1, ← sr_uu F 30 17 (nI (p + 1 + m))] at this
            exact this
          · refine sr_ite (c := z = sr_k (-9)) (fun _ => ?_) (fun q => absurd hz q)
            exact ⟨Or.inl rfl, hf k m hk ek ho0 hg ⟨by omega, fun i hi => by rw [sp_gh, if_pos (by omega)]; exact hfs i hi, by rw [sp_gh, if_pos hm]; exact c3⟩ 0 rfl⟩
      have := loop 0 (by omega) (nI 0) (nI 0) none rfl rfl (fun i hi => by omega)
      rw [Nat.add_zero, ← e] at this
      exact this
  · refine eX5_readsGuest [] ?_
    exact ⟨Or.inl rfl, hr (Or.inl hk) 0 rfl⟩
end IT
