/-! ring: the reference -/
def sp_ro (R : Option Nat) : Int32 := match R with
  | none => sr_k (-9)
  | some s => nI s
def sp_bt (a b : Option Nat) : Prop := ∀ t, b = some t → ∃ s, a = some s ∧ (sp_pop s < sp_pop t ∨ (sp_pop s = sp_pop t ∧ s ≤ t))
theorem sp_bt.refl (a : Option Nat) : sp_bt a a := fun t h => ⟨t, h, Or.inr ⟨rfl, Nat.le_refl t⟩⟩
theorem sp_bt.trans {a b c : Option Nat} (h : sp_bt a b) (k : sp_bt b c) : sp_bt a c := by
  intro t ht
  obtain ⟨s, hs, q⟩ := k t ht
  obtain ⟨r, hr, q2⟩ := h s hs
  exact ⟨r, hr, by omega⟩
/-- rings that begin as v does -/
def sp_Rx (E : Nat → Nat → Prop) (g n : Nat) (v : Nat → Nat) (s : Nat) : Prop := ∃ n' v', n ≤ n' ∧ (∀ i, i ≤ n → v' i = v i) ∧ sp_pth E g n' v' ∧ sp_ws s n' v' ∧ E (v' 0) (v' n')
theorem sp_Rx_Rg {E : Nat → Nat → Prop} {g n s : Nat} {v : Nat → Nat} (h : sp_Rx E g n v s) : sp_Rg E g s := by
  obtain ⟨n', v', _, _, h1, h2, h3⟩ := h
  exact ⟨n', v', h1, h2, h3⟩
def sp_f32 (F F2 : Nat → Nat → Int32) : Prop := (∀ r, r ≠ 30 → F2 r = F r) ∧ ∀ k, k ≠ 32 → F2 30 k = F 30 k
theorem sp_f32_u {F F2 : Nat → Nat → Int32} (h : sp_f32 F F2) (x : Int32) : sp_f32 F (sr_u F2 30 32 x) := ⟨fun r hr => by rw [sr_u_row _ _ hr]; exact h.1 r hr, fun k hk => by rw [sr_u_ne _ _ hk]; exact h.2 k hk⟩
theorem sp_f32.trans {F F2 F3 : Nat → Nat → Int32} (h : sp_f32 F F2) (k : sp_f32 F2 F3) : sp_f32 F F3 := ⟨fun r hr => (k.1 r hr).trans (h.1 r hr), fun q hq => (k.2 q hq).trans (h.2 q hq)⟩
section RM
variable {Ls nz d T g o D c i j k s : Nat} {E : Nat → Nat → Prop} {kd lf th tn : Nat → Nat} {xs : Nat → Int32} {FI F F' : Nat → Nat → Int32} {FJ : Nat → Nat → Int64} {kp : Nat → Option Nat} {P : Option Value → sr_H → Prop} {h9 : sr_H}
theorem sp_f32_MH (h : sp_f32 F F') (hM : sp_MH F T g o kd lf th) : sp_MH F' T g o kd lf th := sp_MH_fr (fun r h1 h2 => h.1 r (by omega)) (fun q h1 h2 => h.2 q (by omega)) hM
theorem sp_f32_MT (h : sp_f32 F F') (hM : sp_MT F g tn) : sp_MT F' g tn := by unfold sp_MT at hM ⊢; rw [h.1 39 (by omega)]; exact hM
/-- what is known of the best ring on the way through the next guests -/
def sp_Cd (E : Nat → Nat → Prop) (g n : Nat) (v : Nat → Nat) (s : Nat) (R R1 : Option Nat) (p : Nat) : Prop := (∀ t, R1 = some t → t < 32 ∧ (R = some t ∨ sp_Rg E g t)) ∧ sp_bt R1 R ∧ (E (v 0) (v n) → sp_bt R1 (some s)) ∧ ∀ q, q < p → sp_bit s q = 0 → E q (v n) → ∀ s', sp_Rx E g (n + 1) (sp_ex v n q) s' → sp_bt R1 (some s')
theorem c5_layBody {n : Nat} {v : Nat → Nat} {R : Option Nat} {F2 : Nat → Nat → Int32} {x y w : Int32} (hD : sp_HD T g o kd lf th) (hM : sp_MH F T g o kd lf th) (hMT : sp_MT F g tn) (hTd : sp_TD T g tn) (hE : ∀ a b, E a b ↔ a ≠ b ∧ lf a = sp_sec T kd lf tn b) (hp' : sp_pth E g n v) (hS : sp_ws s n v) (hR : ∀ t, R = some t → t < 32) (hf : sp_f32 F F2) (h32 : F2 30 32 = sp_ro R) (hx : x = nI (v 0)) (hy : y = nI (v n)) (hw : w = nI s) (rec : ∀ p, p < g → sp_bit s p = 0 → E p (v n) → ∀ (R1 : Option Nat) (F2 : Nat → Nat → Int32) (x y w : Int32) (Q : Option Value → sr_H → Prop), (∀ t, R1 = some t → t < 32) → sp_f32 F F2 → F2 30 32 = sp_ro R1 → x = nI (v 0) → y = nI p → w = nI (s ||| 2 ^ p) → (∀ F3 R2, sp_f32 F F3 → F3 30 32 = sp_ro R2 → (∀ t, R2 = some t → t < 32 ∧ (R1 = some t ∨ sp_Rg E g t)) → sp_bt R2 R1 → (∀ s', sp_Rx E g (n + 1) (sp_ex v n p) s' → sp_bt R2 (some s')) → Q none (hp Ls nz F3 FJ kp)) → sr_Call mX5_layRings (d + 3) [.ref 30, .int x, .int y, .int w] (hp Ls nz F2 FJ kp) Q) (h : ∀ F3 R1, sp_f32 F F3 → F3 30 32 = sp_ro R1 → (∀ t, R1 = some t → t < 32 ∧ (R = some t ∨ sp_Rg E g t)) → sp_bt R1 R → (∀ s', sp_Rx E g n v s' → sp_bt R1 (some s')) → P none (hp Ls nz F3 FJ kp)) : sr_Call mX5_layRings (d + 4) [.ref 30, .int x, .int y, .int w] (hp Ls nz F2 FJ kp) P := by
  have hg := hD.1
  have hs := hS.1
  have v0 := hp'.1 0 (by omega)
  have vn := hp'.1 n (Nat.le_refl n)
  subst hx; subst hy; subst hw
  have at81 : ∀ p, p ≤ g → ∀ (z : Int32) F3 R1, z = nI p → sp_f32 F F3 → F3 30 32 = sp_ro R1 → sp_Cd E g n v s R R1 p → sr_Go mX5_layRings (d + 4) 81 [some (.ref 30), some (.int (nI (v 0))), some (.int (nI (v n))), some (.int (nI s)), some (.int z)] [] (0, 0) (hp Ls nz F3 FJ kp) P := by
    refine sp_for (fun z F3 R1 hz f3 e3 C => ?_) (fun p hpg ih z F3 R1 hz f3 e3 C => ?_)
    · have hM3 := sp_f32_MH f3 hM
      refine eX5_layRings [81] ?_
      refine sr_ite (c := z < F3 30 10) (fun q => absurd q (by rw [hz, hM3.2.1]; exact nI_nlt (Nat.le_refl _) (by omega))) (fun _ => ?_)
      refine h F3 R1 f3 e3 C.1 C.2.1 (fun s' hRx => ?_)
      obtain ⟨n', v', hn, ag, h1, h2, h3⟩ := hRx
      by_cases c : n' = n
      · rw [c] at h2 h3
        have : sp_ws s' n v := ⟨h2.1, fun j hj => (h2.2 j hj).trans ⟨fun ⟨i, hi, q⟩ => ⟨i, hi, by rw [← ag i hi]; exact q⟩, fun ⟨i, hi, q⟩ => ⟨i, hi, by rw [ag i hi]; exact q⟩⟩⟩
        rw [sp_ws_eq this hS]
        rw [ag 0 (by omega), ag n (by omega)] at h3
        exact C.2.2.1 h3
      · have hq := h1.1 (n + 1) (by omega)
        have he := h1.2.2 n (by omega)
        rw [ag n (by omega)] at he
        refine C.2.2.2 (v' (n + 1)) hq ?_ he s' ⟨n', v', by omega, fun i hi => ?_, h1, h2, h3⟩
        · rcases nb_b01 s (v' (n + 1)) with b | b
          · exact b
          · exfalso
            obtain ⟨i, hi, q⟩ := (hS.2 _ (by omega)).mp b
            rw [← ag i hi] at q
            have := h1.2.1 i (n + 1) (by omega) (by omega) q
            omega
        · by_cases c2 : i ≤ n
          · rw [sp_ex_le c2]; exact ag i c2
          · have : i = n + 1 := by omega
            rw [this, sp_ex_n]
    · have hM3 := sp_f32_MH f3 hM
      have hMT3 := sp_f32_MT f3 hMT
      have skip : (sp_bit s p = 1 ∨ ¬ E p (v n)) → sp_Cd E g n v s R R1 (p + 1) := by
        intro hk
        refine ⟨C.1, C.2.1, C.2.2.1, fun q hq hb hqe => ?_⟩
        by_cases e : q = p
        · rw [e] at hb hqe
          rcases hk with hk | hk
          · omega
          · exact absurd hqe hk
        · exact C.2.2.2 q (by omega) hb hqe
      refine eX5_layRings [81] ?_
      refine sr_ite (c := z < F3 30 10) (fun _ => ?_) (fun q => absurd (by rw [hz, hM3.2.1]; exact nI_lt hpg (by omega)) q)
      refine c5_holds' (l := s) (k := p) rfl (by omega) hz (by omega) (fun b u hu => ?_) (fun b u hu => ?_)
      · refine sr_n1 hu ?_
        exact ih _ F3 R1 (by rw [hz]; exact nI_1 p) f3 e3 (skip (Or.inl b))
      · refine sr_n0 hu ?_
        refine c5_isSecond' hD hM3 hMT3 hTd hz hpg rfl vn (fun c1 c2 u hu => ?_) (fun c1 u hu => ?_)
        · refine sr_n1 hu ?_
          refine rec p hpg b ((hE p (v n)).mpr ⟨c1, c2⟩) R1 F3 _ _ _ _ (fun t ht => (C.1 t ht).1) f3 e3 rfl hz ?_ (fun F4 R2 f4 e4 C1 C2 C3 => ?_)
          · show nI s ||| (nI 1 <<< (z &&& 31)) = _
            rw [hz, nI_shl1 p (by omega), nI_or]
          · refine ih _ F4 R2 (by rw [hz]; exact nI_1 p) f4 e4 ⟨fun t ht => ⟨(C1 t ht).1, ?_⟩, C2.trans C.2.1, fun he => C2.trans (C.2.2.1 he), fun q hq hb hqe s' hRx => ?_⟩
            · rcases (C1 t ht).2 with q | q
              · exact (C.1 t q).2
              · exact Or.inr q
            · by_cases e : q = p
              · rw [e] at hRx; exact C3 s' hRx
              · exact C2.trans (C.2.2.2 q (by omega) hb hqe s' hRx)
        · refine sr_n0 hu ?_
          refine ih _ F3 R1 (by rw [hz]; exact nI_1 p) f3 e3 (skip (Or.inr (fun q => ?_)))
          have := (hE p (v n)).mp q
          rcases c1 with c1 | c1
          · exact this.1 c1
          · exact c1 this.2
  have at59 : E (v 0) (v n) → ∀ b : Int32, ((b = 1 ∧ sp_bt (some s) R) ∨ (b = 0 ∧ sp_bt R (some s))) → ∀ u, sr_Go mX5_layRings (d + 4) 59 [some (.ref 30), some (.int (nI (v 0))), some (.int (nI (v n))), some (.int (nI s)), u] [.int b] (0, 0) (hp Ls nz F2 FJ kp) P := by
    intro he b hb u
    refine eX5_layRings [81] ?_
    rcases hb with ⟨hb, hbt⟩ | ⟨hb, hbt⟩
    · refine sr_n1 hb ?_
      refine at81 0 (by omega) _ (sr_u F2 30 32 (nI s)) (some s) rfl (sp_f32_u hf _) (sr_u_same _ _ _ _) ⟨fun t ht => ?_, hbt, fun _ => sp_bt.refl _, fun q hq => absurd hq (by omega)⟩
      have : s = t := Option.some.inj ht
      rw [← this]; exact ⟨hs, Or.inr ⟨n, v, hp', hS, he⟩⟩
    · refine sr_n0 hb ?_
      exact at81 0 (by omega) _ (sr_u F2 30 32 (F2 30 32)) R rfl (sp_f32_u hf _) ((sr_u_same _ _ _ _).trans h32) ⟨fun t ht => ⟨hR t ht, Or.inl ht⟩, sp_bt.refl _, fun _ => hbt, fun q hq => absurd hq (by omega)⟩
  have hM2 := sp_f32_MH hf hM
  have hMT2 := sp_f32_MT hf hMT
  have hps := nb_pop5 s hs
  refine eX5_layRings [59, 81] ?_
  refine c5_isSecond' hD hM2 hMT2 hTd rfl v0 rfl vn (fun c1 c2 u hu => ?_) (fun c1 u hu => ?_)
  · refine sr_n1 hu ?_
    have he := (hE (v 0) (v n)).mpr ⟨c1, c2⟩
    refine sr_ite (c := F2 30 32 = sr_k (-9)) (fun q => ?_) (fun q => ?_)
    · refine at59 he _ (Or.inl ⟨rfl, fun t ht => ?_⟩) _
      rw [h32, ht] at q
      exact absurd q (sp_oI_ne (by have := hR t ht; omega))
    · obtain ⟨t, ht⟩ : ∃ t, R = some t := by
        cases hr : R with
        | none => rw [h32, hr] at q; exact absurd rfl q
        | some t => exact ⟨t, rfl⟩
      have e2 : F2 30 32 = nI t := by rw [h32, ht]; rfl
      have ht32 := hR t ht
      have hpt := nb_pop5 t ht32
      refine c5_bits (l := s) rfl (by omega) ?_
      refine c5_bits (l := t) e2 (by omega) ?_
      refine sr_ite (c := nI (sp_pop s) < nI (sp_pop t)) (fun q1 => ?_) (fun q1 => ?_)
      · have q1 := (nI_ltI (by omega) (by omega)).mp q1
        refine at59 he _ (Or.inl ⟨rfl, fun t' ht' => ?_⟩) _
        rw [ht] at ht'
        have : t = t' := Option.some.inj ht'
        rw [← this]; exact ⟨s, rfl, Or.inl q1⟩
      · have q1 : ¬ sp_pop s < sp_pop t := fun q => q1 (nI_lt q (by omega))
        refine c5_bits (l := s) rfl (by omega) ?_
        refine c5_bits (l := t) e2 (by omega) ?_
        refine sr_ite (c := nI (sp_pop s) = nI (sp_pop t)) (fun q2 => ?_) (fun q2 => ?_)
        · have q2 := nI_inj (by omega) (by omega) q2
          refine sr_ite (c := nI s < F2 30 32) (fun q3 => ?_) (fun q3 => ?_)
          · rw [e2] at q3
            have q3 := (nI_ltI (by omega) (by omega)).mp q3
            refine at59 he _ (Or.inl ⟨rfl, fun t' ht' => ?_⟩) _
            rw [ht] at ht'
            have : t = t' := Option.some.inj ht'
            rw [← this]; exact ⟨s, rfl, Or.inr ⟨q2, by omega⟩⟩
          · have q3 : ¬ s < t := fun q => q3 (by rw [e2]; exact nI_lt q (by omega))
            refine at59 he _ (Or.inr ⟨rfl, fun t' ht' => ?_⟩) _
            have : s = t' := Option.some.inj ht'
            rw [← this]; exact ⟨t, ht, Or.inr ⟨q2.symm, by omega⟩⟩
        · have q2 : ¬ sp_pop s = sp_pop t := fun q => q2 (by rw [q])
          refine at59 he _ (Or.inr ⟨rfl, fun t' ht' => ?_⟩) _
          have : s = t' := Option.some.inj ht'
          rw [← this]; exact ⟨t, ht, Or.inl (by omega)⟩
  · refine sr_n0 hu ?_
    refine at81 0 (by omega) _ F2 R rfl hf h32 ⟨fun t ht => ⟨hR t ht, Or.inl ht⟩, sp_bt.refl _, fun q => ?_, fun q hq => absurd hq (by omega)⟩
    have := (hE _ _).mp q
    rcases c1 with c1 | c1
    · exact absurd c1 this.1
    · exact absurd this.2 c1
theorem sp_ex_ws {n p : Nat} {v : Nat → Nat} (hS : sp_ws s n v) (hp5 : p < 5) (hb : sp_bit s p = 0) : sp_ws (s ||| 2 ^ p) (n + 1) (sp_ex v n p) := by
  have ob := nb_orl s hS.1 p hp5
  refine ⟨ob.1, fun j hj => (ob.2 j hj).trans ⟨fun q => ?_, fun ⟨i, hi, q⟩ => ?_⟩⟩
  · rcases q with q | q
    · obtain ⟨i, hi, q⟩ := (hS.2 j hj).mp q
      exact ⟨i, by omega, by rw [sp_ex_le hi]; exact q⟩
    · exact ⟨n + 1, by omega, by rw [sp_ex_n, q]⟩
  · by_cases c : i ≤ n
    · rw [sp_ex_le c] at q
      exact Or.inl ((hS.2 j hj).mpr ⟨i, c, q⟩)
    · have : i = n + 1 := by omega
      rw [this, sp_ex_n] at q
      exact Or.inr q.symm
theorem c5_layRings (hD : sp_HD T g o kd lf th) (hM : sp_MH F T g o kd lf th) (hMT : sp_MT F g tn) (hTd : sp_TD T g tn) (hE : ∀ a b, E a b ↔ a ≠ b ∧ lf a = sp_sec T kd lf tn b) : ∀ (m n s : Nat) (v : Nat → Nat) (R : Option Nat) (F2 : Nat → Nat → Int32) (x y w : Int32) (P : Option Value → sr_H → Prop), sp_pop s + m = 5 → sp_pth E g n v → sp_ws s n v → (∀ t, R = some t → t < 32) → sp_f32 F F2 → F2 30 32 = sp_ro R → x = nI (v 0) → y = nI (v n) → w = nI s → (∀ F3 R1, sp_f32 F F3 → F3 30 32 = sp_ro R1 → (∀ t, R1 = some t → t < 32 ∧ (R = some t ∨ sp_Rg E g t)) → sp_bt R1 R → (∀ s', sp_Rx E g n v s' → sp_bt R1 (some s')) → P none (hp Ls nz F3 FJ kp)) → sr_Call mX5_layRings (d + m + 4) [.ref 30, .int x, .int y, .int w] (hp Ls nz F2 FJ kp) P := by
  have hg := hD.1
  intro m
  induction m with
  | zero =>
    intro n s v R F2 x y w P hm hp' hS hR hf h32 hx hy hw h
    refine c5_layBody hD hM hMT hTd hE hp' hS hR hf h32 hx hy hw (fun p hpg hb => ?_) h
    have := nb_full5 s hS.1 (by omega) p (by omega)
    omega
  | succ m ihm =>
    intro n s v R F2 x y w P hm hp' hS hR hf h32 hx hy hw h
    refine c5_layBody (d := d + (m + 1)) hD hM hMT hTd hE hp' hS hR hf h32 hx hy hw (fun p hpg hb he R1 F3 x1 y1 w1 Q hR1 f3 e3 hx1 hy1 hw1 hQ => ?_) h
    have ob := nb_ob s hS.1 p (by omega) hb
    refine ihm (n + 1) (s ||| 2 ^ p) (sp_ex v n p) R1 F3 x1 y1 w1 Q (by rw [ob.2.1]; omega) (sp_ex_pth hp' hpg (fun i hi q => ?_) he) (sp_ex_ws hS (by omega) hb) hR1 f3 e3 (by rw [sp_ex_le (by omega)]; exact hx1) (by rw [sp_ex_n]; exact hy1) hw1 hQ
    have := (sp_ws_in hg hp' hS hi).2
    rw [q] at this
    omega
theorem c5_ring {Q : Option Value → sr_H → Prop} (hD : sp_HD T g o kd lf th) (hM : sp_MH F T g o kd lf th) (hMT : sp_MT F g tn) (hTd : sp_TD T g tn) (hE : ∀ a b, E a b ↔ a ≠ b ∧ lf a = sp_sec T kd lf tn b) (hN : ∀ F2, sp_f32 F F2 → (∀ s, ¬ sp_Rg E g s) → Q (some (.int (sr_k (-9)))) (hp Ls nz F2 FJ kp)) (hK : ∀ F2 k, sp_f32 F F2 → sp_ch (sp_Rg E g) (2 ^ g) k → Q (some (.int (nI (sp_pop k)))) (hp Ls nz (sr_u F2 30 2 (nI k)) FJ kp)) : sr_Call mX5_ring (d + 9) [.ref 30] (hp Ls nz F FJ kp) Q := by
  have hg := hD.1
  have l1 : ∀ i, i ≤ g → ∀ (z : Int32) F2 R, z = nI i → sp_f32 F F2 → F2 30 32 = sp_ro R → (∀ t, R = some t → t < 32 ∧ sp_Rg E g t) → (∀ f, f < i → ∀ s', sp_Rx E g 0 (fun _ => f) s' → sp_bt R (some s')) → sr_Go mX5_ring (d + 9) 8 [some (.ref 30), some (.int z)] [] (0, 0) (hp Ls nz F2 FJ kp) Q := by
    refine sp_for (fun z F2 R hz hf h32 hR hall => ?_) (fun i hi ih z F2 R hz hf h32 hR hall => ?_)
    · have hM2 := sp_f32_MH hf hM
      have all : ∀ s', sp_Rg E g s' → sp_bt R (some s') := by
        intro s' ⟨n', v', h1, h2, h3⟩
        exact hall (v' 0) (h1.1 0 (by omega)) s' ⟨n', v', by omega, fun i hi => by rw [show i = 0 by omega], h1, h2, h3⟩
      refine eX5_ring [8] ?_
      refine sr_ite (c := z < F2 30 10) (fun q => absurd q (by rw [hz, hM2.2.1]; exact nI_nlt (Nat.le_refl _) (by omega))) (fun _ => ?_)
      refine sr_ite (c := F2 30 32 = sr_k (-9)) (fun q => ?_) (fun q => ?_)
      · refine hN F2 hf (fun s' hs' => ?_)
        obtain ⟨t, ht, _⟩ := all s' hs' s' rfl
        have := (hR t ht).1
        rw [h32, ht] at q
        exact absurd q (sp_oI_ne (by omega))
      · obtain ⟨t, ht⟩ : ∃ t, R = some t := by
          cases hr : R with
          | none => rw [h32, hr] at q; exact absurd rfl q
          | some t => exact ⟨t, rfl⟩
        have e2 : F2 30 32 = nI t := by rw [h32, ht]; rfl
        obtain ⟨ht32, hRg⟩ := hR t ht
        refine c5_bits (l := t) e2 (by omega) ?_
        refine c5_tells ?_
        have lt : ∀ s, sp_Rg E g s → s < 2 ^ g := fun s ⟨n, v, a, b, _⟩ => sp_ws_lt hg a b
        have := hK F2 t hf ⟨lt t hRg, hRg, fun j _ hj => ?_⟩
        · rw [← e2] at this
          exact this
        · obtain ⟨t', ht', q2⟩ := all j hj j rfl
          rw [ht] at ht'
          have : t = t' := Option.some.inj ht'
          rw [this]; exact q2
    · have hM2 := sp_f32_MH hf hM
      have pw := nb_pw i (by omega)
      refine eX5_ring [8] ?_
      refine sr_ite (c := z < F2 30 10) (fun _ => ?_) (fun q => absurd (by rw [hz, hM2.2.1]; exact nI_lt hi (by omega)) q)
      refine c5_layRings (d := d) (E := E) hD hM hMT hTd hE 4 0 (2 ^ i) (fun _ => i) R F2 _ _ _ _ (by rw [pw.2.1]) ⟨fun _ _ => hi, fun a b ha hb _ => by omega, fun a ha => by omega⟩ ⟨pw.1, fun j hj => (pw.2.2 j hj).trans ⟨fun q => ⟨0, by omega, q.symm⟩, fun ⟨_, _, q⟩ => q.symm⟩⟩ (fun t ht => (hR t ht).1) hf h32 hz hz ?_ (fun F3 R1 f3 e3 C1 C2 C3 => ?_)
      · show nI 1 <<< (z &&& 31) = _
        rw [hz]; exact nI_shl1 i (by omega)
      · refine ih _ F3 R1 (by rw [hz]; exact nI_1 i) f3 e3 (fun t ht => ⟨(C1 t ht).1, ?_⟩) (fun f hfi s' hRx => ?_)
        · rcases (C1 t ht).2 with q | q
          · exact (hR t q).2
          · exact q
        · by_cases e : f = i
          · rw [e] at hRx; exact C3 s' hRx
          · exact C2.trans (hall f (by omega) s' hRx)
  refine eX5_ring [8] ?_
  exact l1 0 (by omega) _ (sr_u F 30 32 (sr_k (-9))) none rfl ⟨fun r hr => sr_u_row _ _ hr, fun k hk => sr_u_ne _ _ hk⟩ (sr_u_same _ _ _ _) (fun t ht => absurd ht (by simp)) (fun f hfi => absurd hfi (by omega))
theorem q_ring (hI : sp_Inv xs nz FI FJ kp) : sp_two (sp_I Ls xs) mX4_ring mX5_ring (d + 9) [] (hp Ls nz FI FJ kp) := by
  obtain ⟨hS, hO, hA, hB, hC, T, g, o, kd, lf, th, tn, D, vs, ac, gs, hD, hX, hM, hTd, hXT, hMT, hLG, hXL, hML, hRK⟩ := id hI
  have hg := hD.1
  have h32 := nb_p5 hg
  obtain ⟨E, hE⟩ : ∃ E : Nat → Nat → Prop, ∀ a b, E a b ↔ a ≠ b ∧ lf a = sp_sec T kd lf tn b := ⟨_, fun _ _ => Iff.rfl⟩
  have hEi : ∀ a, ¬ E a a := fun a q => ((hE a a).mp q).1 rfl
  have es : ∀ F2 : Nat → Nat → Int32, F2 8 1 = nI g → (nI 1 <<< (F2 8 1 &&& 31)) = nI (2 ^ g) := fun F2 q => by rw [q]; exact nI_shl1 g (by omega)
  have W0 : ¬ sp_Rg E g 0 := fun ⟨n, v, a, b, _⟩ => by have := sp_ws_pos hg a b; omega
  have l1 : ∀ k, k ≤ 2 ^ g → 1 ≤ k → ∀ (b q z : Int32) F2 u, z = nI k → (∀ r, r ≠ 28 → F2 r = FI r) → (∀ s', 0 < s' → s' < k → ∃ e, e < 32 ∧ F2 28 s' = nI e ∧ ∀ l, l < 5 → (sp_bit e l = 1 ↔ sp_PE E g s' l)) → ((b = 0 ∧ q = nI 6 ∧ ∀ j, j < k → ¬ sp_Rg E g j) ∨ ∃ k', k' < k ∧ 0 < k' ∧ b = nI k' ∧ q = nI (sp_pop k') ∧ sp_Rg E g k' ∧ ∀ j, j < k → sp_Rg E g j → sp_pop k' < sp_pop j ∨ (sp_pop k' = sp_pop j ∧ k' ≤ j)) → sr_Go mX4_ring (d + 9) 7 [some (.ref 0), some (.int b), some (.int q), some (.int z), u] [] (0, 0) (hp Ls nz F2 FJ kp) (fun v h1 => sp_mc h1 (sr_Call mX5_ring (d + 9) [.ref 30] h1 (fun v2 h2 => v2 = v ∧ sp_I Ls xs h2))) := by
    refine sp_for (fun _ b q z F2 u hz fr hw hq => ?_) (fun k hk ih hk1 b q z F2 u hz fr hw hq => ?_)
    · have hX2 : sp_XH F2 T g o kd lf th := sp_XH_fr (fun r h1 h2 => fr r (by omega)) hX
      have hM2 : sp_MH F2 T g o kd lf th := sp_MH_fr (fun r h1 h2 => fr r (by omega)) (fun q h1 h2 => by rw [fr 30 (by omega)]) hM
      have hMT2 : sp_MT F2 g tn := by unfold sp_MT at hMT ⊢; rw [fr 39 (by omega)]; exact hMT
      have lt : ∀ s, sp_Rg E g s → s < 2 ^ g := fun s ⟨n, v, a, b, _⟩ => sp_ws_lt hg a b
      refine eX4_ring [7] ?_
      refine sr_ite (c := z < nI 1 <<< (F2 8 1 &&& 31)) (fun q => absurd q (by rw [hz, es F2 hX2.2.1]; exact nI_nlt (Nat.le_refl _) (by omega))) (fun _ => ?_)
      refine sr_ite (c := b = 0) (fun c => ?_) (fun c => ?_)
      · rcases hq with ⟨e1, e2, e3⟩ | ⟨k', h1, h2, e1, e2, e3, e4⟩
        · refine c5_ring hD hM2 hMT2 hTd hE (fun F3 f3 no => ?_) (fun F3 k f3 hk => absurd hk.2.1 (e3 k hk.1))
          refine ⟨rfl, .of (sp_Inv_few hI (fun r a1 a2 a3 a4 => ?_) (fun q a1 a2 => ?_) (fun q a1 a2 => ?_) ?_)⟩
          · rw [f3.1 r a3, fr r (by omega)]
          · rw [f3.1 0 (by omega), fr 0 (by omega)]
          · rw [f3.2 q a2, fr 30 (by omega)]
          · rw [f3.1 0 (by omega), f3.2 2 (by omega), fr 0 (by omega), fr 30 (by omega)]; exact hA.1
        · rw [e1] at c
          have := nI_inj (by omega) (by omega) (c.trans nI_0.symm)
          omega
      · rcases hq with ⟨e1, e2, e3⟩ | ⟨k', h1, h2, e1, e2, e3, e4⟩
        · exact absurd e1 c
        · refine c4_tell ?_
          subst e1; subst e2
          have f9 : ∀ r, r ≠ 0 → sr_u F2 0 11 (nI k') r = F2 r := fun r hr => sr_u_row _ _ hr
          refine c5_ring (F := sr_u F2 0 11 (nI k')) hD hM2 hMT2 hTd hE (fun F3 f3 no => absurd e3 (no k')) (fun F3 k f3 hk => ?_)
          have ek := sp_ch_inj hk ⟨h1, e3, e4⟩
          subst ek
          refine ⟨rfl, .of (sp_Inv_few hI (fun r a1 a2 a3 a4 => ?_) (fun q a1 a2 => ?_) (fun q a1 a2 => ?_) ?_)⟩
          · rw [sr_u_row _ _ a3, f3.1 r a3, f9 r a1, fr r (by omega)]
          · rw [sr_u_row _ _ (by omega), f3.1 0 (by omega), sr_u_ne _ _ a2, fr 0 (by omega)]
          · rw [sr_u_ne _ _ a1, f3.2 q a2, f9 30 (by omega), fr 30 (by omega)]
          · rw [sr_u_row _ _ (by omega), sr_u_same, f3.1 0 (by omega), sr_u_same]
    · have hX2 : sp_XH F2 T g o kd lf th := sp_XH_fr (fun r h1 h2 => fr r (by omega)) hX
      have hXT2 : sp_XT F2 g tn := by unfold sp_XT at hXT ⊢; rw [fr 21 (by omega)]; exact hXT
      have hk32 : k < 32 := by omega
      have hp5 := nb_pop5 k hk32
      have lo := nb_lo k hk32 (by omega)
      have hfg := nb_gj g (by omega) k hk32 hk _ lo.1 lo.2.1
      have flow : sp_lowI k = nI (sp_low k 8) := by unfold sp_lowI; rw [if_neg (by omega)]
      have iff := sp_Rg_iff (E := E) (s := k) hg hEi (by omega)
      refine eX4_ring [7, 71] ?_
      refine sr_ite (c := z < nI 1 <<< (F2 8 1 &&& 31)) (fun _ => ?_) (fun q => absurd (by rw [hz, es F2 hX2.2.1]; exact nI_lt hk (by omega)) q)
      refine c4_endsOfWalk (E := E) (s := k) hD hX2 hXT2 hTd hE hz (by omega) hk hw (fun e he hPE => ?_)
      refine ⟨k, ⟨hz, show k < 32 by omega⟩, ?_⟩
      have fr3 : ∀ r, r ≠ 28 → sr_u F2 28 k (nI e) r = FI r := fun r hr => by rw [sr_u_row _ _ hr]; exact fr r hr
      have hX3 : sp_XH (sr_u F2 28 k (nI e)) T g o kd lf th := sp_XH_fr (fun r h1 h2 => fr3 r (by omega)) hX
      have hXT3 : sp_XT (sr_u F2 28 k (nI e)) g tn := by unfold sp_XT at hXT ⊢; rw [fr3 21 (by omega)]; exact hXT
      have hw3 : ∀ s', 0 < s' → s' < k + 1 → ∃ e', e' < 32 ∧ sr_u F2 28 k (nI e) 28 s' = nI e' ∧ ∀ l, l < 5 → (sp_bit e' l = 1 ↔ sp_PE E g s' l) := by
        intro s' h1 h2
        by_cases c : s' = k
        · rw [c]; exact ⟨e, he, sr_u_same _ _ _ _, hPE⟩
        · rw [sr_u_ne _ _ c]; exact hw s' h1 (by omega)
      have stay : ∀ u, ¬ (sp_Rg E g k ∧ nI (sp_pop k) < q) → sr_Go mX4_ring (d + 9) 71 [some (.ref 0), some (.int b), some (.int q), some (.int z), u] [] (0, 0) (hp Ls nz (sr_u F2 28 k (nI e)) FJ kp) (fun v h1 => sp_mc h1 (sr_Call mX5_ring (d + 9) [.ref 30] h1 (fun v2 h2 => v2 = v ∧ sp_I Ls xs h2))) := by
        intro u no
        refine eX4_ring [7] ?_
        refine ih (by omega) b q _ _ u (by rw [hz]; exact nI_1 k) fr3 hw3 ?_
        rcases hq with ⟨e1, e2, e3⟩ | ⟨k', h1, h2, e1, e2, e3, e4⟩
        · refine Or.inl ⟨e1, e2, fun j hj => ?_⟩
          by_cases c : j = k
          · rw [c]; intro q; exact no ⟨q, by rw [e2]; exact nI_lt (by omega) (by omega)⟩
          · exact e3 j (by omega)
        · have p2 := nb_pop5 k' (by omega)
          refine Or.inr ⟨k', by omega, h2, e1, e2, e3, fun j hj hR => ?_⟩
          by_cases c : j = k
          · rw [c] at hR ⊢
            have : ¬ sp_pop k < sp_pop k' := fun q => no ⟨hR, by rw [e2]; exact nI_lt q (by omega)⟩
            omega
          · exact e4 j (by omega) hR
      refine c6_bitCount (l := k) hz (by omega) ?_
      refine sr_ite (c := nI 1 < nI (sp_pop k)) (fun c1 => ?_) (fun c1 => ?_)
      · have c1 := (nI_ltI (by omega) (by omega)).mp c1
        refine sr_ite (c := nI (sp_pop k) < q) (fun c2 => ?_) (fun c2 => ?_)
        · refine ⟨k, ⟨hz, show k < 32 by omega⟩, ?_⟩
          refine c4_firstBit (l := k) hz (by omega) ?_
          refine c4_leadsOn (F := sr_u F2 28 k (nI e)) (e := e) hD hX3 hXT3 hTd (sr_u_same _ _ _ _) (by omega) flow hfg (fun p hpg hb hse y hy => ?_) (fun no y hy => ?_)
          · refine sr_n1 hy ?_
            have hpe := (hPE p (by omega)).mp hb
            have hin := sp_PE_in hg (by omega) (by omega) hpe
            have hRg : sp_Rg E g k := iff.mpr ⟨c1, p, hpg, hpe, (hE _ _).mpr ⟨by omega, hse⟩⟩
            refine eX4_ring [7] ?_
            refine ih (by omega) _ _ _ _ _ (by rw [hz]; exact nI_1 k) fr3 hw3 (Or.inr ⟨k, by omega, by omega, hz, rfl, hRg, fun j hj hR => ?_⟩)
            by_cases c : j = k
            · rw [c]; exact Or.inr ⟨rfl, Nat.le_refl _⟩
            · rcases hq with ⟨e1, e2, e3⟩ | ⟨k', h1, h2, e1, e2, e3, e4⟩
              · exact absurd hR (e3 j (by omega))
              · have p2 := nb_pop5 k' (by omega)
                have := e4 j (by omega) hR
                rw [e2] at c2
                have c2 := (nI_ltI (by omega) (by omega)).mp c2
                omega
          · refine sr_n0 hy ?_
            refine stay _ (fun q => ?_)
            obtain ⟨_, p, hpg, hpe, hep⟩ := iff.mp q.1
            exact no p hpg ((hPE p (by omega)).mpr hpe) ((hE _ _).mp hep).2
        · exact stay _ (fun q => c2 q.2)
      · refine stay _ (fun q => ?_)
        exact c1 (nI_lt (iff.mp q.1).1 (by omega))
  refine eX4_ring [7] ?_
  exact l1 1 (Nat.two_pow_pos g) (by omega) _ _ _ FI _ rfl (fun r _ => rfl) (fun s' h1 h2 => by omega) (Or.inl ⟨rfl, rfl, fun j hj => by rw [show j = 0 by omega]; exact W0⟩)
end RM
