/-! the reader: a whole text -/
def sp_PD (T g o : Nat) (kd lf ft th : Nat → Nat) : Prop := g ≤ 5 ∧ o ≤ 8 ∧ (0 < o → 0 < g) ∧ (∀ i, i < g → kd i < 6 ∧ lf i < 2 ^ T ∧ ft i < T) ∧ ∀ i, i < o → th (4 * i) < T ∧ th (4 * i + 1) < 2 ∧ th (4 * i + 2) < T ∧ th (4 * i + 3) < 2
def sp_XD (F : Nat → Nat → Int32) (T g o : Nat) (kd lf ft th : Nat → Nat) : Prop := F 14 0 = nI T ∧ F 14 1 = nI g ∧ F 14 2 = nI o ∧ (∀ i, i < g → F 15 i = nI (kd i) ∧ F 16 i = nI (lf i) ∧ F 17 i = nI (ft i)) ∧ ∀ i, i < o → F 18 i = nI (sp_on (th (4 * i)) (th (4 * i + 1)) (th (4 * i + 2)) (th (4 * i + 3))) ∧ F 19 i = nI (sp_no (th (4 * i)) (th (4 * i + 1)) (th (4 * i + 2)) (th (4 * i + 3)))
def sp_MD (F : Nat → Nat → Int32) (T g o : Nat) (kd lf ft th : Nat → Nat) : Prop := F 30 19 = nI T ∧ F 30 18 = nI g ∧ F 30 20 = nI o ∧ (∀ i, i < g → F 41 (3 * i) = nI (kd i) ∧ F 41 (3 * i + 1) = nI (lf i) ∧ F 41 (3 * i + 2) = nI (ft i)) ∧ ∀ i, i < 4 * o → F 42 i = nI (th i)
def sp_fX (FI F : Nat → Nat → Int32) : Prop := ∀ r, r ≠ 7 → (r < 14 ∨ 19 < r) → F r = FI r
def sp_fM (FI F : Nat → Nat → Int32) : Prop := (∀ r, r ≠ 30 → r ≠ 41 → r ≠ 42 → F r = FI r) ∧ ∀ k, (k < 17 ∨ 20 < k) → F 30 k = FI 30 k
theorem sp_fX.trans {A B C : Nat → Nat → Int32} (h : sp_fX A B) (k : sp_fX B C) : sp_fX A C := fun r h1 h2 => (k r h1 h2).trans (h r h1 h2)
theorem sp_fM.trans {A B C : Nat → Nat → Int32} (h : sp_fM A B) (k : sp_fM B C) : sp_fM A C := ⟨fun r h1 h2 h3 => (k.1 r h1 h2 h3).trans (h.1 r h1 h2 h3), fun i hi => (k.2 i hi).trans (h.2 i hi)⟩
theorem sp_fM.refl (A : Nat → Nat → Int32) : sp_fM A A := ⟨fun _ _ _ _ => rfl, fun _ _ => rfl⟩
theorem sp_fX7 (F : Nat → Nat → Int32) (k : Nat) (v : Int32) : sp_fX F (sr_u F 7 k v) := fun r h1 _ => sr_u_row _ _ h1
theorem sp_fM30 {F : Nat → Nat → Int32} {k : Nat} {v : Int32} (hk : 17 ≤ k) (hk2 : k ≤ 20) : sp_fM F (sr_u F 30 k v) := ⟨fun r h1 _ _ => sr_u_row _ _ h1, fun i hi => sr_u_ne _ _ (by omega)⟩
def sp_IF (b : Nat → Int32) (N T g o p q : Nat) : Prop :=
  (b p = nI 111 ∧ (((g = 0 ∨ ¬ o < 8) ∧ q = p) ∨ (0 < g ∧ o < 8 ∧ ∃ j, q = p + 1 + j ∧ sp_sqF b N (sp_tH T) p 4 j))) ∨
  (b p ≠ nI 111 ∧ ((((∀ k, k < 6 → b p ≠ nI (sp_let k)) ∨ 0 < o ∨ ¬ g < 5) ∧ q = p) ∨ ∃ k, k < 6 ∧ b p = nI (sp_let k) ∧ o = 0 ∧ g < 5 ∧ ∃ j, q = p + 1 + j ∧ sp_sqF b N (sp_gh T) p (T + 1) j))
def sp_IG (b : Nat → Int32) (N T g o p k : Nat) : Prop := b p ≠ nI 111 ∧ k < 6 ∧ b p = nI (sp_let k) ∧ o = 0 ∧ g < 5 ∧ sp_sqO b N (sp_gh T) p (T + 1)
def sp_IT (b : Nat → Int32) (N T g o p : Nat) : Prop := b p = nI 111 ∧ 0 < g ∧ o < 8 ∧ sp_sqO b N (sp_tH T) p 4
section ID
variable {b : Nat → Int32} {N T g o p q q' k k' : Nat}
theorem sp_IF_inj (h : sp_IF b N T g o p q) (h' : sp_IF b N T g o p q') : q = q' := by
  rcases h with ⟨a, ⟨c, e⟩ | ⟨c1, c2, j, e, s⟩⟩ | ⟨a, ⟨c, e⟩ | ⟨k, c1, c2, c3, c4, j, e, s⟩⟩ <;> rcases h' with ⟨a', ⟨c', e'⟩ | ⟨c1', c2', j', e', s'⟩⟩ | ⟨a', ⟨c', e'⟩ | ⟨k', c1', c2', c3', c4', j', e', s'⟩⟩
  · omega
  · omega
  · exact absurd a a'
  · exact absurd a a'
  · omega
  · have := sp_sqF_inj s s'; omega
  · exact absurd a a'
  · exact absurd a a'
  · exact absurd a' a
  · exact absurd a' a
  · omega
  · exfalso
    rcases c with c | c | c
    · exact c k' c1' c2'
    · omega
    · omega
  · exact absurd a' a
  · exact absurd a' a
  · exfalso
    rcases c' with c | c | c
    · exact c k c1 c2
    · omega
    · omega
  · have := sp_sqF_inj s s'; omega
theorem sp_IF_G (h : sp_IF b N T g o p q) (h' : sp_IG b N T g o p k) : False := by
  obtain ⟨d0, d1, d2, d3, d4, d5⟩ := h'
  rcases h with ⟨a, _⟩ | ⟨a, ⟨c, e⟩ | ⟨k, c1, c2, c3, c4, j, e, s⟩⟩
  · exact d0 a
  · rcases c with c | c | c
    · exact c _ d1 d2
    · omega
    · omega
  · exact sp_sqFO s d5
theorem sp_IF_T (h : sp_IF b N T g o p q) (h' : sp_IT b N T g o p) : False := by
  obtain ⟨d0, d1, d2, d3⟩ := h'
  rcases h with ⟨a, ⟨c, e⟩ | ⟨c1, c2, j, e, s⟩⟩ | ⟨a, _⟩
  · omega
  · exact sp_sqFO s d3
  · exact a d0
end ID
section TE
variable {Ls nz d T g o D t N p : Nat} {b : Nat → Int32} {kd lf ft th : Nat → Nat} {xs : Nat → Int32} {F : Nat → Nat → Int32} {FJ : Nat → Nat → Int64} {kp : Nat → Option Nat} {P : Option Value → sr_H → Prop} {h9 : sr_H}
theorem c2_readItem (hO : sp_RO F) (hT : sp_TX F t N b) (hR : sp_RX F t N p) (hpN : p < N) (hT2 : 2 ≤ T) (hT6 : T ≤ 6) (hP : sp_PD T g o kd lf ft th) (hX : sp_XD F T g o kd lf ft th) (hf : ∀ q, sp_IF b N T g o p q → ∀ z, z = 0 → P (some (.int z)) (hp Ls nz (sr_u F 7 3 (nI q)) FJ kp)) (hg : ∀ k, sp_IG b N T g o p k → ∀ z, z = 1 → P (some (.int z)) (hp Ls nz (sp_FGX F b T g p k) FJ kp)) (ht : sp_IT b N T g o p → ∀ z, z = 1 → P (some (.int z)) (hp Ls nz (sp_FTX F b o p) FJ kp)) : sr_Call mX2_readItem (d + 4) [.ref 7, .ref 14] (hp Ls nz F FJ kp) P := by
  have hN := hT.2.2.1
  have idF : sr_u F 7 3 (nI p) = F := sr_u_id hR.2.2
  refine eX2_readItem [] ?_
  refine c2_here hT hR (by omega) (fun c => ?_) (fun c => absurd hpN c)
  refine sr_ite (c := b p = nI 111) (fun c1 => ?_) (fun c1 => ?_)
  · refine c2_readThing hT hR hpN hX.1 hT2 hT6 hX.2.1 hP.1 hX.2.2.1 hP.2.1 (fun c2 z hz => ?_) (fun j c2 c3 c4 z hz => ?_) (fun c2 c3 c4 z hz => ?_)
    · have := hf p (Or.inl ⟨c1, Or.inl ⟨c2, rfl⟩⟩) z hz
      rw [idF] at this
      exact ⟨Or.inl hz, this⟩
    · exact ⟨Or.inl hz, hf _ (Or.inl ⟨c1, Or.inr ⟨c2, c3, j, rfl, c4⟩⟩) z hz⟩
    · exact ⟨Or.inr hz, ht ⟨c1, c2, c3, c4⟩ z hz⟩
  · refine c2_readGuest hO hT hR hpN hX.1 hT2 hT6 hX.2.1 hP.1 hX.2.2.1 hP.2.1 (fun c2 z hz => ?_) (fun k j e1 e2 e3 e4 e5 z hz => ?_) (fun k e1 e2 e3 e4 e5 z hz => ?_)
    · have := hf p (Or.inr ⟨c1, Or.inl ⟨c2, rfl⟩⟩) z hz
      rw [idF] at this
      exact ⟨Or.inl hz, this⟩
    · exact ⟨Or.inl hz, hf _ (Or.inr ⟨c1, Or.inr ⟨k, e1, e2, e3, e4, j, rfl, e5⟩⟩) z hz⟩
    · exact ⟨Or.inr hz, hg k ⟨c1, e1, e2, e3, e4, e5⟩ z hz⟩
theorem c5_readsItem {w : Int32} (hT : sp_TM F t N b) (hR : F 30 17 = nI p) (hw : w = nI t) (hpN : p < N) (hT2 : 2 ≤ T) (hT6 : T ≤ 6) (hP : sp_PD T g o kd lf ft th) (hX : sp_MD F T g o kd lf ft th) (hf : ∀ q, sp_IF b N T g o p q → ∀ F', sp_fM F F' → F' 30 17 = nI q → ∀ z, z = 0 → P (some (.int z)) (hp Ls nz F' FJ kp)) (hg : ∀ k, sp_IG b N T g o p k → ∀ z, z = 1 → P (some (.int z)) (hp Ls nz (sp_FGM F b T g p k) FJ kp)) (ht : sp_IT b N T g o p → ∀ F', sp_fM F F' → F' 30 17 = nI (p + 5) → F' 30 18 = F 30 18 → F' 30 19 = F 30 19 → F' 30 20 = nI (o + 1) → F' 41 = F 41 → (∀ i, i < 4 * o → F' 42 i = F 42 i) → (∀ i, i < 4 → F' 42 (4 * o + i) = nI (sp_cv b (p + 1 + i))) → ∀ z, z = 1 → P (some (.int z)) (hp Ls nz F' FJ kp)) : sr_Call mX5_readsItem (d + 4) [.ref 30, .int w] (hp Ls nz F FJ kp) P := by
  obtain ⟨ht4, hN, hz6, hb6⟩ := id hT
  refine eX5_readsItem [] ?_
  refine sr_ite (c := F 30 19 = 0) (fun q => absurd q (by rw [hX.1]; exact nI_ne0 (by omega) (by omega))) (fun _ => ?_)
  refine c5_byteAt (a := t) (b := p) (k := N) hw ht4 hN hz6 hR (by omega) (fun c => ?_) (fun c => absurd hpN c)
  rw [hb6 p c]
  refine sr_ite (c := b p = nI 111) (fun c1 => ?_) (fun c1 => ?_)
  · refine c5_readsThing hT hR hw hpN hX.1 hT2 hT6 hX.2.1 hP.1 hX.2.2.1 hP.2.1 (fun c2 z hz => ?_) (fun j c2 c3 c4 F' f1 f2 f3 z hz => ?_) (fun c2 c3 c4 F' f1 f2 f3 f4 f5 f6 z hz => ?_)
    · exact ⟨Or.inl hz, hf p (Or.inl ⟨c1, Or.inl ⟨c2, rfl⟩⟩) F (sp_fM.refl _) hR z hz⟩
    · exact ⟨Or.inl hz, hf _ (Or.inl ⟨c1, Or.inr ⟨c2, c3, j, rfl, c4⟩⟩) F' ⟨fun r r1 r2 r3 => f1 r r1 r3, fun k hk => f2 k (by omega)⟩ f3 z hz⟩
    · exact ⟨Or.inr hz, ht ⟨c1, c2, c3, c4⟩ F' ⟨fun r r1 r2 r3 => f1 r r1 r3, fun k hk => f2 k (by omega) (by omega)⟩ f3 (f2 18 (by omega) (by omega)) (f2 19 (by omega) (by omega)) f4 (f1 41 (by omega) (by omega)) f5 f6 z hz⟩
  · refine c5_readsGuest hT hR hw hpN hX.1 hT2 hT6 hX.2.1 hP.1 hX.2.2.1 hP.2.1 (fun c2 z hz => ?_) (fun k j e1 e2 e3 e4 e5 z hz => ?_) (fun k e1 e2 e3 e4 e5 z hz => ?_)
    · exact ⟨Or.inl hz, hf p (Or.inr ⟨c1, Or.inl ⟨c2, rfl⟩⟩) F (sp_fM.refl _) hR z hz⟩
    · exact ⟨Or.inl hz, hf _ (Or.inr ⟨c1, Or.inr ⟨k, e1, e2, e3, e4, j, rfl, e5⟩⟩) _ (sp_fM30 (by omega) (by omega)) (sr_u_same _ _ _ _) z hz⟩
    · exact ⟨Or.inr hz, hg k ⟨c1, e1, e2, e3, e4, e5⟩ z hz⟩
/-- the state behind a guest, behind a thing -/
def sp_a4 (th : Nat → Nat) (o : Nat) (v : Nat → Nat) : Nat → Nat := fun i => if i < 4 * o then th i else v (i - 4 * o)
theorem sp_PD_G {k : Nat} (hT2 : 2 ≤ T) (hT6 : T ≤ 6) (hP : sp_PD T g o kd lf ft th) (h : sp_IG b N T g o p k) : sp_PD T (g + 1) o (sp_ae kd g k) (sp_ae lf g (sp_lf (fun i => sp_cv b (p + 1 + i)) T)) (sp_ae ft g (sp_cv b (p + 1 + T))) th := by
  obtain ⟨d0, d1, d2, d3, d4, d5⟩ := h
  refine ⟨by omega, hP.2.1, fun _ => by omega, fun i hi => ?_, hP.2.2.2.2⟩
  by_cases c : i < g
  · rw [sp_ae_lt c, sp_ae_lt c, sp_ae_lt c]; exact hP.2.2.2.1 i c
  · have : i = g := by omega
    subst this
    rw [sp_ae_D, sp_ae_D, sp_ae_D]
    refine ⟨d1, sp_lf_lt (fun j hj => ?_), ?_⟩
    · have := d5 j (by omega)
      rw [sp_gh, if_pos hj] at this
      exact (sp_fgv (by omega) (by omega) this).2.2
    · have := d5 T (by omega)
      rw [sp_gh, if_neg (by omega)] at this
      have := (sp_fgv (by omega) (by omega) this).2.2
      omega
theorem sp_XD_G {k : Nat} (hX : sp_XD F T g o kd lf ft th) : sp_XD (sp_FGX F b T g p k) T (g + 1) o (sp_ae kd g k) (sp_ae lf g (sp_lf (fun i => sp_cv b (p + 1 + i)) T)) (sp_ae ft g (sp_cv b (p + 1 + T))) th := by
  refine ⟨hX.1, rfl, hX.2.2.1, fun i hi => ?_, hX.2.2.2.2⟩
  show sr_u F 15 g (nI k) 15 i = _ ∧ sr_u F 16 g _ 16 i = _ ∧ sr_u F 17 g _ 17 i = _
  by_cases c : i < g
  · rw [sp_ae_lt c, sp_ae_lt c, sp_ae_lt c, sr_u_ne _ _ (by omega), sr_u_ne _ _ (by omega), sr_u_ne _ _ (by omega)]; exact hX.2.2.2.1 i c
  · have : i = g := by omega
    subst this
    rw [sp_ae_D, sp_ae_D, sp_ae_D, sr_u_same, sr_u_same, sr_u_same]
    exact ⟨rfl, rfl, rfl⟩
theorem sp_MD_G {k : Nat} (hX : sp_MD F T g o kd lf ft th) : sp_MD (sp_FGM F b T g p k) T (g + 1) o (sp_ae kd g k) (sp_ae lf g (sp_lf (fun i => sp_cv b (p + 1 + i)) T)) (sp_ae ft g (sp_cv b (p + 1 + T))) th := by
  refine ⟨hX.1, rfl, hX.2.2.1, fun i hi => ?_, hX.2.2.2.2⟩
  have key : ∀ m, sp_FGM F b T g p k 41 m = if m = 3 * g + 2 then nI (sp_cv b (p + 1 + T)) else if m = 3 * g + 1 then nI (sp_lf (fun i => sp_cv b (p + 1 + i)) T) else if m = 3 * g then nI k else F 41 m := by
    intro m
    show sr_u (sr_u (sr_u F 41 (3 * g) (nI k)) 41 (3 * g + 1) _) 41 (3 * g + 2) _ 41 m = _
    by_cases c2 : m = 3 * g + 2
    · rw [if_pos c2, c2, sr_u_same]
    rw [if_neg c2, sr_u_ne _ _ c2]
    by_cases c1 : m = 3 * g + 1
    · rw [if_pos c1, c1, sr_u_same]
    rw [if_neg c1, sr_u_ne _ _ c1]
    by_cases c0 : m = 3 * g
    · rw [if_pos c0, c0, sr_u_same]
    rw [if_neg c0, sr_u_ne _ _ c0]
  rw [key, key, key]
  by_cases c : i < g
  · rw [sp_ae_lt c, sp_ae_lt c, sp_ae_lt c, if_neg (by omega), if_neg (by omega), if_neg (by omega), if_neg (by omega), if_neg (by omega), if_neg (by omega), if_neg (by omega), if_neg (by omega), if_neg (by omega)]; exact hX.2.2.2.1 i c
  · have : i = g := by omega
    subst this
    rw [sp_ae_D, sp_ae_D, sp_ae_D, if_neg (by omega), if_neg (by omega), if_pos rfl, if_neg (by omega), if_pos rfl, if_pos rfl]
    exact ⟨rfl, rfl, rfl⟩
theorem sp_a4_lt {v : Nat → Nat} {i : Nat} (h : i < 4 * o) : sp_a4 th o v i = th i := if_pos h
theorem sp_a4_at {v : Nat → Nat} (m : Nat) : sp_a4 th o v (4 * o + m) = v m := by
  unfold sp_a4
  rw [if_neg (by omega)]
  congr 1; omega
theorem sp_PD_T (hT2 : 2 ≤ T) (hT6 : T ≤ 6) (hP : sp_PD T g o kd lf ft th) (h : sp_IT b N T g o p) : sp_PD T g (o + 1) kd lf ft (sp_a4 th o (fun i => sp_cv b (p + 1 + i))) := by
  obtain ⟨d0, d1, d2, d3⟩ := h
  refine ⟨hP.1, by omega, fun _ => d1, hP.2.2.2.1, fun i hi => ?_⟩
  by_cases c : i < o
  · rw [sp_a4_lt (by omega), sp_a4_lt (by omega), sp_a4_lt (by omega), sp_a4_lt (by omega)]; exact hP.2.2.2.2 i c
  · have : i = o := by omega
    subst this
    have e0 : sp_a4 th i (fun i => sp_cv b (p + 1 + i)) (4 * i) = sp_cv b (p + 1 + 0) := sp_a4_at 0
    rw [e0, sp_a4_at, sp_a4_at, sp_a4_at]
    have f0 := (sp_fgv (by omega) (by omega) (show sp_fg b N 0 (T - 1) (p + 1 + 0) from d3 0 (by omega))).2.2
    have f1 := (sp_fgv (by omega) (by omega) (show sp_fg b N 0 1 (p + 1 + 1) from d3 1 (by omega))).2.2
    have f2 := (sp_fgv (by omega) (by omega) (show sp_fg b N 0 (T - 1) (p + 1 + 2) from d3 2 (by omega))).2.2
    have f3 := (sp_fgv (by omega) (by omega) (show sp_fg b N 0 1 (p + 1 + 3) from d3 3 (by omega))).2.2
    exact ⟨by omega, by omega, by omega, by omega⟩
theorem sp_XD_T (hX : sp_XD F T g o kd lf ft th) : sp_XD (sp_FTX F b o p) T g (o + 1) kd lf ft (sp_a4 th o (fun i => sp_cv b (p + 1 + i))) := by
  refine ⟨hX.1, hX.2.1, rfl, hX.2.2.2.1, fun i hi => ?_⟩
  show sr_u F 18 o _ 18 i = _ ∧ sr_u F 19 o _ 19 i = _
  by_cases c : i < o
  · rw [sp_a4_lt (by omega), sp_a4_lt (by omega), sp_a4_lt (by omega), sp_a4_lt (by omega), sr_u_ne _ _ (by omega), sr_u_ne _ _ (by omega)]; exact hX.2.2.2.2 i c
  · have : i = o := by omega
    subst this
    have e0 : sp_a4 th i (fun i => sp_cv b (p + 1 + i)) (4 * i) = sp_cv b (p + 1 + 0) := sp_a4_at 0
    rw [e0, sp_a4_at, sp_a4_at, sp_a4_at, sr_u_same, sr_u_same]
    exact ⟨rfl, rfl⟩
theorem sp_fX_G {k : Nat} : sp_fX F (sp_FGX F b T g p k) := by
  intro r h1 h2
  unfold sp_FGX
  rw [sr_u_row _ _ (by omega), sr_u_row _ _ (by omega), sr_u_row _ _ (by omega), sr_u_row _ _ (by omega), sr_u_row _ _ h1]
theorem sp_fX_T : sp_fX F (sp_FTX F b o p) := by
  intro r h1 h2
  unfold sp_FTX
  rw [sr_u_row _ _ (by omega), sr_u_row _ _ (by omega), sr_u_row _ _ (by omega), sr_u_row _ _ h1]
theorem sp_fM_G {k : Nat} : sp_fM F (sp_FGM F b T g p k) := by
  refine ⟨fun r h1 h2 h3 => ?_, fun i hi => ?_⟩
  · unfold sp_FGM
    rw [sr_u_row _ _ h1, sr_u_row _ _ h2, sr_u_row _ _ h2, sr_u_row _ _ h2, sr_u_row _ _ h1]
  · unfold sp_FGM
    rw [sr_u_ne _ _ (by omega), sr_u_row _ _ (by decide), sr_u_row _ _ (by decide), sr_u_row _ _ (by decide), sr_u_ne _ _ (by omega)]
theorem sp_TM_fM {F' : Nat → Nat → Int32} (h : sp_fM F F') (hT : sp_TM F t N b) : sp_TM F' t N b := by
  unfold sp_TM at hT ⊢
  rw [h.1 35 (by omega) (by omega) (by omega), h.1 36 (by omega) (by omega) (by omega)]; exact hT
theorem sp_TX_fX {F' : Nat → Nat → Int32} (h : sp_fX F F') (hT : sp_TX F t N b) : sp_TX F' t N b := by
  unfold sp_TX at hT ⊢
  rw [h 4 (by omega) (by omega), h 5 (by omega) (by omega), h 6 (by omega) (by omega)]; exact hT
theorem sp_RO_fX {F' : Nat → Nat → Int32} (h : sp_fX F F') (hT : sp_RO F) : sp_RO F' := by
  unfold sp_RO at hT ⊢
  rw [h 1000000 (by omega) (by omega), h 1000001 (by omega) (by omega)]; exact hT
end TE
