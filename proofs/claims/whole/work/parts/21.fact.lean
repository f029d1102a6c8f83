/-! facts of guests, the least bit; contracts whose boolean answers have a name -/
def sp_fct (T : Nat) (kd lf tn v : Nat → Nat) (i w : Nat) : Nat := match w with
  | 0 => kd i
  | 1 => tn i
  | 2 => lf i
  | 3 => sp_sec T kd lf tn i
  | 4 => sp_bit (v 0) i
  | 5 => sp_bit (v 1) i
  | 6 => v (2 + i)
  | _ => v (7 + i)
theorem nb_shr32 : ∀ l, l < 256 → ∀ k, k < 32 → (nI l >>> (nI k &&& 31)) &&& nI 1 = nI (sp_bit l k) := by decide +kernel
section FA
variable {Ls nz d T g o : Nat} {kd lf th tn v : Nat → Nat} {FI : Nat → Nat → Int32} {FJ : Nat → Nat → Int64} {kp : Nat → Option Nat} {P : Option Value → sr_H → Prop} {h9 : sr_H}
theorem c4_isGuest' {x : Int32} (hD : sp_HD T g o kd lf th) (hX : sp_XH FI T g o kd lf th) (h1 : ∀ i, i < g → x = nI i → ∀ z, z = 1 → P (some (.int z)) (hp Ls nz FI FJ kp)) (h0 : (∀ i, i < g → x ≠ nI i) → ∀ z, z = 0 → P (some (.int z)) (hp Ls nz FI FJ kp)) : sr_Call mX4_isGuest d [.ref 0, .int x] (hp Ls nz FI FJ kp) P := c4_isGuest hD hX (fun i hi e => h1 i hi e 1 rfl) (fun c => h0 c 0 rfl)
theorem c5_isGuest' {x : Int32} (hD : sp_HD T g o kd lf th) (hX : sp_MH FI T g o kd lf th) (h1 : ∀ i, i < g → x = nI i → ∀ z, z = 1 → P (some (.int z)) (hp Ls nz FI FJ kp)) (h0 : (∀ i, i < g → x ≠ nI i) → ∀ z, z = 0 → P (some (.int z)) (hp Ls nz FI FJ kp)) : sr_Call mX5_isGuest (d + 1) [.ref 30, .int x] (hp Ls nz FI FJ kp) P := c5_isGuest hD hX (fun i hi e => h1 i hi e 1 rfl) (fun c => h0 c 0 rfl)
theorem c5_inN' {x lo hi : Int32} {b : Nat} (hlo : lo = 0) (hhi : hi = nI b - nI 1) (hb : b < 1000) (h1 : ∀ k, k < b → x = nI k → ∀ z, z = 1 → P (some (.int z)) h9) (h0 : (∀ k, k < b → x ≠ nI k) → ∀ z, z = 0 → P (some (.int z)) h9) : sr_Call mX5_in d [.int x, .int lo, .int hi] h9 P := c5_inN hlo hhi hb (fun i hi e => h1 i hi e 1 rfl) (fun c => h0 c 0 rfl)
/-- a number from 0 to b - 1, by two comparisons -/
theorem sp_rng {x : Int32} {b : Nat} (hb : b < 1000) {A : Prop} (h1 : ∀ k, k < b → x = nI k → A) (h0 : (∀ k, k < b → x ≠ nI k) → A) : A := by
  by_cases h : ∃ k, k < b ∧ x = nI k
  · obtain ⟨k, hk, e⟩ := h
    exact h1 k hk e
  · exact h0 (fun k hk e => h ⟨k, hk, e⟩)
theorem sp_rngL {x : Int32} {b : Nat} (hb : b < 1000) (h : ∀ k, k < b → x ≠ nI k) (h0 : ¬ x < 0) (h1 : x < nI b) : False := by
  obtain ⟨k, hk, e⟩ := nI_ltN (by omega) h0 h1
  exact h k hk e
theorem c4_firstBit_loop {l : Nat} (hl : l < 256) (h : P (some (.int (sp_lowI l))) h9) : ∀ (m i : Nat) (x : Int32), i + m = 32 → x = nI i → (∀ j, j < i → sp_bit l j = 0) → sr_Go mX4_firstBit d 2 [some (.int (nI l)), some (.int x)] [] (0, 0) h9 P := by
  intro m
  induction m with
  | zero =>
    intro i x hi hx hz
    refine eX4_firstBit [2] ?_
    refine sr_ite (c := x < nI 32) (fun c => ?_) (fun c => ?_)
    · exfalso; rw [hx] at c; have := (nI_ltI (by omega) (by omega)).mp c; omega
    · have hl0 : l = 0 := by
        rcases Nat.eq_zero_or_pos l with e | e
        · exact e
        · obtain ⟨q1, q2, q3⟩ := nb_low l hl e
          have := hz (sp_low l 8) (by omega)
          omega
      subst hl0
      exact h
  | succ m ih =>
    intro i x hi hx hz
    refine eX4_firstBit [2] ?_
    refine sr_ite (c := x < nI 32) (fun c => ?_) (fun c => ?_)
    · have hb2 : sp_bit l i < 2 := Nat.mod_lt _ (by decide)
      refine sr_ite (c := (nI l >>> (x &&& 31)) &&& nI 1 = nI 1) (fun c1 => ?_) (fun c1 => ?_)
      · rw [hx, nb_shr32 l hl i (by omega)] at c1
        have c1 := nI_inj (by omega) (by omega) c1
        have hl0 : 0 < l := by
          rcases Nat.eq_zero_or_pos l with e | e
          · subst e; simp [sp_bit] at c1
          · exact e
        obtain ⟨q1, q2, q3⟩ := nb_low l hl hl0
        have : i = sp_low l 8 := by
          rcases Nat.lt_trichotomy i (sp_low l 8) with h1 | h1 | h1
          · have := q3 i h1; omega
          · exact h1
          · have := hz _ h1; omega
        unfold sp_lowI at h
        rw [if_neg (by omega), ← this, ← hx] at h
        exact h
      · rw [hx, nb_shr32 l hl i (by omega)] at c1
        have c1 : sp_bit l i = 0 := by
          have : sp_bit l i ≠ 1 := fun e => c1 (by rw [e])
          omega
        refine ih (i + 1) _ (by omega) (by rw [hx]; exact nI_1 i) (fun j hj => ?_)
        by_cases e : j = i
        · rw [e]; exact c1
        · exact hz j (by omega)
    · exfalso; rw [hx] at c; exact c (nI_lt (by omega) (by omega))
theorem c4_firstBit {x : Int32} {l : Nat} (hx : x = nI l) (hl : l < 256) (h : P (some (.int (sp_lowI l))) h9) : sr_Call mX4_firstBit d [.int x] h9 P := by
  subst hx
  refine eX4_firstBit [2] ?_
  exact c4_firstBit_loop hl h 32 0 0 (by omega) rfl (fun j hj => by omega)
theorem c5_lowest_loop {l : Nat} (hl : l < 256) (hl0 : 0 < l) (h : P (some (.int (sp_lowI l))) h9) : ∀ (m i : Nat) (x : Int32), i + m = sp_low l 8 → x = nI i → sr_Go mX5_lowest (d + 1) 2 [some (.int (nI l)), some (.int x)] [] (0, 0) h9 P := by
  obtain ⟨q1, q2, q3⟩ := nb_low l hl hl0
  have hne : ¬ nI l = 0 := nI_ne0 hl0 (by omega)
  intro m
  induction m with
  | zero =>
    intro i x hi hx
    refine eX5_lowest [2] ?_
    refine sr_ite (c := nI l = 0) (fun c => absurd c hne) (fun c => ?_)
    refine c5_holds (l := l) (k := i) rfl hl hx (by omega) (fun c1 => ?_) (fun c1 => ?_)
    · unfold sp_lowI at h
      rw [if_neg (by omega), ← hi, Nat.add_zero, ← hx] at h
      show (if nI l = 0 then _ else _)
      refine sr_ite (c := nI l = 0) (fun c => absurd c hne) (fun c => ?_)
      exact h
    · exfalso
      have : i = sp_low l 8 := by omega
      rw [this] at c1
      omega
  | succ m ih =>
    intro i x hi hx
    refine eX5_lowest [2] ?_
    refine sr_ite (c := nI l = 0) (fun c => absurd c hne) (fun c => ?_)
    refine c5_holds (l := l) (k := i) rfl hl hx (by omega) (fun c1 => ?_) (fun c1 => ?_)
    · exfalso
      have := q3 i (by omega)
      omega
    · exact ih (i + 1) _ (by omega) (by rw [hx]; exact nI_1 i)
theorem c5_lowest {x : Int32} {l : Nat} (hx : x = nI l) (hl : l < 256) (h : P (some (.int (sp_lowI l))) h9) : sr_Call mX5_lowest (d + 1) [.int x] h9 P := by
  subst hx
  rcases Nat.eq_zero_or_pos l with e | e
  · subst e
    refine eX5_lowest [2] ?_
    refine eX5_lowest [2] ?_
    exact h
  · refine eX5_lowest [2] ?_
    exact c5_lowest_loop hl e h (sp_low l 8) 0 0 (by omega) rfl
theorem c4_factOf {i w : Nat} {x y : Int32} (hD : sp_HD T g o kd lf th) (hX : sp_XH FI T g o kd lf th) (hT : sp_XT FI g tn) (hTd : sp_TD T g tn) (hN : sp_XN FI v) (hV : sp_NV v) (hx : x = nI i) (hi : i < g) (hy : y = nI w) (hw : w < 8) (h : P (some (.int (nI (sp_fct T kd lf tn v i w)))) (hp Ls nz FI FJ kp)) : sr_Call mX4_factOf (d + 3) [.ref 0, .int x, .int y] (hp Ls nz FI FJ kp) P := by
  have hg := hD.1
  obtain ⟨e1, e2⟩ := hX.2.2.2.1 i hi
  refine eX4_factOf [] ?_
  have kc : ∀ a : Nat, a < 8 → y = nI a → w = a := fun a ha c => nI_inj (by omega) (by omega) (hy.symm.trans c)
  have kn : ∀ a : Nat, ¬ y = nI a → w ≠ a := fun a c q => c (by rw [hy, q])
  refine sr_ite (c := y = nI 0) (fun c => ?_) (fun c0 => ?_)
  · have c := kc 0 (by omega) c
    subst c
    refine ⟨i, ⟨hx, show i < 5 by omega⟩, ?_⟩
    show P (some (.int (FI 9 i))) _
    rw [e1]; exact h
  refine sr_ite (c := y = nI 1) (fun c => ?_) (fun c1 => ?_)
  · have c := kc 1 (by omega) c
    subst c
    refine ⟨i, ⟨hx, show i < 5 by omega⟩, ?_⟩
    show P (some (.int (FI 21 i))) _
    rw [hT i hi]; exact h
  refine sr_ite (c := y = nI 2) (fun c => ?_) (fun c2 => ?_)
  · have c := kc 2 (by omega) c
    subst c
    refine ⟨i, ⟨hx, show i < 5 by omega⟩, ?_⟩
    show P (some (.int (FI 10 i))) _
    rw [e2]; exact h
  refine sr_ite (c := y = nI 3) (fun c => ?_) (fun c3 => ?_)
  · have c := kc 3 (by omega) c
    subst c
    exact c4_secondLife hD hX hT hTd hx hi h
  refine sr_ite (c := y = nI 4) (fun c => ?_) (fun c4 => ?_)
  · have c := kc 4 (by omega) c
    subst c
    exact c1_roomOf hN hV hx (by omega) h
  refine sr_ite (c := y = nI 5) (fun c => ?_) (fun c5 => ?_)
  · have c := kc 5 (by omega) c
    subst c
    exact c1_lockedOf hN hV hx (by omega) h
  · have c0 := kn 0 c0
    have c1 := kn 1 c1
    have c2 := kn 2 c2
    have c3 := kn 3 c3
    have c4 := kn 4 c4
    have c5 := kn 5 c5
    rcases (show w = 6 ∨ w = 7 by omega) with rfl | rfl
    · exact c1_hoursOf0 hN hx (by omega) (by show y - nI 6 = _; rw [hy, nI_sub (by omega)]) h
    · exact c1_hoursOf1 hN hx (by omega) (by show y - nI 6 = _; rw [hy, nI_sub (by omega)]) h
theorem c5_guestTells {i w : Nat} {x y : Int32} (hD : sp_HD T g o kd lf th) (hX : sp_MH FI T g o kd lf th) (hT : sp_MT FI g tn) (hTd : sp_TD T g tn) (hN : sp_MN FI v) (hV : sp_NV v) (hx : x = nI i) (hi : i < g) (hy : y = nI w) (hw : w < 8) (h : P (some (.int (nI (sp_fct T kd lf tn v i w)))) (hp Ls nz FI FJ kp)) : sr_Call mX5_guestTells (d + 3) [.ref 30, .int x, .int y] (hp Ls nz FI FJ kp) P := by
  have hg := hD.1
  have hv0 := hV.1
  have hv1 := hV.2.1
  obtain ⟨e1, e2⟩ := hX.2.2.2.1 i hi
  refine eX5_guestTells [] ?_
  have kc : ∀ a : Nat, a < 8 → y = nI a → w = a := fun a ha c => nI_inj (by omega) (by omega) (hy.symm.trans c)
  have kn : ∀ a : Nat, ¬ y = nI a → w ≠ a := fun a c q => c (by rw [hy, q])
  refine sr_ite (c := y = nI 0) (fun c => ?_) (fun c0 => ?_)
  · have c := kc 0 (by omega) c
    subst c
    refine ⟨i, ⟨hx, show i < 5 by omega⟩, ?_⟩
    show P (some (.int (FI 37 i))) _
    rw [e1]; exact h
  refine sr_ite (c := y = nI 1) (fun c => ?_) (fun c1 => ?_)
  · have c := kc 1 (by omega) c
    subst c
    refine ⟨i, ⟨hx, show i < 5 by omega⟩, ?_⟩
    show P (some (.int (FI 39 i))) _
    rw [hT i hi]; exact h
  refine sr_ite (c := y = nI 2) (fun c => ?_) (fun c2 => ?_)
  · have c := kc 2 (by omega) c
    subst c
    refine ⟨i, ⟨hx, show i < 5 by omega⟩, ?_⟩
    show P (some (.int (FI 38 i))) _
    rw [e2]; exact h
  refine sr_ite (c := y = nI 3) (fun c => ?_) (fun c3 => ?_)
  · have c := kc 3 (by omega) c
    subst c
    exact c5_second hD hX hT hTd hx hi h
  refine sr_ite (c := y = nI 4) (fun c => ?_) (fun c4 => ?_)
  · have c := kc 4 (by omega) c
    subst c
    refine ⟨0, ⟨rfl, show 0 < 12 by omega⟩, ?_⟩
    show P (some (.int ((FI 43 0 >>> (x &&& 31)) &&& nI 1))) _
    rw [hN 0 (by omega), hx, nb_shr _ (by omega) _ (by omega)]
    exact h
  refine sr_ite (c := y = nI 5) (fun c => ?_) (fun c5 => ?_)
  · have c := kc 5 (by omega) c
    subst c
    refine ⟨1, ⟨rfl, show 1 < 12 by omega⟩, ?_⟩
    show P (some (.int ((FI 43 1 >>> (x &&& 31)) &&& nI 1))) _
    rw [hN 1 (by omega), hx, nb_shr _ (by omega) _ (by omega)]
    exact h
  refine sr_ite (c := y = nI 6) (fun c => ?_) (fun c6 => ?_)
  · have c := kc 6 (by omega) c
    subst c
    refine ⟨2 + i, ⟨show nI 2 + x = _ by rw [hx, nI_add], show 2 + i < 12 by omega⟩, ?_⟩
    show P (some (.int (FI 43 (2 + i)))) _
    rw [hN (2 + i) (by omega)]
    exact h
  · have c0 := kn 0 c0
    have c1 := kn 1 c1
    have c2 := kn 2 c2
    have c3 := kn 3 c3
    have c4 := kn 4 c4
    have c5 := kn 5 c5
    have c6 := kn 6 c6
    have : w = 7 := by omega
    subst this
    refine ⟨7 + i, ⟨show nI 7 + x = _ by rw [hx, nI_add], show 7 + i < 12 by omega⟩, ?_⟩
    show P (some (.int (FI 43 (7 + i)))) _
    rw [hN (7 + i) (by omega)]
    exact h
end FA
