/-! contracts: what the house tells -/
section CH
variable {Ls nz d T g o : Nat} {kd lf th : Nat → Nat} {FI : Nat → Nat → Int32} {FJ : Nat → Nat → Int64} {kp : Nat → Option Nat} {P : Option Value → sr_H → Prop}
theorem c0_lifeCount (hD : sp_HD T g o kd lf th) (hX : sp_XH FI T g o kd lf th) (h : P (some (.int (nI (2 ^ T)))) (hp Ls nz FI FJ kp)) : sr_Call mX0_lifeCount d [.ref 8] (hp Ls nz FI FJ kp) P := by
  refine jX0_lifeCount ?_
  have e : (sr_k 1 <<< (FI 8 0 &&& 31)) = nI (2 ^ T) := by rw [hX.1]; exact nI_shl1 T (by have := hD.2.2.1; omega)
  show P (some (.int (sr_k 1 <<< (FI 8 0 &&& 31)))) _
  rw [e]; exact h
theorem c0_lifeHas {l i : Nat} {x y : Int32} (hD : sp_HD T g o kd lf th) (hX : sp_XH FI T g o kd lf th) (hx : x = nI l) (hl : l < 2 ^ T) (hy : y = nI i) (hi : i < o) (h1 : sp_hs th l i = true → P (some (.int 1)) (hp Ls nz FI FJ kp)) (h0 : sp_hs th l i = false → P (some (.int 0)) (hp Ls nz FI FJ kp)) : sr_Call mX0_lifeHas d [.ref 8, .int x, .int y] (hp Ls nz FI FJ kp) P := by
  obtain ⟨hg, ho, hT, hpos, hgs, hts⟩ := hD
  obtain ⟨X1, X2, X3, X4, X5⟩ := hX
  obtain ⟨t1, t2, t3, t4⟩ := hts i hi
  obtain ⟨e1, e2⟩ := X5 i hi
  have hl64 : l < 64 := Nat.lt_of_lt_of_le hl (sp_pow_le hT)
  have key := nb_hasX _ (Nat.lt_of_lt_of_le t1 hT) _ t2 _ (Nat.lt_of_lt_of_le t3 hT) _ t4 l hl64
  have hb := nb_on _ (Nat.lt_of_lt_of_le t1 hT) _ t2 _ (Nat.lt_of_lt_of_le t3 hT) _ t4
  refine jX0_lifeHas ?_
  refine ⟨i, ⟨hy, show i < 8 by omega⟩, ⟨i, ⟨hy, show i < 8 by omega⟩, ?_⟩⟩
  refine sr_ite (c := x &&& FI 12 i = FI 12 i) (fun c => ?_) (fun c => ?_)
  · rw [hx, e1, nI_and] at c
    have c := nI_inj (by have := @Nat.and_le_left l (sp_on (th (4 * i)) (th (4 * i + 1)) (th (4 * i + 2)) (th (4 * i + 3))); omega) (by omega) c
    refine ⟨i, ⟨hy, show i < 8 by omega⟩, ?_⟩
    refine sr_ite (c := x &&& FI 13 i = 0) (fun c2 => ?_) (fun c2 => ?_)
    · rw [hx, e2, nI_and] at c2
      have c2 := nI_inj (by have := @Nat.and_le_left l (sp_no (th (4 * i)) (th (4 * i + 1)) (th (4 * i + 2)) (th (4 * i + 3))); omega) (by omega) (c2.trans nI_0.symm)
      refine jX0_lifeHas ?_
      exact ⟨Or.inr rfl, h1 (by rw [sp_hs, ← key]; exact ⟨c, c2⟩)⟩
    · refine jX0_lifeHas ?_
      refine ⟨Or.inl rfl, h0 ?_⟩
      cases hh : sp_hs th l i with
      | false => rfl
      | true => exfalso; rw [sp_hs, ← key] at hh; exact c2 (by rw [hx, e2, nI_and, hh.2]; rfl)
  · refine jX0_lifeHas ?_
    refine ⟨Or.inl rfl, h0 ?_⟩
    cases hh : sp_hs th l i with
    | false => rfl
    | true => exfalso; rw [sp_hs, ← key] at hh; exact c (by rw [hx, e1, nI_and, hh.1])
theorem c0_things_loop {l : Nat} (hD : sp_HD T g o kd lf th) (hX : sp_XH FI T g o kd lf th) (hl : l < 2 ^ T) (h : P (some (.int (nI (sp_things th l o)))) (hp Ls nz FI FJ kp)) : ∀ (m i : Nat) (x s : Int32), i + m = o → x = nI i → s = nI (sp_things th l i) → sr_Go mX0_thingsOfLife (d + 1) 4 [some (.ref 8), some (.int (nI l)), some (.int s), some (.int x)] [] (0, 0) (hp Ls nz FI FJ kp) P := by
  have ho := hD.2.1
  intro m
  induction m with
  | zero =>
    intro i x s hi hx hs
    refine jX0_thingsOfLife ?_
    refine sr_ite (c := x < FI 8 2) (fun c => ?_) (fun c => ?_)
    · exfalso; rw [hx, hX.2.2.1] at c; have := (nI_ltI (by omega) (by omega)).mp c; omega
    · refine jX0_thingsOfLife ?_
      have : i = o := by omega
      subst this
      rw [← hs] at h
      exact h
  | succ m ih =>
    intro i x s hi hx hs
    refine jX0_thingsOfLife ?_
    refine sr_ite (c := x < FI 8 2) (fun c => ?_) (fun c => ?_)
    · refine c0_lifeHas (l := l) (i := i) hD hX rfl hl hx (by omega) (fun c1 => ?_) (fun c1 => ?_)
      · refine ih (i + 1) _ _ (by omega) (by rw [hx]; exact nI_1 i) ?_
        show s ||| (sr_k 1 <<< (x &&& 31)) = _
        rw [hs, hx]
        show nI _ ||| (nI 1 <<< (nI i &&& 31)) = _
        rw [nI_shl1 i (by omega), nI_or, sp_or_pow (sp_things_lt th l i)]
        simp [sp_things, c1]
      · refine jX0_thingsOfLife ?_
        refine ih (i + 1) _ _ (by omega) (by rw [hx]; exact nI_1 i) ?_
        rw [hs]
        simp [sp_things, c1]
    · exfalso; rw [hx, hX.2.2.1] at c; exact c (nI_lt (by omega) (by omega))
theorem c0_thingsOfLife {l : Nat} {x : Int32} (hD : sp_HD T g o kd lf th) (hX : sp_XH FI T g o kd lf th) (hx : x = nI l) (hl : l < 2 ^ T) (h : P (some (.int (nI (sp_things th l o)))) (hp Ls nz FI FJ kp)) : sr_Call mX0_thingsOfLife (d + 1) [.ref 8, .int x] (hp Ls nz FI FJ kp) P := by
  subst hx
  refine sX0_thingsOfLife [4] ?_
  exact c0_things_loop hD hX hl h o 0 0 0 (by omega) rfl rfl
end CH
