/-! contracts: what the house tells -/
section CH
variable {Ls nz d T g o : Nat} {kd lf th : Nat → Nat} {FI : Nat → Nat → Int32} {FJ : Nat → Nat → Int64} {kp : Nat → Option Nat} {P : Option Value → sr_H → Prop}
theorem c0_lifeCount (hD : sp_HD T g o kd lf th) (hX : sp_XH FI T g o kd lf th) (h : P (some (.int (nI (2 ^ T)))) (hp Ls nz FI FJ kp)) : sr_Call mX0_lifeCount d [.ref 8] (hp Ls nz FI FJ kp) P := by
  refine jX0_lifeCount ?_
  have e : (sr_k 1 <<< (FI 8 0 &&& 31)) = nI (2 ^ T) := by rw [hX.1]; exact nI_shl1 T (by have := hD.2.2.1; omega)
  show P (some (.int (sr_k 1 <<< (FI 8 0 &&& 31)))) _
  rw [e]; exact h
theorem c0_lifeHas {l i : Nat} {x y : Int32} (hD : sp_HD T g o kd lf th) (hX : sp_XH FI T g o kd lf th) (hx : x = nI l) (hl : l < 2 ^ T) (hy : y = nI i) (hi : i < o) (h1 : sp_hs th l i = true → P (some (.int 1)) (hp Ls nz FI FJ kp)) (h0 : sp_hs th l i = false → P (some (.int 0)) (hp Ls nz FI FJ kp)) : sr_Call mX0_lifeHas d [.ref 8, .int x, .int y] (hp Ls nz FI FJ kp) P := by
  obtain ⟨hg, ho, hT, hpos, hgs, hts⟩ := hD
  obtain ⟨X1, X2, X3, X4, X5⟩ := hX
  obtain ⟨t1, t2, t3, t4⟩ := hts i hi
  obtain ⟨e1, e2⟩ := X5 i hi
  have hl64 : l < 64 := Nat.lt_of_lt_of_le hl (sp_pow_le hT)
  have key := nb_hasX _ (Nat.lt_of_lt_of_le t1 hT) _ t2 _ (Nat.lt_of_lt_of_le t3 hT) _ t4 l hl64
  have hb := nb_on _ (Nat.lt_of_lt_of_le t1 hT) _ t2 _ (Nat.lt_of_lt_of_le t3 hT) _ t4
  refine jX0_lifeHas ?_
  refine ⟨i, ⟨hy, show i < 8 by omega⟩, ⟨i, ⟨hy, show i < 8 by omega⟩, ?_⟩⟩
  refine sr_ite (c := x &&& FI 12 i = FI 12 i) (fun c => ?_) (fun c => ?_)
  · rw [hx, e1, nI_and] at c
    have c := nI_inj (by have := @Nat.and_le_left l (sp_on (th (4 * i)) (th (4 * i + 1)) (th (4 * i + 2)) (th (4 * i + 3))); omega) (by omega) c
    refine ⟨i, ⟨hy, show i < 8 by omega⟩, ?_⟩
    refine sr_ite (c := x &&& FI 13 i = 0) (fun c2 => ?_) (fun c2 => ?_)
    · rw [hx, e2, nI_and] at c2
      have c2 := nI_inj (by have := @Nat.and_le_left l (sp_no (th (4 * i)) (th (4 * i + 1)) (th (4 * i + 2)) (th (4 * i + 3))); omega) (by omega) (c2.trans nI_0.symm)
      refine jX0_lifeHas ?_
      exact ⟨Or.inr rfl, h1 (by rw [sp_hs, ← key]; exact ⟨c, c2⟩)⟩
    · refine jX0_lifeHas ?_
      refine ⟨Or.inl rfl, h0 ?_⟩
      cases hh : sp_hs th l i with
      | false => rfl
      | true => exfalso; rw [sp_hs, ← key] at hh; exact c2 (by rw [hx, e2, nI_and, hh.2]; rfl)
  · refine jX0_lifeHas ?_
    refine ⟨Or.inl rfl, h0 ?_⟩
    cases hh : sp_hs th l i with
    | false => rfl
    | true => exfalso; rw [sp_hs, ← key] at hh; exact c (by rw [hx, e1, nI_and, hh.1])
theorem c0_things_loop {l : Nat} (hD : sp_HD T g o kd lf th) (hX : sp_XH FI T g o kd lf th) (hl : l < 2 ^ T) (h : P (some (.int (nI (sp_things th l o)))) (hp Ls nz FI FJ kp)) : ∀ (m i : Nat) (x s : Int32), i + m = o → x = nI i → s = nI (sp_things th l i) → sr_Go mX0_thingsOfLife (d + 1) 4 [some (.ref 8), some (.int (nI l)), some (.int s), some (.int x)] [] (0, 0) (hp Ls nz FI FJ kp) P := by
  have ho := hD.2.1
  intro m
  induction m with
  | zero =>
    intro i x s hi hx hs
    refine jX0_thingsOfLife ?_
    refine sr_ite (c := x < FI 8 2) (fun c => ?_) (fun c => ?_)
    · exfalso; rw [hx, hX.2.2.1] at c; have := (nI_ltI (by omega) (by omega)).mp c; omega
    · refine jX0_thingsOfLife ?_
      have : i = o := by omega
      subst this
      rw [← hs] at h
      exact h
  | succ m ih =>
    intro i x s hi hx hs
    refine jX0_thingsOfLife ?_
    refine sr_ite (c := x < FI 8 2) (fun c => ?_) (fun c => ?_)
    · refine c0_lifeHas (l := l) (i := i) hD hX rfl hl hx (by omega) (fun c1 => ?_) (fun c1 => ?_)
      · refine ih (i + 1) _ _ (by omega) (by rw [hx]; exact nI_1 i) ?_
        show s ||| (sr_k 1 <<< (x &&& 31)) = _
        rw [hs, hx]
        show nI _ ||| (nI 1 <<< (nI i &&& 31)) = _
        rw [nI_shl1 i (by omega), nI_or, sp_or_pow (sp_things_lt th l i)]
        simp [sp_things, c1]
      · refine jX0_thingsOfLife ?_
        refine ih (i + 1) _ _ (by omega) (by rw [hx]; exact nI_1 i) ?_
        rw [hs]
        simp [sp_things, c1]
    · exfalso; rw [hx, hX.2.2.1] at c; exact c (nI_lt (by omega) (by omega))
theorem c0_thingsOfLife {l : Nat} {x : Int32} (hD : sp_HD T g o kd lf th) (hX : sp_XH FI T g o kd lf th) (hx : x = nI l) (hl : l < 2 ^ T) (h : P (some (.int (nI (sp_things th l o)))) (hp Ls nz FI FJ kp)) : sr_Call mX0_thingsOfLife (d + 1) [.ref 8, .int x] (hp Ls nz FI FJ kp) P := by
  subst hx
  refine sX0_thingsOfLife [4] ?_
  exact c0_things_loop hD hX hl h o 0 0 0 (by omega) rfl rfl
theorem c0_isOfKind {i w : Nat} {x y : Int32} (hD : sp_HD T g o kd lf th) (hX : sp_XH FI T g o kd lf th) (hR : sp_RO FI) (hx : x = nI i) (hi : i < g) (hy : y = nI w) (hw : w < 6) (hw0 : 0 < w) (h1 : sp_isK (kd i) w = true → P (some (.int 1)) (hp Ls nz FI FJ kp)) (h0 : sp_isK (kd i) w = false → P (some (.int 0)) (hp Ls nz FI FJ kp)) : sr_Call mX0_isOfKind d [.ref 8, .int x, .int y] (hp Ls nz FI FJ kp) P := by
  have hg := hD.1
  have hk := (hD.2.2.2.2.1 i hi).1
  have e := (hX.2.2.2.1 i hi).1
  have key := nb_abv _ hk w hw hw0
  refine jX0_isOfKind ?_
  refine ⟨i, ⟨hx, show i < 5 by omega⟩, ?_⟩
  refine sr_ite (c := FI 9 i = y) (fun c => ?_) (fun c => ?_)
  · refine jX0_isOfKind ?_
    refine jX0_isOfKind ?_
    refine ⟨Or.inr rfl, h1 ?_⟩
    rw [← key]
    rw [e, hy] at c
    simp [c]
  · refine ⟨i, ⟨hx, show i < 5 by omega⟩, ⟨kd i, ⟨e, hk⟩, ?_⟩⟩
    refine sr_ite (c := FI 1000001 (kd i) = y) (fun c2 => ?_) (fun c2 => ?_)
    · refine jX0_isOfKind ?_
      refine ⟨Or.inr rfl, h1 ?_⟩
      rw [← key]
      rw [hR.2 _ hk, hy] at c2
      simp [c2]
    · refine jX0_isOfKind ?_
      refine ⟨Or.inl rfl, h0 ?_⟩
      rw [← key]
      rw [e, hy] at c
      rw [hR.2 _ hk, hy] at c2
      simp [c, c2]
theorem c0_soldiers_loop (hD : sp_HD T g o kd lf th) (hX : sp_XH FI T g o kd lf th) (hR : sp_RO FI) (h : P (some (.int (nI (sp_cnt (fun i => sp_isK (kd i) 1) g)))) (hp Ls nz FI FJ kp)) : ∀ (m i : Nat) (x s : Int32), i + m = g → x = nI i → s = nI (sp_cnt (fun i => sp_isK (kd i) 1) i) → sr_Go mX0_soldiers (d + 1) 4 [some (.ref 8), some (.int s), some (.int x)] [] (0, 0) (hp Ls nz FI FJ kp) P := by
  have hg := hD.1
  intro m
  induction m with
  | zero =>
    intro i x s hi hx hs
    refine jX0_soldiers ?_
    refine sr_ite (c := x < FI 8 1) (fun c => ?_) (fun c => ?_)
    · exfalso; rw [hx, hX.2.1] at c; have := (nI_ltI (by omega) (by omega)).mp c; omega
    · refine jX0_soldiers ?_
      have : i = g := by omega
      subst this
      rw [← hs] at h
      exact h
  | succ m ih =>
    intro i x s hi hx hs
    refine jX0_soldiers ?_
    refine sr_ite (c := x < FI 8 1) (fun c => ?_) (fun c => ?_)
    · refine c0_isOfKind (i := i) (w := 1) hD hX hR hx (by omega) rfl (by omega) (by omega) (fun c1 => ?_) (fun c1 => ?_)
      · refine ih (i + 1) _ _ (by omega) (by rw [hx]; exact nI_1 i) ?_
        rw [hs]; simp [sp_cnt, c1]; exact nI_1 _
      · refine jX0_soldiers ?_
        refine ih (i + 1) _ _ (by omega) (by rw [hx]; exact nI_1 i) ?_
        rw [hs]; simp [sp_cnt, c1]
    · exfalso; rw [hx, hX.2.1] at c; exact c (nI_lt (by omega) (by omega))
theorem c0_soldiers (hD : sp_HD T g o kd lf th) (hX : sp_XH FI T g o kd lf th) (hR : sp_RO FI) (h : P (some (.int (nI (sp_cnt (fun i => sp_isK (kd i) 1) g)))) (hp Ls nz FI FJ kp)) : sr_Call mX0_soldiers (d + 1) [.ref 8] (hp Ls nz FI FJ kp) P := by
  refine sX0_soldiers [4] ?_
  exact c0_soldiers_loop hD hX hR h g 0 0 0 (by omega) rfl rfl
theorem c0_lastAsFirst {pl l : Nat} {x y : Int32} (hX : sp_XH FI T g o kd lf th) (hT : T < 7) (hT0 : 0 < T) (hx : x = nI pl) (hpl : pl < 64) (hy : y = nI l) (hl : l < 64) (h : P (some (.int (nI ((pl &&& (63 ^^^ 2 ^ (T - 1))) ||| (if l % 2 = 1 then 2 ^ (T - 1) else 0))))) (hp Ls nz FI FJ kp)) : sr_Call mX0_lastAsFirst d [.ref 8, .int x, .int y] (hp Ls nz FI FJ kp) P := by
  have e1 : (sr_k 1 <<< ((FI 8 0 - sr_k 1) &&& 31)) = nI (2 ^ (T - 1)) := by
    rw [hX.1]
    show (nI 1 <<< ((nI T - nI 1) &&& 31)) = _
    rw [nI_sub (by omega)]
    exact nI_shl1 _ (by omega)
  have key := nb_last (life := l) hT hT0 hpl hl
  refine jX0_lastAsFirst ?_
  refine sr_ite (c := y &&& sr_k 1 = sr_k 1) (fun c => ?_) (fun c => ?_)
  · refine jX0_lastAsFirst ?_
    rw [hy] at c
    have c : l % 2 = 1 := nI_inj (by omega) (by omega) ((nb_and1 l (by omega)).symm.trans c)
    show P (some (.int ((x &&& ((sr_k 1 <<< ((FI 8 0 - sr_k 1) &&& 31)) ^^^ sr_k (-1))) ||| (sr_k 1 <<< ((FI 8 0 - sr_k 1) &&& 31))))) _
    rw [if_pos c, if_pos c] at key
    rw [if_pos c] at h
    rw [e1, hx, key]
    exact h
  · refine jX0_lastAsFirst ?_
    rw [hy] at c
    have c : ¬ l % 2 = 1 := fun e => c ((nb_and1 l (by omega)).trans (by rw [e]; rfl))
    show P (some (.int ((x &&& ((sr_k 1 <<< ((FI 8 0 - sr_k 1) &&& 31)) ^^^ sr_k (-1))) ||| sr_k 0))) _
    rw [if_neg c, if_neg c] at key
    rw [if_neg c] at h
    rw [e1, hx]
    show P (some (.int ((nI pl &&& (nI (2 ^ (T - 1)) ^^^ sr_k (-1))) ||| 0))) _
    rw [key]
    exact h
theorem c0_secondLifeAt {i t : Nat} {x y : Int32} (hD : sp_HD T g o kd lf th) (hX : sp_XH FI T g o kd lf th) (hx : x = nI i) (hi : i < g) (hy : y = nI t) (ht : t < T) (h : P (some (.int (nI (sp_second (kd i) (lf i) T t)))) (hp Ls nz FI FJ kp)) : sr_Call mX0_secondLifeAt (d + 1) [.ref 8, .int x, .int y] (hp Ls nz FI FJ kp) P := by
  have hg := hD.1
  have hT := hD.2.2.1
  obtain ⟨hk, hl⟩ := hD.2.2.2.2.1 i hi
  obtain ⟨e1, e2⟩ := hX.2.2.2.1 i hi
  have hl64 : lf i < 64 := Nat.lt_of_lt_of_le hl (sp_pow_le hT)
  have s1 : (sr_k 1 <<< (y &&& 31)) = nI (2 ^ t) := by rw [hy]; exact nI_shl1 t (by omega)
  have hpl : lf i ^^^ 2 ^ t < 64 := nb_x64 hl64 (nb_pow ht hT)
  have e3 : FI 10 i ^^^ (sr_k 1 <<< (y &&& 31)) = nI (lf i ^^^ 2 ^ t) := by rw [e2, s1, nI_xor]
  refine jX0_secondLifeAt ?_
  refine ⟨i, ⟨hx, show i < 5 by omega⟩, ?_⟩
  refine c0_lifeCount hD hX ?_
  refine ⟨i, ⟨hx, show i < 5 by omega⟩, ?_⟩
  have e4 : nI (2 ^ T) - (sr_k 1 <<< (y &&& 31)) = nI (2 ^ T - 2 ^ t) := by rw [s1, nI_sub (nb_powle (by omega))]
  have kc : ∀ w : Nat, w < 6 → FI 9 i = nI w → kd i = w := fun w hw c => nI_inj (by omega) (by omega) (e1.symm.trans c)
  refine sr_ite (c := FI 9 i = sr_k 1) (fun c => ?_) (fun c => ?_)
  · refine jX0_secondLifeAt ?_
    have c := kc 1 (by omega) c
    show P (some (.int (FI 10 i ^^^ (nI (2 ^ T) - (sr_k 1 <<< (y &&& 31)))))) _
    rw [e4, e2, nI_xor]
    rw [c] at h
    exact h
  refine sr_ite (c := FI 9 i = sr_k 2) (fun c2 => ?_) (fun c2 => ?_)
  · refine jX0_secondLifeAt ?_
    have c := kc 2 (by omega) c2
    show P (some (.int ((FI 10 i ^^^ (sr_k 1 <<< (y &&& 31))) &&& ((sr_k 2 <<< (y &&& 31)) - sr_k 1)))) _
    rw [e3, hy]
    show P (some (.int (nI (lf i ^^^ 2 ^ t) &&& ((nI 2 <<< (nI t &&& 31)) - nI 1)))) _
    rw [nb_shl2 t (by omega), nI_sub Nat.one_le_two_pow, nI_and]
    rw [c] at h
    exact h
  refine sr_ite (c := FI 9 i = sr_k 3) (fun c3 => ?_) (fun c3 => ?_)
  · refine jX0_secondLifeAt ?_
    have c := kc 3 (by omega) c3
    rw [c] at h
    exact c0_lastAsFirst (pl := lf i ^^^ 2 ^ t) (l := lf i) hX (by omega) (by omega) e3 hpl e2 hl64 h
  refine sr_ite (c := FI 9 i = sr_k 4) (fun c4 => ?_) (fun c4 => ?_)
  · refine jX0_secondLifeAt ?_
    have c := kc 4 (by omega) c4
    show P (some (.int (FI 10 i ^^^ ((nI (2 ^ T) - (sr_k 1 <<< (y &&& 31))) ||| sr_k 1)))) _
    rw [e4, e2]
    show P (some (.int (nI (lf i) ^^^ (nI (2 ^ T - 2 ^ t) ||| nI 1)))) _
    rw [nI_or, nI_xor]
    rw [c] at h
    exact h
  refine sr_ite (c := FI 9 i = sr_k 5) (fun c5 => ?_) (fun c5 => ?_)
  · refine jX0_secondLifeAt ?_
    have c := kc 5 (by omega) c5
    refine c0_lastAsFirst (pl := lf i ^^^ 2 ^ t) (l := lf i) hX (by omega) (by omega) e3 hpl e2 hl64 ?_
    have hpr : sp_prst (lf i) T t < 64 := nb_or64 (Nat.lt_of_le_of_lt Nat.and_le_left hpl) (by split; exact nb_pow (t := T - 1) (T := T) (by omega) hT; omega)
    show P (some (.int ((nI (sp_prst (lf i) T t) &&& sr_k (-2)) ||| (FI 10 i &&& sr_k 1)))) _
    rw [e2, nb_m2 _ hpr]
    show P (some (.int (nI (sp_prst (lf i) T t &&& 62) ||| (nI (lf i) &&& nI 1)))) _
    rw [nb_and1 _ (by omega), nI_or]
    rw [c] at h
    exact h
  · refine jX0_secondLifeAt ?_
    show P (some (.int (FI 10 i ^^^ (sr_k 1 <<< (y &&& 31))))) _
    rw [e3]
    have n1 : kd i ≠ 1 := fun q => c (by rw [e1, q]; rfl)
    have n2 : kd i ≠ 2 := fun q => c2 (by rw [e1, q]; rfl)
    have n3 : kd i ≠ 3 := fun q => c3 (by rw [e1, q]; rfl)
    have n4 : kd i ≠ 4 := fun q => c4 (by rw [e1, q]; rfl)
    have n5 : kd i ≠ 5 := fun q => c5 (by rw [e1, q]; rfl)
    simp only [sp_second, n1, n2, n3, n4, n5, if_false] at h
    exact h
end CH
