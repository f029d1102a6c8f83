/-! contracts: small methods of the reference -/
theorem nI_predN {x : Int32} {b : Nat} (hb : b < 1000) (h0 : ¬ x < 0) (h : ¬ nI b - nI 1 < x) : ∃ n, n < b ∧ x = nI n := by
  obtain ⟨n, hn, rfl⟩ := nI_all h0
  refine ⟨n, ?_, rfl⟩
  by_cases h9 : n < b
  · exact h9
  · exfalso
    refine h ?_
    by_cases hb0 : b = 0
    · subst hb0
      show nI 0 - nI 1 < nI n
      rw [Int32.lt_iff_toInt_lt, nI_toInt (by omega)]
      have : (nI 0 - nI 1).toInt = -1 := by decide +kernel
      omega
    · rw [nI_sub (by omega)]
      exact nI_lt (by omega) (by omega)
theorem nI_predL {n b : Nat} (hb : b < 1000) (hn : n < b) : ¬ nI b - nI 1 < nI n := by
  rw [nI_sub (by omega)]
  exact nI_nlt (by omega) (by omega)
theorem nb_beh : ∀ T, T < 7 → ∀ t, t < T → (nI (2 ^ T) - nI 1) &&& ((nI (2 ^ t) - nI 1) ^^^ sr_k (-1)) = nI (2 ^ T - 2 ^ t) := by decide +kernel
theorem nb_wc1 : ∀ l, l < 64 → ∀ k, k < 6 → (l &&& (63 ^^^ 2 ^ k)) ||| 2 ^ k = l ||| 2 ^ k := by decide +kernel
theorem nb_wc0 : ∀ l, l < 64 → (l &&& 62) ||| 1 = l ||| 1 := by decide +kernel
theorem nb_wm : ∀ l, l < 64 → (nI l &&& (nI 1 ^^^ sr_k (-1))) = nI (l &&& 62) := by decide +kernel
theorem nb_z32 : ∀ i, i < 32 → (nI 0 >>> (nI i &&& 31)) &&& nI 1 = nI 0 := by decide +kernel
theorem nb_low : ∀ l, l < 256 → 0 < l → sp_low l 8 < 8 ∧ sp_bit l (sp_low l 8) = 1 ∧ ∀ i, i < sp_low l 8 → sp_bit l i = 0 := by decide +kernel
section CM
variable {Ls nz d T g o : Nat} {kd lf th tn v : Nat → Nat} {FI : Nat → Nat → Int32} {FJ : Nat → Nat → Int64} {kp : Nat → Option Nat} {P : Option Value → sr_H → Prop} {h9 : sr_H}
theorem c5_in {x lo hi : Int32} (h1 : ¬ x < lo → ¬ hi < x → P (some (.int 1)) h9) (h0 : (x < lo ∨ hi < x) → P (some (.int 0)) h9) : sr_Call mX5_in d [.int x, .int lo, .int hi] h9 P := by
  refine eX5_in [] ?_
  refine sr_ite (c := x < lo) (fun c => ?_) (fun c => ?_)
  · exact ⟨Or.inl rfl, h0 (Or.inl c)⟩
  · refine sr_ite (c := hi < x) (fun c2 => ?_) (fun c2 => ?_)
    · exact ⟨Or.inl rfl, h0 (Or.inr c2)⟩
    · exact ⟨Or.inr rfl, h1 c c2⟩
theorem c5_isRow {x : Int32} (h1 : ∀ k, k < 6 → x = nI k → P (some (.int 1)) h9) (h0 : (∀ k, k < 6 → x ≠ nI k) → P (some (.int 0)) h9) : sr_Call mX5_isRow (d + 1) [.int x] h9 P := by
  refine eX5_isRow [] ?_
  refine c5_in (fun c c2 => ?_) (fun c => ?_)
  · obtain ⟨n, hn, e⟩ := nI_leN (b := 5) (by decide) c c2
    exact ⟨Or.inr rfl, h1 n (by omega) e⟩
  · refine ⟨Or.inl rfl, h0 (fun k hk e => ?_)⟩
    subst e
    rcases c with c | c
    · exact nI_pos (by omega) c
    · exact nI_nlt (a := 5) (b := k) (by omega) (by omega) c
theorem c5_isText {x : Int32} (h1 : ∀ k, k < 4 → x = nI k → P (some (.int 1)) h9) (h0 : (∀ k, k < 4 → x ≠ nI k) → P (some (.int 0)) h9) : sr_Call mX5_isText (d + 1) [.int x] h9 P := by
  refine eX5_isText [] ?_
  refine c5_in (fun c c2 => ?_) (fun c => ?_)
  · obtain ⟨n, hn, e⟩ := nI_leN (b := 3) (by decide) c c2
    exact ⟨Or.inr rfl, h1 n (by omega) e⟩
  · refine ⟨Or.inl rfl, h0 (fun k hk e => ?_)⟩
    subst e
    rcases c with c | c
    · exact nI_pos (by omega) c
    · exact nI_nlt (a := 3) (b := k) (by omega) (by omega) c
theorem c5_inN {x lo hi : Int32} {b : Nat} (hlo : lo = 0) (hhi : hi = nI b - nI 1) (hb : b < 1000) (h1 : ∀ k, k < b → x = nI k → P (some (.int 1)) h9) (h0 : (∀ k, k < b → x ≠ nI k) → P (some (.int 0)) h9) : sr_Call mX5_in d [.int x, .int lo, .int hi] h9 P := by
  subst hlo; subst hhi
  refine c5_in (fun c c2 => ?_) (fun c => ?_)
  · obtain ⟨n, hn, e⟩ := nI_predN hb c c2
    exact h1 n hn e
  · refine h0 (fun k hk e => ?_)
    subst e
    rcases c with c | c
    · exact nI_pos (by omega) c
    · exact nI_predL hb hk c
theorem c5_isGuest {x : Int32} (hD : sp_HD T g o kd lf th) (hX : sp_MH FI T g o kd lf th) (h1 : ∀ i, i < g → x = nI i → P (some (.int 1)) (hp Ls nz FI FJ kp)) (h0 : (∀ i, i < g → x ≠ nI i) → P (some (.int 0)) (hp Ls nz FI FJ kp)) : sr_Call mX5_isGuest (d + 1) [.ref 30, .int x] (hp Ls nz FI FJ kp) P := by
  have hg := hD.1
  refine eX5_isGuest [] ?_
  refine c5_inN (b := g) rfl (show FI 30 10 - nI 1 = _ by rw [hX.2.1]) (by omega) (fun k hk e => ?_) (fun c => ?_)
  · exact ⟨Or.inr rfl, h1 k hk e⟩
  · exact ⟨Or.inl rfl, h0 c⟩
theorem c5_isThing {x : Int32} (hD : sp_HD T g o kd lf th) (hX : sp_MH FI T g o kd lf th) (h1 : ∀ i, i < o → x = nI i → P (some (.int 1)) (hp Ls nz FI FJ kp)) (h0 : (∀ i, i < o → x ≠ nI i) → P (some (.int 0)) (hp Ls nz FI FJ kp)) : sr_Call mX5_isThing (d + 1) [.ref 30, .int x] (hp Ls nz FI FJ kp) P := by
  have ho := hD.2.1
  refine eX5_isThing [] ?_
  refine c5_inN (b := o) rfl (show FI 30 12 - nI 1 = _ by rw [hX.2.2.1]) (by omega) (fun k hk e => ?_) (fun c => ?_)
  · exact ⟨Or.inr rfl, h1 k hk e⟩
  · exact ⟨Or.inl rfl, h0 c⟩
theorem c5_isThings {x : Int32} (hD : sp_HD T g o kd lf th) (hX : sp_MH FI T g o kd lf th) (h1 : ∀ i, i < 2 ^ o → x = nI i → P (some (.int 1)) (hp Ls nz FI FJ kp)) (h0 : (∀ i, i < 2 ^ o → x ≠ nI i) → P (some (.int 0)) (hp Ls nz FI FJ kp)) : sr_Call mX5_isThings (d + 1) [.ref 30, .int x] (hp Ls nz FI FJ kp) P := by
  have ho := hD.2.1
  have hp8 : 2 ^ o ≤ 256 := nb_powle (T := 8) (by omega)
  refine eX5_isThings [] ?_
  refine c5_inN (b := 2 ^ o) rfl (show (nI 1 <<< (FI 30 12 &&& 31)) - nI 1 = _ by rw [hX.2.2.1, nI_shl1 o (by omega)]) (by omega) (fun k hk e => ?_) (fun c => ?_)
  · exact ⟨Or.inr rfl, h1 k hk e⟩
  · exact ⟨Or.inl rfl, h0 c⟩
theorem c5_meets {x : Int32} {a : Nat} (hx : x = nI a) (ha : a < 6) (h : P (some (.int (sr_k (-3)))) (hp Ls nz (sr_u (sr_u FI 30 0 x) 31 a (FI 31 a + 1)) FJ kp)) : sr_Call mX5_meets d [.ref 30, .int x] (hp Ls nz FI FJ kp) P := by
  refine eX5_meets [] ?_
  exact ⟨a, ⟨hx, ha⟩, ⟨a, ⟨hx, ha⟩, h⟩⟩
theorem c5_tells {x y : Int32} (h : P (some (.int y)) (hp Ls nz (sr_u FI 30 2 x) FJ kp)) : sr_Call mX5_tells d [.ref 30, .int x, .int y] (hp Ls nz FI FJ kp) P := eX5_tells [] h
theorem c5_holds {x y : Int32} {l k : Nat} (hx : x = nI l) (hl : l < 256) (hy : y = nI k) (hk : k < 9) (h1 : sp_bit l k = 1 → P (some (.int 1)) h9) (h0 : sp_bit l k = 0 → P (some (.int 0)) h9) : sr_Call mX5_holds d [.int x, .int y] h9 P := by
  have hb : sp_bit l k < 2 := Nat.mod_lt _ (by decide)
  refine eX5_holds [] ?_
  refine sr_ite (c := (x >>> (y &&& 31)) &&& nI 1 = nI 1) (fun c => ?_) (fun c => ?_)
  · rw [hx, hy, nb_shr l hl k hk] at c
    exact ⟨Or.inr rfl, h1 (nI_inj (by omega) (by omega) c)⟩
  · rw [hx, hy, nb_shr l hl k hk] at c
    refine ⟨Or.inl rfl, h0 ?_⟩
    have : sp_bit l k ≠ 1 := fun e => c (by rw [e])
    omega
theorem c5_bits_loop {l0 : Nat} {x0 : Int32} (h : P (some (.int (nI (sp_pop l0)))) h9) : ∀ (m l : Nat) (x s : Int32), l < m → l < 256 → x = nI l → (∃ c, s = nI c ∧ c + sp_pop l = sp_pop l0) → sr_Go mX5_bits d 4 [some (.int x0), some (.int s), some (.int x)] [] (0, 0) h9 P := by
  intro m
  induction m with
  | zero => intro l x s h1; omega
  | succ m ih =>
    intro l x s hm hl hx hs
    obtain ⟨c, hs, hc⟩ := hs
    refine eX5_bits [4] ?_
    refine sr_ite (c := x = 0) (fun c1 => ?_) (fun c1 => ?_)
    · have : l = 0 := nI_inj (by omega) (by omega) (hx.symm.trans c1)
      subst this
      have : c = sp_pop l0 := by have : sp_pop 0 = 0 := rfl; omega
      subst this
      rw [← hs] at h
      exact h
    · have hl0 : 0 < l := by
        rcases Nat.eq_zero_or_pos l with e | e
        · exfalso; subst e; exact c1 hx
        · exact e
      obtain ⟨k1, k2⟩ := nb_kern l hl hl0
      refine ih (l &&& (l - 1)) _ _ (by omega) (by omega) ?_ ⟨c + 1, by rw [hs]; exact nI_1 c, by omega⟩
      show x &&& (x - nI 1) = _
      rw [hx, nI_sub (by omega), nI_and]
theorem c5_bits {x : Int32} {l : Nat} (hx : x = nI l) (hl : l < 256) (h : P (some (.int (nI (sp_pop l)))) h9) : sr_Call mX5_bits d [.int x] h9 P := by
  refine eX5_bits [4] ?_
  exact c5_bits_loop h (l + 1) l _ _ (by omega) hl hx ⟨0, rfl, by omega⟩
theorem c5_allLives (hD : sp_HD T g o kd lf th) (hX : sp_MH FI T g o kd lf th) (h : P (some (.int (nI (2 ^ T)))) (hp Ls nz FI FJ kp)) : sr_Call mX5_allLives d [.ref 30] (hp Ls nz FI FJ kp) P := by
  refine eX5_allLives [] ?_
  show P (some (.int (nI 1 <<< (FI 30 11 &&& 31)))) _
  rw [hX.1, nI_shl1 T (by have := hD.2.2.1; omega)]
  exact h
theorem c5_withChoice {x y z : Int32} {l k c : Nat} (hx : x = nI l) (hl : l < 64) (hy : y = nI k) (hk : k < 6) (hz : z = nI c) (hc : c < 2) (h : P (some (.int (nI ((l &&& (63 ^^^ 2 ^ k)) ||| (if c = 1 then 2 ^ k else 0))))) h9) : sr_Call mX5_withChoice d [.int x, .int y, .int z] h9 P := by
  have e1 : (nI 1 <<< (y &&& 31)) = nI (2 ^ k) := by rw [hy]; exact nI_shl1 k (by omega)
  refine eX5_withChoice [] ?_
  refine sr_ite (c := z = nI 1) (fun c1 => ?_) (fun c1 => ?_)
  · have c1 : c = 1 := nI_inj (by omega) (by omega) (hz.symm.trans c1)
    show P (some (.int (x ||| (nI 1 <<< (y &&& 31))))) _
    rw [if_pos c1, nb_wc1 l hl k hk] at h
    rw [e1, hx, nI_or]
    exact h
  · have c1 : ¬ c = 1 := fun e => c1 (by rw [hz, e])
    show P (some (.int (x &&& ((nI 1 <<< (y &&& 31)) ^^^ sr_k (-1))))) _
    rw [if_neg c1, Nat.or_zero] at h
    rw [e1, hx, nb_msk l hl k (by omega)]
    exact h
theorem c5_secondBy {i t : Nat} {x y : Int32} (hD : sp_HD T g o kd lf th) (hX : sp_MH FI T g o kd lf th) (hx : x = nI i) (hi : i < g) (hy : y = nI t) (ht : t < T) (h : P (some (.int (nI (sp_second (kd i) (lf i) T t)))) (hp Ls nz FI FJ kp)) : sr_Call mX5_secondBy (d + 1) [.ref 30, .int x, .int y] (hp Ls nz FI FJ kp) P := by
  have hg := hD.1
  have hT := hD.2.2.1
  obtain ⟨hk, hl⟩ := hD.2.2.2.2.1 i hi
  obtain ⟨e1, e2⟩ := hX.2.2.2.1 i hi
  have hl64 : lf i < 64 := Nat.lt_of_lt_of_le hl (sp_pow_le hT)
  have s1 : (nI 1 <<< (y &&& 31)) = nI (2 ^ t) := by rw [hy]; exact nI_shl1 t (by omega)
  have hpl : lf i ^^^ 2 ^ t < 64 := nb_x64 hl64 (nb_pow ht hT)
  have e3 : FI 38 i ^^^ (nI 1 <<< (y &&& 31)) = nI (lf i ^^^ 2 ^ t) := by rw [e2, s1, nI_xor]
  have hpr : sp_prst (lf i) T t < 64 := nb_or64 (Nat.lt_of_le_of_lt Nat.and_le_left hpl) (by split; exact nb_pow (t := T - 1) (T := T) (by omega) hT; omega)
  refine eX5_secondBy [] ?_
  refine ⟨i, ⟨hx, show i < 5 by omega⟩, ?_⟩
  refine c5_allLives hD hX ?_
  refine c5_withChoice (l := lf i ^^^ 2 ^ t) (k := T - 1) (c := lf i % 2) e3 hpl (show FI 30 11 - nI 1 = _ by rw [hX.1, nI_sub (by omega)]) (by omega) (show FI 38 i &&& nI 1 = _ by rw [e2, nb_and1 _ (by omega)]) (by omega) ?_
  refine ⟨i, ⟨hx, show i < 5 by omega⟩, ?_⟩
  have e4 : (nI (2 ^ T) - nI 1) &&& (((nI 1 <<< (y &&& 31)) - nI 1) ^^^ sr_k (-1)) = nI (2 ^ T - 2 ^ t) := by rw [s1, nb_beh T (by omega) t ht]
  have kc : ∀ w : Nat, w < 6 → FI 37 i = nI w → kd i = w := fun w hw c => nI_inj (by omega) (by omega) (e1.symm.trans c)
  refine sr_ite (c := FI 37 i = nI 1) (fun c => ?_) (fun c => ?_)
  · have c := kc 1 (by omega) c
    show P (some (.int (FI 38 i ^^^ ((nI (2 ^ T) - nI 1) &&& (((nI 1 <<< (y &&& 31)) - nI 1) ^^^ sr_k (-1)))))) _
    rw [e4, e2, nI_xor]
    rw [c] at h
    exact h
  refine sr_ite (c := FI 37 i = nI 2) (fun c2 => ?_) (fun c2 => ?_)
  · have c := kc 2 (by omega) c2
    show P (some (.int ((FI 38 i ^^^ (nI 1 <<< (y &&& 31))) &&& ((nI 1 <<< ((y + nI 1) &&& 31)) - nI 1)))) _
    rw [e3, hy, nI_add, nI_shl1 (t + 1) (by omega), nI_sub Nat.one_le_two_pow, nI_and]
    rw [c] at h
    exact h
  refine sr_ite (c := FI 37 i = nI 3) (fun c3 => ?_) (fun c3 => ?_)
  · have c := kc 3 (by omega) c3
    rw [c] at h
    exact h
  refine sr_ite (c := FI 37 i = nI 4) (fun c4 => ?_) (fun c4 => ?_)
  · have c := kc 4 (by omega) c4
    show P (some (.int (FI 38 i ^^^ (((nI (2 ^ T) - nI 1) &&& (((nI 1 <<< (y &&& 31)) - nI 1) ^^^ sr_k (-1))) ||| nI 1)))) _
    rw [e4, e2, nI_or, nI_xor]
    rw [c] at h
    exact h
  refine sr_ite (c := FI 37 i = nI 5) (fun c5 => ?_) (fun c5 => ?_)
  · have c := kc 5 (by omega) c5
    refine c5_withChoice (l := sp_prst (lf i) T t) (k := 0) (c := lf i % 2) rfl hpr rfl (by omega) (show FI 38 i &&& nI 1 = _ by rw [e2, nb_and1 _ (by omega)]) (by omega) ?_
    rw [c] at h
    have e9 : (if lf i % 2 = 1 then 2 ^ 0 else 0) = lf i % 2 := by split <;> omega
    show P (some (.int (nI ((sp_prst (lf i) T t &&& 62) ||| (if lf i % 2 = 1 then 2 ^ 0 else 0))))) _
    rw [e9]
    exact h
  · show P (some (.int (FI 38 i ^^^ (nI 1 <<< (y &&& 31))))) _
    rw [e3]
    have n1 : kd i ≠ 1 := fun q => c (by rw [e1, q])
    have n2 : kd i ≠ 2 := fun q => c2 (by rw [e1, q])
    have n3 : kd i ≠ 3 := fun q => c3 (by rw [e1, q])
    have n4 : kd i ≠ 4 := fun q => c4 (by rw [e1, q])
    have n5 : kd i ≠ 5 := fun q => c5 (by rw [e1, q])
    simp only [sp_second, n1, n2, n3, n4, n5, if_false] at h
    exact h
theorem c5_second {i : Nat} {x : Int32} (hD : sp_HD T g o kd lf th) (hX : sp_MH FI T g o kd lf th) (hT : sp_MT FI g tn) (hTd : sp_TD T g tn) (hx : x = nI i) (hi : i < g) (h : P (some (.int (nI (sp_sec T kd lf tn i)))) (hp Ls nz FI FJ kp)) : sr_Call mX5_second (d + 2) [.ref 30, .int x] (hp Ls nz FI FJ kp) P := by
  have hg := hD.1
  refine eX5_second [] ?_
  refine ⟨i, ⟨hx, show i < 5 by omega⟩, ?_⟩
  exact c5_secondBy (i := i) (t := tn i) hD hX hx hi (hT i hi) (hTd i hi) h
theorem c5_isHad {l i : Nat} {x y : Int32} (hD : sp_HD T g o kd lf th) (hX : sp_MH FI T g o kd lf th) (hx : x = nI l) (hl : l < 2 ^ T) (hy : y = nI i) (hi : i < o) (h1 : sp_hs th l i = true → P (some (.int 1)) (hp Ls nz FI FJ kp)) (h0 : sp_hs th l i = false → P (some (.int 0)) (hp Ls nz FI FJ kp)) : sr_Call mX5_isHad d [.ref 30, .int x, .int y] (hp Ls nz FI FJ kp) P := by
  obtain ⟨hg, ho, hT, hpos, hgs, hts⟩ := hD
  obtain ⟨X1, X2, X3, X4, X5⟩ := hX
  obtain ⟨t1, t2, t3, t4⟩ := hts i hi
  have hl64 : l < 64 := Nat.lt_of_lt_of_le hl (sp_pow_le hT)
  have hb1 : sp_bit l (th (4 * i)) < 2 := Nat.mod_lt _ (by decide)
  have hb2 : sp_bit l (th (4 * i + 2)) < 2 := Nat.mod_lt _ (by decide)
  refine eX5_isHad [] ?_
  refine ⟨4 * i, ⟨show nI 4 * y = _ by rw [hy, nI_mul], show 4 * i < 32 by omega⟩, ⟨4 * i + 1, ⟨show nI 4 * y + nI 1 = _ by rw [hy, nI_mul, nI_add], show 4 * i + 1 < 32 by omega⟩, ?_⟩⟩
  refine sr_ite (c := (x >>> (FI 40 (4 * i) &&& 31)) &&& nI 1 = FI 40 (4 * i + 1)) (fun c => ?_) (fun c => ?_)
  · rw [hx, X5 _ (by omega), X5 _ (by omega), nb_shr l (by omega) _ (by omega)] at c
    have c := nI_inj (by omega) (by omega) c
    refine ⟨4 * i + 2, ⟨show nI 4 * y + nI 2 = _ by rw [hy, nI_mul, nI_add], show 4 * i + 2 < 32 by omega⟩, ⟨4 * i + 3, ⟨show nI 4 * y + nI 3 = _ by rw [hy, nI_mul, nI_add], show 4 * i + 3 < 32 by omega⟩, ?_⟩⟩
    refine sr_ite (c := (x >>> (FI 40 (4 * i + 2) &&& 31)) &&& nI 1 = FI 40 (4 * i + 3)) (fun c2 => ?_) (fun c2 => ?_)
    · rw [hx, X5 _ (by omega), X5 _ (by omega), nb_shr l (by omega) _ (by omega)] at c2
      have c2 := nI_inj (by omega) (by omega) c2
      exact ⟨Or.inr rfl, h1 (by simp [sp_hs, sp_has, c, c2])⟩
    · rw [hx, X5 _ (by omega), X5 _ (by omega), nb_shr l (by omega) _ (by omega)] at c2
      refine ⟨Or.inl rfl, h0 ?_⟩
      have c2 : sp_bit l (th (4 * i + 2)) ≠ th (4 * i + 3) := fun e => c2 (by rw [e])
      simp [sp_hs, sp_has, c2]
  · rw [hx, X5 _ (by omega), X5 _ (by omega), nb_shr l (by omega) _ (by omega)] at c
    refine ⟨Or.inl rfl, h0 ?_⟩
    have c : sp_bit l (th (4 * i)) ≠ th (4 * i + 1) := fun e => c (by rw [e])
    simp [sp_hs, sp_has, c]
theorem c5_things_loop {l : Nat} (hD : sp_HD T g o kd lf th) (hX : sp_MH FI T g o kd lf th) (hl : l < 2 ^ T) (h : P (some (.int (nI (sp_things th l o)))) (hp Ls nz FI FJ kp)) : ∀ (m i : Nat) (x s : Int32), i + m = o → x = nI i → s = nI (sp_things th l i) → sr_Go mX5_thingsOf (d + 1) 4 [some (.ref 30), some (.int (nI l)), some (.int s), some (.int x)] [] (0, 0) (hp Ls nz FI FJ kp) P := by
  have ho := hD.2.1
  intro m
  induction m with
  | zero =>
    intro i x s hi hx hs
    refine eX5_thingsOf [4] ?_
    refine sr_ite (c := x < FI 30 12) (fun c => ?_) (fun c => ?_)
    · exfalso; rw [hx, hX.2.2.1] at c; have := (nI_ltI (by omega) (by omega)).mp c; omega
    · have : i = o := by omega
      subst this
      rw [← hs] at h
      exact h
  | succ m ih =>
    intro i x s hi hx hs
    refine eX5_thingsOf [4] ?_
    refine sr_ite (c := x < FI 30 12) (fun c => ?_) (fun c => ?_)
    · refine c5_isHad (l := l) (i := i) hD hX rfl hl hx (by omega) (fun c1 => ?_) (fun c1 => ?_)
      · refine ih (i + 1) _ _ (by omega) (by rw [hx]; exact nI_1 i) ?_
        show s ||| (nI 1 <<< (x &&& 31)) = _
        rw [hs, hx, nI_shl1 i (by omega), nI_or, sp_or_pow (sp_things_lt th l i)]
        simp [sp_things, c1]
      · refine ih (i + 1) _ _ (by omega) (by rw [hx]; exact nI_1 i) ?_
        show s ||| nI 0 = _
        rw [hs, nI_or]
        simp [sp_things, c1]
    · exfalso; rw [hx, hX.2.2.1] at c; exact c (nI_lt (by omega) (by omega))
theorem c5_thingsOf {l : Nat} {x : Int32} (hD : sp_HD T g o kd lf th) (hX : sp_MH FI T g o kd lf th) (hx : x = nI l) (hl : l < 2 ^ T) (h : P (some (.int (nI (sp_things th l o)))) (hp Ls nz FI FJ kp)) : sr_Call mX5_thingsOf (d + 1) [.ref 30, .int x] (hp Ls nz FI FJ kp) P := by
  subst hx
  refine eX5_thingsOf [4] ?_
  exact c5_things_loop hD hX hl h o 0 0 0 (by omega) rfl rfl
theorem c5_roomOf0 {i : Nat} {x y : Int32} (hD : sp_HD T g o kd lf th) (hX : sp_MH FI T g o kd lf th) (hx : x = nI i) (hi : i < g) (hy : y = 0) (h : P (some (.int (nI (sp_things th (lf i) o)))) (hp Ls nz FI FJ kp)) : sr_Call mX5_roomOf (d + 3) [.ref 30, .int x, .int y] (hp Ls nz FI FJ kp) P := by
  have hg := hD.1
  subst hy
  refine eX5_roomOf [] ?_
  refine ⟨i, ⟨hx, show i < 5 by omega⟩, ?_⟩
  exact c5_thingsOf (l := lf i) hD hX (hX.2.2.2.1 i hi).2 (hD.2.2.2.2.1 i hi).2 h
theorem c5_roomOf1 {i : Nat} {x y : Int32} (hD : sp_HD T g o kd lf th) (hX : sp_MH FI T g o kd lf th) (hT : sp_MT FI g tn) (hTd : sp_TD T g tn) (hx : x = nI i) (hi : i < g) (hy : y = nI 1) (h : P (some (.int (nI (sp_things th (sp_sec T kd lf tn i) o)))) (hp Ls nz FI FJ kp)) : sr_Call mX5_roomOf (d + 3) [.ref 30, .int x, .int y] (hp Ls nz FI FJ kp) P := by
  subst hy
  refine eX5_roomOf [] ?_
  refine c5_second (i := i) hD hX hT hTd hx hi ?_
  exact c5_thingsOf (l := sp_sec T kd lf tn i) hD hX rfl (sp_sec_lt hD hTd hi) h
theorem c5_isSecond {i j : Nat} {x y : Int32} (hD : sp_HD T g o kd lf th) (hX : sp_MH FI T g o kd lf th) (hT : sp_MT FI g tn) (hTd : sp_TD T g tn) (hx : x = nI i) (hi : i < g) (hy : y = nI j) (hj : j < g) (h1 : i ≠ j → lf i = sp_sec T kd lf tn j → P (some (.int 1)) (hp Ls nz FI FJ kp)) (h0 : (i = j ∨ lf i ≠ sp_sec T kd lf tn j) → P (some (.int 0)) (hp Ls nz FI FJ kp)) : sr_Call mX5_isSecond (d + 3) [.ref 30, .int x, .int y] (hp Ls nz FI FJ kp) P := by
  have hg := hD.1
  have hp6 := sp_pow_le hD.2.2.1
  have hl := (hD.2.2.2.2.1 i hi).2
  have hs := sp_sec_lt hD hTd hj
  refine eX5_isSecond [] ?_
  refine sr_ite (c := x = y) (fun c0 => ?_) (fun c0 => ?_)
  · rw [hx, hy] at c0
    exact ⟨Or.inl rfl, h0 (Or.inl (nI_inj (by omega) (by omega) c0))⟩
  have c0 : i ≠ j := fun e => c0 (by rw [hx, hy, e])
  refine ⟨i, ⟨hx, show i < 5 by omega⟩, ?_⟩
  refine c5_second (i := j) hD hX hT hTd hy hj ?_
  have e := (hX.2.2.2.1 i hi).2
  refine sr_ite (c := FI 38 i = nI (sp_sec T kd lf tn j)) (fun c => ?_) (fun c => ?_)
  · exact ⟨Or.inr rfl, h1 c0 (nI_inj (by omega) (by omega) (e.symm.trans c))⟩
  · exact ⟨Or.inl rfl, h0 (Or.inr (fun q => c (by rw [e, q])))⟩
theorem c5_isSoldier {i : Nat} {x : Int32} (hD : sp_HD T g o kd lf th) (hX : sp_MH FI T g o kd lf th) (hx : x = nI i) (hi : i < g) (h1 : sp_isK (kd i) 1 = true → P (some (.int 1)) (hp Ls nz FI FJ kp)) (h0 : sp_isK (kd i) 1 = false → P (some (.int 0)) (hp Ls nz FI FJ kp)) : sr_Call mX5_isSoldier d [.ref 30, .int x] (hp Ls nz FI FJ kp) P := by
  have hg := hD.1
  have hk := (hD.2.2.2.2.1 i hi).1
  have e := (hX.2.2.2.1 i hi).1
  refine eX5_isSoldier [] ?_
  refine ⟨i, ⟨hx, show i < 5 by omega⟩, ?_⟩
  refine sr_ite (c := FI 37 i = nI 1) (fun c => ?_) (fun c => ?_)
  · rw [e] at c
    have c := nI_inj (by omega) (by omega) c
    exact ⟨Or.inr rfl, h1 (by simp [sp_isK, c])⟩
  · have c : kd i ≠ 1 := fun q => c (by rw [e, q])
    refine ⟨i, ⟨hx, show i < 5 by omega⟩, ?_⟩
    refine sr_ite (c := FI 37 i = nI 4) (fun c2 => ?_) (fun c2 => ?_)
    · rw [e] at c2
      have c2 := nI_inj (by omega) (by omega) c2
      exact ⟨Or.inr rfl, h1 (by simp [sp_isK, c2])⟩
    · have c2 : kd i ≠ 4 := fun q => c2 (by rw [e, q])
      exact ⟨Or.inl rfl, h0 (by simp [sp_isK, c, c2])⟩
theorem c5_soldiers_loop (hD : sp_HD T g o kd lf th) (hX : sp_MH FI T g o kd lf th) (h : P (some (.int (nI (sp_cnt (fun i => sp_isK (kd i) 1) g)))) (hp Ls nz FI FJ kp)) : ∀ (m i : Nat) (x s : Int32), i + m = g → x = nI i → s = nI (sp_cnt (fun i => sp_isK (kd i) 1) i) → sr_Go mX5_soldiers (d + 1) 4 [some (.ref 30), some (.int s), some (.int x)] [] (0, 0) (hp Ls nz FI FJ kp) P := by
  have hg := hD.1
  intro m
  induction m with
  | zero =>
    intro i x s hi hx hs
    refine eX5_soldiers [4] ?_
    refine sr_ite (c := x < FI 30 10) (fun c => ?_) (fun c => ?_)
    · exfalso; rw [hx, hX.2.1] at c; have := (nI_ltI (by omega) (by omega)).mp c; omega
    · have : i = g := by omega
      subst this
      rw [← hs] at h
      exact h
  | succ m ih =>
    intro i x s hi hx hs
    refine eX5_soldiers [4] ?_
    refine sr_ite (c := x < FI 30 10) (fun c => ?_) (fun c => ?_)
    · refine c5_isSoldier (i := i) hD hX hx (by omega) (fun c1 => ?_) (fun c1 => ?_)
      · refine ih (i + 1) _ _ (by omega) (by rw [hx]; exact nI_1 i) ?_
        rw [hs]; simp [sp_cnt, c1]; exact nI_1 _
      · refine ih (i + 1) _ _ (by omega) (by rw [hx]; exact nI_1 i) ?_
        rw [hs]; simp [sp_cnt, c1]; exact rfl
    · exfalso; rw [hx, hX.2.1] at c; exact c (nI_lt (by omega) (by omega))
theorem c5_soldiers (hD : sp_HD T g o kd lf th) (hX : sp_MH FI T g o kd lf th) (h : P (some (.int (nI (sp_cnt (fun i => sp_isK (kd i) 1) g)))) (hp Ls nz FI FJ kp)) : sr_Call mX5_soldiers (d + 1) [.ref 30] (hp Ls nz FI FJ kp) P := by
  refine eX5_soldiers [4] ?_
  exact c5_soldiers_loop hD hX h g 0 0 0 (by omega) rfl rfl
theorem c5_thereBy_loop {i u : Nat} {x y : Int32} (hD : sp_HD T g o kd lf th) (hX : sp_MH FI T g o kd lf th) (hx : x = nI i) (hi : i < g) (hy : y = nI u) (hu : u < o) (h : P (some (.int (nI (sp_cnt (fun t => sp_hs th (sp_second (kd i) (lf i) T t) u) T)))) (hp Ls nz FI FJ kp)) : ∀ (m t : Nat) (z s : Int32), t + m = T → z = nI t → s = nI (sp_cnt (fun t => sp_hs th (sp_second (kd i) (lf i) T t) u) t) → sr_Go mX5_thereBy (d + 2) 5 [some (.ref 30), some (.int x), some (.int y), some (.int s), some (.int z)] [] (0, 0) (hp Ls nz FI FJ kp) P := by
  have hT := hD.2.2.1
  intro m
  induction m with
  | zero =>
    intro t z s ht hz hs
    refine eX5_thereBy [5] ?_
    refine sr_ite (c := z < FI 30 11) (fun c => ?_) (fun c => ?_)
    · exfalso; rw [hz, hX.1] at c; have := (nI_ltI (by omega) (by omega)).mp c; omega
    · have : t = T := by omega
      subst this
      rw [← hs] at h
      exact h
  | succ m ih =>
    intro t z s ht hz hs
    refine eX5_thereBy [5] ?_
    refine sr_ite (c := z < FI 30 11) (fun c => ?_) (fun c => ?_)
    · refine c5_secondBy (i := i) (t := t) hD hX hx hi hz (by omega) ?_
      refine c5_isHad (i := u) hD hX rfl (sp_second_lt (hD.2.2.2.2.1 i hi).1 (by omega) (by omega) (hD.2.2.2.2.1 i hi).2) hy hu (fun c1 => ?_) (fun c1 => ?_)
      · refine ih (t + 1) _ _ (by omega) (by rw [hz]; exact nI_1 t) ?_
        rw [hs]; simp [sp_cnt, c1]; exact nI_1 _
      · refine ih (t + 1) _ _ (by omega) (by rw [hz]; exact nI_1 t) ?_
        rw [hs]; simp [sp_cnt, c1]; exact rfl
    · exfalso; rw [hz, hX.1] at c; exact c (nI_lt (by omega) (by omega))
theorem c5_thereBy {i u : Nat} {x y : Int32} (hD : sp_HD T g o kd lf th) (hX : sp_MH FI T g o kd lf th) (hx : x = nI i) (hi : i < g) (hy : y = nI u) (hu : u < o) (h : P (some (.int (nI (sp_cnt (fun t => sp_hs th (sp_second (kd i) (lf i) T t) u) T)))) (hp Ls nz FI FJ kp)) : sr_Call mX5_thereBy (d + 2) [.ref 30, .int x, .int y] (hp Ls nz FI FJ kp) P := by
  refine eX5_thereBy [5] ?_
  exact c5_thereBy_loop hD hX hx hi hy hu h T 0 0 0 (by omega) rfl rfl
theorem c5_rowAt {a b : Nat} {x y : Int32} (hx : x = nI a) (hy : y = nI b) (hb : 40 * a + b < 240) (h : P (some (.int (FI 33 (40 * a + b)))) (hp Ls nz FI FJ kp)) : sr_Call mX5_rowAt d [.ref 30, .int x, .int y] (hp Ls nz FI FJ kp) P := by
  refine eX5_rowAt [] ?_
  refine ⟨40 * a + b, ⟨?_, hb⟩, h⟩
  show nI 40 * x + y = _
  rw [hx, hy, nI_mul, nI_add]
theorem c5_byteAt {a b k : Nat} {x y : Int32} (hx : x = nI a) (ha : a < 4) (hk : k ≤ 60) (hz : FI 35 a = nI k) (hy : y = nI b) (hb : b < 1000) (h1 : b < k → P (some (.int (FI 36 (60 * a + b)))) (hp Ls nz FI FJ kp)) (h0 : ¬ b < k → P (some (.int 0)) (hp Ls nz FI FJ kp)) : sr_Call mX5_byteAt d [.ref 30, .int x, .int y] (hp Ls nz FI FJ kp) P := by
  refine eX5_byteAt [] ?_
  refine ⟨a, ⟨hx, ha⟩, ?_⟩
  refine sr_ite (c := y < FI 35 a) (fun c => ?_) (fun c => ?_)
  · rw [hy, hz] at c
    have c := (nI_ltI (by omega) (by omega)).mp c
    refine ⟨60 * a + b, ⟨?_, show 60 * a + b < 240 by omega⟩, h1 c⟩
    show nI 60 * x + y = _
    rw [hx, hy, nI_mul, nI_add]
  · exact h0 (fun q => c (by rw [hy, hz]; exact nI_lt q (by omega)))
end CM
