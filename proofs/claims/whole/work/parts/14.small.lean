/-! contracts: small methods of the class -/
section CT
variable {Ls nz d T g o : Nat} {kd lf th tn v : Nat → Nat} {FI : Nat → Nat → Int32} {FJ : Nat → Nat → Int64} {kp : Nat → Option Nat} {P : Option Value → sr_H → Prop}
theorem c6_bitCount {x : Int32} {l : Nat} (hx : x = nI l) (hl : l < 256) {h9 : sr_H} (h : P (some (.int (nI (sp_pop l)))) h9) : sr_Call mJ6_bitCount d [.int x] h9 P := by
  refine eJ6_bitCount [] ?_
  show P (some (.int (sp_bc x))) h9
  rw [hx, nb_bits l hl]
  exact h
theorem c4_found {x : Int32} {a : Nat} (hx : x = nI a) (ha : a < 6) (h : P (some (.int (sr_k (-3)))) (hp Ls nz (sr_u (sr_u FI 0 14 x) 29 a (FI 29 a + 1)) FJ kp)) : sr_Call mX4_found d [.ref 0, .int x] (hp Ls nz FI FJ kp) P := by
  refine eX4_found [] ?_
  exact ⟨a, ⟨hx, ha⟩, ⟨a, ⟨hx, ha⟩, h⟩⟩
theorem c4_tell {x y : Int32} (h : P (some (.int x)) (hp Ls nz (sr_u FI 0 11 y) FJ kp)) : sr_Call mX4_tell d [.ref 0, .int x, .int y] (hp Ls nz FI FJ kp) P := eX4_tell [] h
theorem c4_isGuest {x : Int32} (hD : sp_HD T g o kd lf th) (hX : sp_XH FI T g o kd lf th) (h1 : ∀ i, i < g → x = nI i → P (some (.int 1)) (hp Ls nz FI FJ kp)) (h0 : (∀ i, i < g → x ≠ nI i) → P (some (.int 0)) (hp Ls nz FI FJ kp)) : sr_Call mX4_isGuest d [.ref 0, .int x] (hp Ls nz FI FJ kp) P := by
  have hg := hD.1
  refine eX4_isGuest [] ?_
  refine sr_ite (c := x < 0) (fun c => ?_) (fun c => ?_)
  · exact ⟨Or.inl rfl, h0 (fun i hi e => by rw [e] at c; exact nI_pos (by omega) c)⟩
  · refine sr_ite (c := x < FI 8 1) (fun c2 => ?_) (fun c2 => ?_)
    · rw [hX.2.1] at c2
      obtain ⟨k, hk, e⟩ := nI_ltN (by omega) c c2
      exact ⟨Or.inr rfl, h1 k hk e⟩
    · refine ⟨Or.inl rfl, h0 (fun i hi e => c2 ?_)⟩
      rw [e, hX.2.1]; exact nI_lt hi (by omega)
theorem c4_isThing {x : Int32} (hD : sp_HD T g o kd lf th) (hX : sp_XH FI T g o kd lf th) (h1 : ∀ i, i < o → x = nI i → P (some (.int 1)) (hp Ls nz FI FJ kp)) (h0 : (∀ i, i < o → x ≠ nI i) → P (some (.int 0)) (hp Ls nz FI FJ kp)) : sr_Call mX4_isThing d [.ref 0, .int x] (hp Ls nz FI FJ kp) P := by
  have ho := hD.2.1
  refine eX4_isThing [] ?_
  refine sr_ite (c := x < 0) (fun c => ?_) (fun c => ?_)
  · exact ⟨Or.inl rfl, h0 (fun i hi e => by rw [e] at c; exact nI_pos (by omega) c)⟩
  · refine sr_ite (c := x < FI 8 2) (fun c2 => ?_) (fun c2 => ?_)
    · rw [hX.2.2.1] at c2
      obtain ⟨k, hk, e⟩ := nI_ltN (by omega) c c2
      exact ⟨Or.inr rfl, h1 k hk e⟩
    · refine ⟨Or.inl rfl, h0 (fun i hi e => c2 ?_)⟩
      rw [e, hX.2.2.1]; exact nI_lt hi (by omega)
theorem c4_isThingSet {x : Int32} (hD : sp_HD T g o kd lf th) (hX : sp_XH FI T g o kd lf th) (h1 : ∀ i, i < 2 ^ o → x = nI i → P (some (.int 1)) (hp Ls nz FI FJ kp)) (h0 : (∀ i, i < 2 ^ o → x ≠ nI i) → P (some (.int 0)) (hp Ls nz FI FJ kp)) : sr_Call mX4_isThingSet d [.ref 0, .int x] (hp Ls nz FI FJ kp) P := by
  have ho := hD.2.1
  have hp8 : 2 ^ o ≤ 256 := nb_powle (T := 8) (by omega)
  have e9 : (sr_k 1 <<< (FI 8 2 &&& 31)) = nI (2 ^ o) := by rw [hX.2.2.1]; exact nI_shl1 o (by omega)
  refine eX4_isThingSet [] ?_
  refine sr_ite (c := x < 0) (fun c => ?_) (fun c => ?_)
  · exact ⟨Or.inl rfl, h0 (fun i hi e => by rw [e] at c; exact nI_pos (by omega) c)⟩
  · refine sr_ite (c := x < (sr_k 1 <<< (FI 8 2 &&& 31))) (fun c2 => ?_) (fun c2 => ?_)
    · rw [e9] at c2
      obtain ⟨k, hk, e⟩ := nI_ltN (by omega) c c2
      exact ⟨Or.inr rfl, h1 k hk e⟩
    · refine ⟨Or.inl rfl, h0 (fun i hi e => c2 ?_)⟩
      rw [e, e9]; exact nI_lt hi (by omega)
theorem c4_isLaw {x : Int32} {h9 : sr_H} (h1 : ∀ i, i < 3 → x = nI i → P (some (.int 1)) h9) (h0 : (∀ i, i < 3 → x ≠ nI i) → P (some (.int 0)) h9) : sr_Call mX4_isLaw d [.int x] h9 P := by
  refine eX4_isLaw [] ?_
  refine sr_ite (c := x < 0) (fun c => ?_) (fun c => ?_)
  · exact ⟨Or.inl rfl, h0 (fun i hi e => by rw [e] at c; exact nI_pos (by omega) c)⟩
  · refine sr_ite (c := x < nI 3) (fun c2 => ?_) (fun c2 => ?_)
    · obtain ⟨k, hk, e⟩ := nI_ltN (by omega) c c2
      exact ⟨Or.inr rfl, h1 k hk e⟩
    · refine ⟨Or.inl rfl, h0 (fun i hi e => c2 ?_)⟩
      rw [e]; exact nI_lt hi (by omega)
theorem c4_secondLife {i : Nat} {x : Int32} (hD : sp_HD T g o kd lf th) (hX : sp_XH FI T g o kd lf th) (hT : sp_XT FI g tn) (hTd : sp_TD T g tn) (hx : x = nI i) (hi : i < g) (h : P (some (.int (nI (sp_sec T kd lf tn i)))) (hp Ls nz FI FJ kp)) : sr_Call mX4_secondLife (d + 2) [.ref 0, .int x] (hp Ls nz FI FJ kp) P := by
  have hg := hD.1
  refine eX4_secondLife [] ?_
  refine ⟨i, ⟨hx, show i < 5 by omega⟩, ?_⟩
  exact c0_secondLifeAt (i := i) (t := tn i) hD hX hx hi (hT i hi) (hTd i hi) h
theorem c4_isSecondOf {i j : Nat} {x y : Int32} (hD : sp_HD T g o kd lf th) (hX : sp_XH FI T g o kd lf th) (hT : sp_XT FI g tn) (hTd : sp_TD T g tn) (hx : x = nI i) (hi : i < g) (hy : y = nI j) (hj : j < g) (h1 : lf i = sp_sec T kd lf tn j → P (some (.int 1)) (hp Ls nz FI FJ kp)) (h0 : lf i ≠ sp_sec T kd lf tn j → P (some (.int 0)) (hp Ls nz FI FJ kp)) : sr_Call mX4_isSecondOf (d + 3) [.ref 0, .int x, .int y] (hp Ls nz FI FJ kp) P := by
  have hg := hD.1
  have hp6 := sp_pow_le hD.2.2.1
  have hl := (hD.2.2.2.2.1 i hi).2
  have hs := sp_sec_lt hD hTd hj
  refine eX4_isSecondOf [] ?_
  refine ⟨i, ⟨hx, show i < 5 by omega⟩, ?_⟩
  refine c4_secondLife (i := j) hD hX hT hTd hy hj ?_
  have e := (hX.2.2.2.1 i hi).2
  refine sr_ite (c := FI 10 i = nI (sp_sec T kd lf tn j)) (fun c => ?_) (fun c => ?_)
  · exact ⟨Or.inr rfl, h1 (nI_inj (by omega) (by omega) (e.symm.trans c))⟩
  · exact ⟨Or.inl rfl, h0 (fun q => c (by rw [e, q]))⟩
theorem c4_thingsIn0 {i : Nat} {x y : Int32} (hD : sp_HD T g o kd lf th) (hX : sp_XH FI T g o kd lf th) (hx : x = nI i) (hi : i < g) (hy : y = 0) (h : P (some (.int (nI (sp_things th (lf i) o)))) (hp Ls nz FI FJ kp)) : sr_Call mX4_thingsIn (d + 3) [.ref 0, .int x, .int y] (hp Ls nz FI FJ kp) P := by
  have hg := hD.1
  subst hy
  refine eX4_thingsIn [] ?_
  refine ⟨i, ⟨hx, show i < 5 by omega⟩, ?_⟩
  exact c0_thingsOfLife (l := lf i) hD hX (hX.2.2.2.1 i hi).2 (hD.2.2.2.2.1 i hi).2 h
theorem c4_thingsIn1 {i : Nat} {x y : Int32} (hD : sp_HD T g o kd lf th) (hX : sp_XH FI T g o kd lf th) (hT : sp_XT FI g tn) (hTd : sp_TD T g tn) (hx : x = nI i) (hi : i < g) (hy : y = nI 1) (h : P (some (.int (nI (sp_things th (sp_sec T kd lf tn i) o)))) (hp Ls nz FI FJ kp)) : sr_Call mX4_thingsIn (d + 3) [.ref 0, .int x, .int y] (hp Ls nz FI FJ kp) P := by
  subst hy
  refine eX4_thingsIn [] ?_
  refine c4_secondLife (i := i) hD hX hT hTd hx hi ?_
  exact c0_thingsOfLife (l := sp_sec T kd lf tn i) hD hX rfl (sp_sec_lt hD hTd hi) h
theorem c4_thingsByTurn {i t : Nat} {x y : Int32} (hD : sp_HD T g o kd lf th) (hX : sp_XH FI T g o kd lf th) (hx : x = nI i) (hi : i < g) (hy : y = nI t) (ht : t < T) (h : P (some (.int (nI (sp_things th (sp_second (kd i) (lf i) T t) o)))) (hp Ls nz FI FJ kp)) : sr_Call mX4_thingsByTurn (d + 2) [.ref 0, .int x, .int y] (hp Ls nz FI FJ kp) P := by
  refine eX4_thingsByTurn [] ?_
  refine c0_secondLifeAt (i := i) (t := t) hD hX hx hi hy ht ?_
  exact c0_thingsOfLife hD hX rfl (sp_second_lt (hD.2.2.2.2.1 i hi).1 (by have := hD.2.2.1; omega) ht (hD.2.2.2.2.1 i hi).2) h
theorem c4_turnsWith_loop {i u : Nat} {x y : Int32} (hD : sp_HD T g o kd lf th) (hX : sp_XH FI T g o kd lf th) (hx : x = nI i) (hi : i < g) (hy : y = nI u) (hu : u < o) (h : P (some (.int (nI (sp_cnt (fun t => sp_hs th (sp_second (kd i) (lf i) T t) u) T)))) (hp Ls nz FI FJ kp)) : ∀ (m t : Nat) (z s : Int32), t + m = T → z = nI t → s = nI (sp_cnt (fun t => sp_hs th (sp_second (kd i) (lf i) T t) u) t) → sr_Go mX4_turnsWith (d + 2) 5 [some (.ref 0), some (.int x), some (.int y), some (.int s), some (.int z)] [] (0, 0) (hp Ls nz FI FJ kp) P := by
  have hT := hD.2.2.1
  intro m
  induction m with
  | zero =>
    intro t z s ht hz hs
    refine eX4_turnsWith [5] ?_
    refine sr_ite (c := z < FI 8 0) (fun c => ?_) (fun c => ?_)
    · exfalso; rw [hz, hX.1] at c; have := (nI_ltI (by omega) (by omega)).mp c; omega
    · have : t = T := by omega
      subst this
      rw [← hs] at h
      exact h
  | succ m ih =>
    intro t z s ht hz hs
    refine eX4_turnsWith [5] ?_
    refine sr_ite (c := z < FI 8 0) (fun c => ?_) (fun c => ?_)
    · refine c0_secondLifeAt (i := i) (t := t) hD hX hx hi hz (by omega) ?_
      refine c0_lifeHas (i := u) hD hX rfl (sp_second_lt (hD.2.2.2.2.1 i hi).1 (by omega) (by omega) (hD.2.2.2.2.1 i hi).2) hy hu (fun c1 => ?_) (fun c1 => ?_)
      · refine ih (t + 1) _ _ (by omega) (by rw [hz]; exact nI_1 t) ?_
        rw [hs]; simp [sp_cnt, c1]; exact nI_1 _
      · refine ih (t + 1) _ _ (by omega) (by rw [hz]; exact nI_1 t) ?_
        rw [hs]; simp [sp_cnt, c1]
    · exfalso; rw [hz, hX.1] at c; exact c (nI_lt (by omega) (by omega))
theorem c4_turnsWith {i u : Nat} {x y : Int32} (hD : sp_HD T g o kd lf th) (hX : sp_XH FI T g o kd lf th) (hx : x = nI i) (hi : i < g) (hy : y = nI u) (hu : u < o) (h : P (some (.int (nI (sp_cnt (fun t => sp_hs th (sp_second (kd i) (lf i) T t) u) T)))) (hp Ls nz FI FJ kp)) : sr_Call mX4_turnsWith (d + 2) [.ref 0, .int x, .int y] (hp Ls nz FI FJ kp) P := by
  refine eX4_turnsWith [5] ?_
  exact c4_turnsWith_loop hD hX hx hi hy hu h T 0 0 0 (by omega) rfl rfl
theorem c1_roomOf {i : Nat} {x : Int32} (hN : sp_XN FI v) (hV : sp_NV v) (hx : x = nI i) (hi : i < 5) (h : P (some (.int (nI (sp_bit (v 0) i)))) (hp Ls nz FI FJ kp)) : sr_Call mX1_roomOf d [.ref 20, .int x] (hp Ls nz FI FJ kp) P := by
  refine eX1_roomOf [] ?_
  show P (some (.int ((FI 20 1 >>> (x &&& 31)) &&& nI 1))) _
  rw [hN.1, hx, nb_shr _ (by have := hV.1; omega) _ (by omega)]
  exact h
theorem c1_lockedOf {i : Nat} {x : Int32} (hN : sp_XN FI v) (hV : sp_NV v) (hx : x = nI i) (hi : i < 5) (h : P (some (.int (nI (sp_bit (v 1) i)))) (hp Ls nz FI FJ kp)) : sr_Call mX1_lockedOf d [.ref 20, .int x] (hp Ls nz FI FJ kp) P := by
  refine eX1_lockedOf [] ?_
  show P (some (.int ((FI 20 2 >>> (x &&& 31)) &&& nI 1))) _
  rw [hN.2.1, hx, nb_shr _ (by have := hV.2.1; omega) _ (by omega)]
  exact h
theorem c1_hoursOf0 {i : Nat} {x y : Int32} (hN : sp_XN FI v) (hx : x = nI i) (hi : i < 5) (hy : y = nI 0) (h : P (some (.int (nI (v (2 + i))))) (hp Ls nz FI FJ kp)) : sr_Call mX1_hoursOf d [.ref 20, .int x, .int y] (hp Ls nz FI FJ kp) P := by
  refine eX1_hoursOf [] ?_
  refine ⟨2 * i, ⟨?_, show 2 * i < 10 by omega⟩, ?_⟩
  · show nI 2 * x + y = _
    rw [hx, hy, nI_mul, nI_add]; rfl
  · show P (some (.int (FI 22 (2 * i)))) _
    rw [(hN.2.2 i hi).1]; exact h
theorem c1_hoursOf1 {i : Nat} {x y : Int32} (hN : sp_XN FI v) (hx : x = nI i) (hi : i < 5) (hy : y = nI 1) (h : P (some (.int (nI (v (7 + i))))) (hp Ls nz FI FJ kp)) : sr_Call mX1_hoursOf d [.ref 20, .int x, .int y] (hp Ls nz FI FJ kp) P := by
  refine eX1_hoursOf [] ?_
  refine ⟨2 * i + 1, ⟨?_, show 2 * i + 1 < 10 by omega⟩, ?_⟩
  · show nI 2 * x + y = _
    rw [hx, hy, nI_mul, nI_add]
  · show P (some (.int (FI 22 (2 * i + 1)))) _
    rw [(hN.2.2 i hi).2]; exact h
end CT
