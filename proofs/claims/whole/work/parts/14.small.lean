/-! contracts: small methods of the class -/
section CT
variable {Ls nz d T g o : Nat} {kd lf th tn : Nat → Nat} {FI : Nat → Nat → Int32} {FJ : Nat → Nat → Int64} {kp : Nat → Option Nat} {P : Option Value → sr_H → Prop}
theorem c4_found {x : Int32} {a : Nat} (hx : x = nI a) (ha : a < 6) (h : P (some (.int (sr_k (-3)))) (hp Ls nz (sr_u (sr_u FI 0 14 x) 29 a (FI 29 a + 1)) FJ kp)) : sr_Call mX4_found d [.ref 0, .int x] (hp Ls nz FI FJ kp) P := by
  refine eX4_found [] ?_
  exact ⟨a, ⟨hx, ha⟩, ⟨a, ⟨hx, ha⟩, h⟩⟩
theorem c4_tell {x y : Int32} (h : P (some (.int x)) (hp Ls nz (sr_u FI 0 11 y) FJ kp)) : sr_Call mX4_tell d [.ref 0, .int x, .int y] (hp Ls nz FI FJ kp) P := eX4_tell [] h
theorem c4_isGuest {x : Int32} (hD : sp_HD T g o kd lf th) (hX : sp_XH FI T g o kd lf th) (h1 : ∀ i, i < g → x = nI i → P (some (.int 1)) (hp Ls nz FI FJ kp)) (h0 : (∀ i, i < g → x ≠ nI i) → P (some (.int 0)) (hp Ls nz FI FJ kp)) : sr_Call mX4_isGuest d [.ref 0, .int x] (hp Ls nz FI FJ kp) P := by
  have hg := hD.1
  refine eX4_isGuest [] ?_
  refine sr_ite (c := x < 0) (fun c => ?_) (fun c => ?_)
  · exact ⟨Or.inl rfl, h0 (fun i hi e => by rw [e] at c; exact nI_pos (by omega) c)⟩
  · refine sr_ite (c := x < FI 8 1) (fun c2 => ?_) (fun c2 => ?_)
    · rw [hX.2.1] at c2
      obtain ⟨k, hk, e⟩ := nI_ltN (by omega) c c2
      exact ⟨Or.inr rfl, h1 k hk e⟩
    · refine ⟨Or.inl rfl, h0 (fun i hi e => c2 ?_)⟩
      rw [e, hX.2.1]; exact nI_lt hi (by omega)
end CT
