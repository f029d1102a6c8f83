/-! the reader: figures, blanks, kinds -/
def sp_fg (b : Nat → Int32) (N lo hi q : Nat) : Prop := q < N ∧ ¬ b q - nI 48 < nI lo ∧ ¬ nI hi < b q - nI 48
def sp_cv (b : Nat → Int32) (q : Nat) : Nat := (b q - nI 48).toInt.toNat
theorem sp_fgv {b : Nat → Int32} {N lo hi q : Nat} (hhi : hi < 1000) (hlo : lo < 1000) (h : sp_fg b N lo hi q) : b q - nI 48 = nI (sp_cv b q) ∧ lo ≤ sp_cv b q ∧ sp_cv b q ≤ hi := by
  obtain ⟨-, h1, h2⟩ := h
  have h0 : ¬ b q - nI 48 < 0 := by
    intro c
    have c1 := Int32.lt_iff_toInt_lt.mp c
    have c2 : ¬ (b q - nI 48).toInt < (nI lo).toInt := fun z => h1 (Int32.lt_iff_toInt_lt.mpr z)
    rw [nI_toInt (by omega)] at c2
    have : (0 : Int32).toInt = 0 := rfl
    omega
  obtain ⟨n, hn, e⟩ := nI_all h0
  have ec : sp_cv b q = n := by
    unfold sp_cv
    rw [e, nI_toInt hn]
    exact Int.toNat_natCast n
  rw [ec]
  rw [e] at h1 h2
  refine ⟨e, ?_, ?_⟩
  · by_cases c : lo ≤ n
    · exact c
    · exact absurd (nI_lt (by omega) (by omega)) h1
  · by_cases c : n ≤ hi
    · exact c
    · exact absurd (nI_lt (by omega) hn) h2
theorem sp_m49 {lo : Nat} (h : lo < 1000) : sr_k (-1) - nI 48 < nI lo ∧ (0 : Int32) - nI 48 < nI lo := by
  constructor
  · rw [Int32.lt_iff_toInt_lt, nI_toInt (by omega)]
    have : (sr_k (-1) - nI 48).toInt = -49 := by decide +kernel
    omega
  · rw [Int32.lt_iff_toInt_lt, nI_toInt (by omega)]
    have : ((0 : Int32) - nI 48).toInt = -48 := by decide +kernel
    omega
theorem sr_u_id {α : Type} {f : Nat → Nat → α} {r k : Nat} {v : α} (h : f r k = v) : sr_u f r k v = f := by
  funext a b
  unfold sr_u
  by_cases c : a = r ∧ b = k
  · rw [if_pos c, c.1, c.2, h]
  · rw [if_neg c]
def sp_TX (F : Nat → Nat → Int32) (t N : Nat) (b : Nat → Int32) : Prop := F 4 0 = nI 60 ∧ t < 4 ∧ N ≤ 60 ∧ F 5 t = nI N ∧ ∀ i, i < N → F 6 (t * 60 + i) = b i
def sp_TM (F : Nat → Nat → Int32) (t N : Nat) (b : Nat → Int32) : Prop := t < 4 ∧ N ≤ 60 ∧ F 35 t = nI N ∧ ∀ i, i < N → F 36 (60 * t + i) = b i
def sp_RX (F : Nat → Nat → Int32) (t N p : Nat) : Prop := F 7 1 = nI t ∧ F 7 2 = nI N ∧ F 7 3 = nI p
theorem sp_let_inj : ∀ k, k < 6 → ∀ l, l < 6 → nI (sp_let k) = nI (sp_let l) → k = l := by decide +kernel
section RE
variable {Ls nz d T g o D t N p : Nat} {b : Nat → Int32} {kd lf ft th : Nat → Nat} {xs : Nat → Int32} {F : Nat → Nat → Int32} {FJ : Nat → Nat → Int64} {kp : Nat → Option Nat} {P : Option Value → sr_H → Prop} {h9 : sr_H}
theorem c2_here (hT : sp_TX F t N b) (hR : sp_RX F t N p) (hpp : p < 1000) (h1 : p < N → P (some (.int (b p))) (hp Ls nz F FJ kp)) (h0 : ¬ p < N → P (some (.int (sr_k (-1)))) (hp Ls nz F FJ kp)) : sr_Call mX2_here (d + 1) [.ref 7] (hp Ls nz F FJ kp) P := by
  obtain ⟨w, ht, hN, hz, hb⟩ := hT
  obtain ⟨r1, r2, r3⟩ := hR
  refine eX2_here [] ?_
  refine sr_ite (c := F 7 3 < F 7 2) (fun c => ?_) (fun c => ?_)
  · rw [r3, r2] at c
    have c := (nI_ltI (by omega) (by omega)).mp c
    refine c3t_placeOf (a := t) (b := p) w r1 r3 (by omega) ?_
    rw [hb p c]
    exact h1 c
  · exact h0 (fun q => c (by rw [r3, r2]; exact nI_lt q (by omega)))
theorem sp_RX_u {q : Nat} (hR : sp_RX F t N p) : sp_RX (sr_u F 7 3 (nI q)) t N q := ⟨hR.1, hR.2.1, rfl⟩
theorem c2_skip (hT : sp_TX F t N b) (hR : sp_RX F t N p) (hpN : p ≤ N) (h : ∀ q, p ≤ q → q ≤ N → (∀ i, p ≤ i → i < q → b i = nI 32) → (q < N → b q ≠ nI 32) → P none (hp Ls nz (sr_u F 7 3 (nI q)) FJ kp)) : sr_Call mX2_skipBlanks (d + 2) [.ref 7] (hp Ls nz F FJ kp) P := by
  have hN := hT.2.2.1
  have loop : ∀ (m q : Nat) (z : Int32), q + m = N → p ≤ q → z = nI (q - p) → (∀ i, p ≤ i → i < q → b i = nI 32) → sr_Go mX2_skipBlanks (d + 2) 2 [some (.ref 7), some (.int z)] [] (0, 0) (hp Ls nz (sr_u F 7 3 (nI q)) FJ kp) P := by
    intro m
    induction m with
    | zero =>
      intro q z hq hpq hz hb
      have hqN : q = N := by omega
      subst hqN
      refine eX2_skipBlanks [2, 35] ?_
      have fin : sr_Go mX2_skipBlanks (d + 2) 35 [some (.ref 7), some (.int z)] [] (0, 0) (hp Ls nz (sr_u F 7 3 (nI q)) FJ kp) P := eX2_skipBlanks [] (h q hpq (Nat.le_refl _) hb (fun c => by omega))
      refine sr_ite (c := z < F 7 2) (fun c => ?_) (fun c => fin)
      refine c2_here (F := sr_u F 7 3 (nI q)) hT (sp_RX_u hR) (by omega) (fun c => by omega) (fun c => ?_)
      exact fin
    | succ m ih =>
      intro q z hq hpq hz hb
      have fin : b q ≠ nI 32 → sr_Go mX2_skipBlanks (d + 2) 35 [some (.ref 7), some (.int z)] [] (0, 0) (hp Ls nz (sr_u F 7 3 (nI q)) FJ kp) P := fun hne => eX2_skipBlanks [] (h q hpq (by omega) hb (fun _ => hne))
      refine eX2_skipBlanks [2, 35] ?_
      refine sr_ite (c := z < F 7 2) (fun c => ?_) (fun c => absurd (by rw [hz, hR.2.1]; exact nI_lt (by omega) (by omega)) c)
      refine c2_here (F := sr_u F 7 3 (nI q)) hT (sp_RX_u hR) (by omega) (fun c => ?_) (fun c => by omega)
      refine sr_ite (c := b q = nI 32) (fun c2 => ?_) (fun c2 => fin c2)
      have := ih (q + 1) (z + nI 1) (by omega) (by omega) (by rw [hz, nI_add]; congr 1; omega) (fun i h1 h2 => by
        by_cases e : i = q
        · rw [e]; exact c2
        · exact hb i h1 (by omega))
      rw [← nI_1 q, ← sr_uu F 7 3 (nI q) (nI q + 1)] at this
      exact this
  refine eX2_skipBlanks [2] ?_
  have := loop (N - p) p (nI 0) (by omega) (Nat.le_refl _) (by rw [Nat.sub_self]) (fun i h1 h2 => by omega)
  rw [sr_u_id hR.2.2] at this
  exact this
theorem c2_figure {lo hi : Nat} {x y : Int32} (hT : sp_TX F t N b) (hR : sp_RX F t N p) (hpp : p < 1000) (hx : x = nI lo) (hlo : lo < 1000) (hy : y = nI hi) (hhi : hi < 1000) (h1 : sp_fg b N lo hi p → P (some (.int (nI (sp_cv b p)))) (hp Ls nz (sr_u F 7 3 (nI (p + 1))) FJ kp)) (h0 : ¬ sp_fg b N lo hi p → ∀ z, z = sr_k (-1) → P (some (.int z)) (hp Ls nz F FJ kp)) : sr_Call mX2_figure (d + 2) [.ref 7, .int x, .int y] (hp Ls nz F FJ kp) P := by
  refine eX2_figure [18] ?_
  refine c2_here hT hR hpp (fun c => ?_) (fun c => ?_)
  · refine sr_ite (c := b p - nI 48 < x) (fun c1 => ?_) (fun c1 => ?_)
    · refine eX2_figure [] ?_
      exact h0 (fun q => q.2.1 (by rw [← hx]; exact c1)) _ rfl
    refine sr_ite (c := y < b p - nI 48) (fun c2 => ?_) (fun c2 => ?_)
    · refine eX2_figure [] ?_
      exact h0 (fun q => q.2.2 (by rw [← hy]; exact c2)) _ rfl
    · rw [hx] at c1
      rw [hy] at c2
      have hf : sp_fg b N lo hi p := ⟨c, c1, c2⟩
      have := h1 hf
      rw [← (sp_fgv hhi hlo hf).1, ← nI_1 p, ← hR.2.2] at this
      exact this
  · refine sr_ite (c := sr_k (-1) - nI 48 < x) (fun c1 => ?_) (fun c1 => ?_)
    · refine eX2_figure [] ?_
      exact h0 (fun q => c q.1) _ rfl
    · exfalso; rw [hx] at c1; exact c1 (sp_m49 hlo).1
theorem c5_figure {lo hi : Nat} {x y w : Int32} (hT : sp_TM F t N b) (hR : F 30 17 = nI p) (hpp : p < 1000) (hw : w = nI t) (hx : x = nI lo) (hlo : lo < 1000) (hy : y = nI hi) (hhi : hi < 1000) (h1 : sp_fg b N lo hi p → P (some (.int (nI (sp_cv b p)))) (hp Ls nz (sr_u F 30 17 (nI (p + 1))) FJ kp)) (h0 : ¬ sp_fg b N lo hi p → ∀ z, z = sr_k (-9) → P (some (.int z)) (hp Ls nz F FJ kp)) : sr_Call mX5_figure (d + 1) [.ref 30, .int w, .int x, .int y] (hp Ls nz F FJ kp) P := by
  obtain ⟨ht, hN, hz, hb⟩ := hT
  refine eX5_figure [] ?_
  refine c5_byteAt (a := t) (b := p) (k := N) hw ht hN hz hR hpp (fun c => ?_) (fun c => ?_)
  · rw [hb p c]
    refine c5_in' (fun c1 c2 z hz => ?_) (fun c2 z hz => ?_)
    · refine sr_n1 hz ?_
      have c1 : ¬ b p - nI 48 < x := c1
      have c2 : ¬ y < b p - nI 48 := c2
      rw [hx] at c1
      rw [hy] at c2
      have hf : sp_fg b N lo hi p := ⟨c, c1, c2⟩
      have := h1 hf
      rw [← (sp_fgv hhi hlo hf).1, ← nI_1 p, ← hR] at this
      exact this
    · refine sr_n0 hz ?_
      have c2 : b p - nI 48 < x ∨ y < b p - nI 48 := c2
      rw [hx, hy] at c2
      exact h0 (fun q => c2.elim (fun r => q.2.1 r) (fun r => q.2.2 r)) _ rfl
  · refine c5_in' (fun c1 => ?_) (fun c2 z hz => ?_)
    · exfalso
      have c1 : ¬ (0 : Int32) - nI 48 < x := c1
      rw [hx] at c1
      exact c1 (sp_m49 hlo).2
    · refine sr_n0 hz ?_
      exact h0 (fun q => c q.1) _ rfl
theorem c2_kind {x : Int32} (hO : sp_RO F) (h1 : ∀ k, k < 6 → x = nI (sp_let k) → P (some (.int (nI k))) (hp Ls nz F FJ kp)) (h0 : (∀ k, k < 6 → x ≠ nI (sp_let k)) → P (some (.int (sr_k (-1)))) (hp Ls nz F FJ kp)) : sr_Call mX2_kindByLetter d [.int x] (hp Ls nz F FJ kp) P := by
  have loop : ∀ k, k ≤ 6 → ∀ z : Int32, z = nI k → (∀ l, l < k → x ≠ nI (sp_let l)) → sr_Go mX2_kindByLetter d 2 [some (.int x), some (.int z)] [] (0, 0) (hp Ls nz F FJ kp) P := by
    refine sp_for (fun z hz hn => ?_) (fun k hk ih z hz hn => ?_)
    · refine eX2_kindByLetter [2] ?_
      refine sr_ite (c := z < nI 6) (fun c => absurd c (by rw [hz]; exact nI_nlt (by omega) (by omega))) (fun c => ?_)
      exact h0 hn
    · refine eX2_kindByLetter [2] ?_
      refine sr_ite (c := z < nI 6) (fun c => ?_) (fun c => absurd (by rw [hz]; exact nI_lt hk (by omega)) c)
      refine ⟨k, ⟨hz, show k < 6 from hk⟩, ?_⟩
      refine sr_ite (c := F 1000000 k = x) (fun c2 => ?_) (fun c2 => ?_)
      · rw [hO.1 k hk] at c2
        rw [hz]
        exact h1 k hk c2.symm
      · rw [hO.1 k hk] at c2
        refine ih _ (by rw [hz]; exact nI_1 k) (fun l hl => ?_)
        by_cases e : l = k
        · rw [e]; exact fun q => c2 q.symm
        · exact hn l (by omega)
  refine eX2_kindByLetter [2] ?_
  exact loop 0 (by omega) _ rfl (fun l hl => by omega)
theorem c5_kind {x : Int32} (h1 : ∀ k, k < 6 → x = nI (sp_let k) → P (some (.int (nI k))) h9) (h0 : (∀ k, k < 6 → x ≠ nI (sp_let k)) → P (some (.int (sr_k (-9)))) h9) : sr_Call mX5_kindOf d [.int x] h9 P := by
  refine eX5_kindOf [] ?_
  by_cases e0 : x = nI 99
  · subst e0; exact h1 2 (by omega) rfl
  by_cases e1 : x = nI 103
  · subst e1; exact h1 0 (by omega) rfl
  by_cases e2 : x = nI 108
  · subst e2; exact h1 4 (by omega) rfl
  by_cases e3 : x = nI 112
  · subst e3; exact h1 3 (by omega) rfl
  by_cases e4 : x = nI 115
  · subst e4; exact h1 1 (by omega) rfl
  by_cases e5 : x = nI 117
  · subst e5; exact h1 5 (by omega) rfl
  have hno := h0 (fun k hk => by
    rcases (show k = 0 ∨ k = 1 ∨ k = 2 ∨ k = 3 ∨ k = 4 ∨ k = 5 by omega) with rfl | rfl | rfl | rfl | rfl | rfl
    · exact e1
    · exact e4
    · exact e0
    · exact e3
    · exact e2
    · exact e5)
  refine sr_ite (c := x = nI 99) (fun c => absurd c e0) (fun _ => ?_)
  refine sr_ite (c := x = nI 100) (fun _ => hno) (fun _ => ?_)
  refine sr_ite (c := x = nI 101) (fun _ => hno) (fun _ => ?_)
  refine sr_ite (c := x = nI 102) (fun _ => hno) (fun _ => ?_)
  refine sr_ite (c := x = nI 103) (fun c => absurd c e1) (fun _ => ?_)
  refine sr_ite (c := x = nI 104) (fun _ => hno) (fun _ => ?_)
  refine sr_ite (c := x = nI 105) (fun _ => hno) (fun _ => ?_)
  refine sr_ite (c := x = nI 106) (fun _ => hno) (fun _ => ?_)
  refine sr_ite (c := x = nI 107) (fun _ => hno) (fun _ => ?_)
  refine sr_ite (c := x = nI 108) (fun c => absurd c e2) (fun _ => ?_)
  refine sr_ite (c := x = nI 109) (fun _ => hno) (fun _ => ?_)
  refine sr_ite (c := x = nI 110) (fun _ => hno) (fun _ => ?_)
  refine sr_ite (c := x = nI 111) (fun _ => hno) (fun _ => ?_)
  refine sr_ite (c := x = nI 112) (fun c => absurd c e3) (fun _ => ?_)
  refine sr_ite (c := x = nI 113) (fun _ => hno) (fun _ => ?_)
  refine sr_ite (c := x = nI 114) (fun _ => hno) (fun _ => ?_)
  refine sr_ite (c := x = nI 115) (fun c => absurd c e4) (fun _ => ?_)
  refine sr_ite (c := x = nI 116) (fun _ => hno) (fun _ => ?_)
  refine sr_ite (c := x = nI 117) (fun c => absurd c e5) (fun _ => ?_)
  exact hno
end RE
