/-! walks and rings -/
def sp_pth (E : Nat → Nat → Prop) (g n : Nat) (v : Nat → Nat) : Prop := (∀ i, i ≤ n → v i < g) ∧ (∀ i j, i ≤ n → j ≤ n → v i = v j → i = j) ∧ ∀ i, i < n → E (v (i + 1)) (v i)
def sp_ws (s n : Nat) (v : Nat → Nat) : Prop := s < 32 ∧ ∀ j, j < 5 → (sp_bit s j = 1 ↔ ∃ i, i ≤ n ∧ v i = j)
/-- a walk from the least of s through all of s ends at l -/
def sp_PE (E : Nat → Nat → Prop) (g s l : Nat) : Prop := ∃ n v, sp_pth E g n v ∧ sp_ws s n v ∧ v 0 = sp_low s 8 ∧ v n = l
def sp_Rg (E : Nat → Nat → Prop) (g s : Nat) : Prop := ∃ n v, sp_pth E g n v ∧ sp_ws s n v ∧ E (v 0) (v n)
theorem nb_b01 (s j : Nat) : sp_bit s j = 0 ∨ sp_bit s j = 1 := by unfold sp_bit; omega
theorem nb_seteq : ∀ s, s < 32 → ∀ t, t < 32 → (∀ j, j < 5 → sp_bit s j = sp_bit t j) → s = t := by decide +kernel
theorem nb_lo : ∀ s, s < 32 → 0 < s → sp_low s 8 < 5 ∧ sp_bit s (sp_low s 8) = 1 ∧ ∀ i, i < 5 → i < sp_low s 8 → sp_bit s i = 0 := by decide +kernel
theorem nb_lox : ∀ s, s < 32 → ∀ l, l < 5 → sp_bit s l = 1 → sp_low s 8 < l → s ^^^ 2 ^ l < s ∧ 0 < s ^^^ 2 ^ l ∧ sp_low (s ^^^ 2 ^ l) 8 = sp_low s 8 := by decide +kernel
theorem nb_xb : ∀ s, s < 32 → ∀ l, l < 5 → sp_bit s l = 1 → ∀ j, j < 5 → sp_bit (s ^^^ 2 ^ l) j = if j = l then 0 else sp_bit s j := by decide +kernel
theorem nb_ob : ∀ s, s < 32 → ∀ l, l < 5 → sp_bit s l = 0 → s ||| 2 ^ l < 32 ∧ sp_pop (s ||| 2 ^ l) = sp_pop s + 1 ∧ ∀ j, j < 5 → sp_bit (s ||| 2 ^ l) j = if j = l then 1 else sp_bit s j := by decide +kernel
theorem nb_one : ∀ s, s < 32 → 0 < s → (sp_pop s = 1 → ∀ j, j < 5 → (sp_bit s j = 1 ↔ j = sp_low s 8)) ∧ (sp_pop s ≠ 1 → ∃ j, j < 5 ∧ j ≠ sp_low s 8 ∧ sp_bit s j = 1) := by decide +kernel
theorem nb_two : ∀ s, s < 32 → ∀ a, a < 5 → ∀ b, b < 5 → (a ≠ b ∧ sp_bit s a = 1 ∧ sp_bit s b = 1) → 1 < sp_pop s := by decide +kernel
theorem nb_gs : ∀ g, g < 6 → ∀ s, s < 32 → (∀ j, j < 5 → sp_bit s j = 1 → j < g) → s < 2 ^ g := by decide +kernel
theorem nb_pw : ∀ f, f < 5 → 2 ^ f < 32 ∧ sp_pop (2 ^ f) = 1 ∧ ∀ j, j < 5 → (sp_bit (2 ^ f) j = 1 ↔ j = f) := by decide +kernel
theorem nb_pop5 : ∀ s, s < 32 → sp_pop s ≤ 5 := by decide +kernel
theorem nb_full5 : ∀ s, s < 32 → sp_pop s = 5 → ∀ j, j < 5 → sp_bit s j = 1 := by decide +kernel
theorem nb_orl : ∀ s, s < 32 → ∀ l, l < 5 → s ||| 2 ^ l < 32 ∧ ∀ j, j < 5 → (sp_bit (s ||| 2 ^ l) j = 1 ↔ (sp_bit s j = 1 ∨ j = l)) := by decide +kernel
section WK
variable {E : Nat → Nat → Prop} {g n s l f p : Nat} {v : Nat → Nat}
theorem sp_ws_eq {t : Nat} (h : sp_ws s n v) (h' : sp_ws t n v) : s = t := by
  refine nb_seteq s h.1 t h'.1 (fun j hj => ?_)
  rcases nb_b01 s j with a | a <;> rcases nb_b01 t j with b | b
  · rw [a, b]
  · have := (h.2 j hj).mpr ((h'.2 j hj).mp b); omega
  · have := (h'.2 j hj).mpr ((h.2 j hj).mp a); omega
  · rw [a, b]
theorem sp_ws_in (hg : g ≤ 5) (hp : sp_pth E g n v) (h : sp_ws s n v) {i : Nat} (hi : i ≤ n) : v i < 5 ∧ sp_bit s (v i) = 1 := by
  have := hp.1 i hi
  exact ⟨by omega, (h.2 (v i) (by omega)).mpr ⟨i, hi, rfl⟩⟩
theorem sp_ws_lt (hg : g ≤ 5) (hp : sp_pth E g n v) (h : sp_ws s n v) : s < 2 ^ g := by
  refine nb_gs g (by omega) s h.1 (fun j hj hb => ?_)
  obtain ⟨i, hi, e⟩ := (h.2 j hj).mp hb
  rw [← e]; exact hp.1 i hi
theorem sp_ws_pos (hg : g ≤ 5) (hp : sp_pth E g n v) (h : sp_ws s n v) : 0 < s := by
  rcases Nat.eq_zero_or_pos s with e | e
  · have := (sp_ws_in hg hp h (Nat.zero_le n)).2
    rw [e] at this
    unfold sp_bit at this
    rw [Nat.zero_div] at this
    exact absurd this (by decide)
  · exact e
/-- one step more -/
def sp_ex (v : Nat → Nat) (n p : Nat) : Nat → Nat := fun i => if i ≤ n then v i else p
theorem sp_ex_le {i : Nat} (h : i ≤ n) : sp_ex v n p i = v i := if_pos h
theorem sp_ex_n : sp_ex v n p (n + 1) = p := if_neg (by omega)
theorem sp_ex_pth (hp : sp_pth E g n v) (hpg : p < g) (hnew : ∀ i, i ≤ n → v i ≠ p) (he : E p (v n)) : sp_pth E g (n + 1) (sp_ex v n p) := by
  refine ⟨fun i hi => ?_, fun i j hi hj e => ?_, fun i hi => ?_⟩
  · by_cases c : i ≤ n
    · rw [sp_ex_le c]; exact hp.1 i c
    · have : i = n + 1 := by omega
      rw [this, sp_ex_n]; exact hpg
  · by_cases c : i ≤ n
    · by_cases c2 : j ≤ n
      · rw [sp_ex_le c, sp_ex_le c2] at e; exact hp.2.1 i j c c2 e
      · have : j = n + 1 := by omega
        rw [this, sp_ex_le c, sp_ex_n] at e
        exact absurd e (hnew i c)
    · have e1 : i = n + 1 := by omega
      by_cases c2 : j ≤ n
      · rw [e1, sp_ex_le c2, sp_ex_n] at e
        exact absurd e.symm (hnew j c2)
      · omega
  · by_cases c : i < n
    · rw [sp_ex_le (by omega), sp_ex_le (by omega)]; exact hp.2.2 i c
    · have : i = n := by omega
      rw [this, sp_ex_n, sp_ex_le (Nat.le_refl n)]; exact he
theorem sp_PE_one (hg : g ≤ 5) (hs : s < 32) (hs0 : 0 < s) (hsg : s < 2 ^ g) (h1 : sp_pop s = 1) (hl : l < 5) : sp_bit s l = 1 ↔ sp_PE E g s l := by
  have h2 := (nb_one s hs hs0).1 h1
  constructor
  · intro h
    have e := (h2 l hl).mp h
    have lg : l < g := by
      have lo := nb_lo s hs hs0
      rcases Nat.lt_or_ge l g with q | q
      · exact q
      · exfalso
        have : 2 ^ g ≤ 2 ^ l := nb_powle q
        have : ∀ s, s < 32 → ∀ l, l < 5 → sp_bit s l = 1 → 2 ^ l ≤ s := by decide +kernel
        have := this s hs l hl h
        omega
    refine ⟨0, fun _ => l, ⟨fun _ _ => lg, fun i j hi hj _ => by omega, fun i hi => by omega⟩, ⟨hs, fun j hj => ?_⟩, e, rfl⟩
    rw [h2 j hj, ← e]
    exact ⟨fun q => ⟨0, by omega, q.symm⟩, fun ⟨i, _, q⟩ => q.symm⟩
  · intro ⟨n, v, hp, hS, h0, hn⟩
    have := (sp_ws_in hg hp hS (Nat.le_refl n)).2
    rw [hn] at this
    exact this
theorem sp_PE_more (hg : g ≤ 5) (hs : s < 32) (hl : l < 5) (hb : sp_bit s l = 1) (hlo : sp_low s 8 < l) (hlg : l < g) : sp_PE E g s l ↔ ∃ p, p < g ∧ sp_PE E g (s ^^^ 2 ^ l) p ∧ E l p := by
  have hx := nb_xb s hs l hl hb
  have hlx := nb_lox s hs l hl hb hlo
  constructor
  · intro ⟨n, v, hp, hS, h0, hn⟩
    obtain ⟨m, rfl⟩ : ∃ m, n = m + 1 := ⟨n - 1, by
      rcases Nat.eq_zero_or_pos n with e | e
      · rw [e] at hn; omega
      · omega⟩
    refine ⟨v m, hp.1 m (by omega), ⟨m, v, ⟨fun i hi => hp.1 i (by omega), fun i j hi hj => hp.2.1 i j (by omega) (by omega), fun i hi => hp.2.2 i (by omega)⟩, ⟨by omega, fun j hj => ?_⟩, by rw [hlx.2.2]; exact h0, rfl⟩, by rw [← hn]; exact hp.2.2 m (by omega)⟩
    rw [hx j hj]
    by_cases e : j = l
    · rw [if_pos e]
      refine ⟨fun q => absurd q (by decide), fun ⟨i, hi, q⟩ => ?_⟩
      have := hp.2.1 i (m + 1) (by omega) (by omega) (by rw [q, hn, e])
      omega
    · rw [if_neg e, hS.2 j hj]
      refine ⟨fun ⟨i, hi, q⟩ => ⟨i, ?_, q⟩, fun ⟨i, hi, q⟩ => ⟨i, by omega, q⟩⟩
      rcases Nat.lt_or_ge m i with c | c
      · have : i = m + 1 := by omega
        rw [this, hn] at q
        exact absurd q.symm e
      · exact c
  · intro ⟨p, hpg, ⟨n, v, hp, hS, h0, hn⟩, he⟩
    have hnew : ∀ i, i ≤ n → v i ≠ l := fun i hi q => by
      have := (sp_ws_in hg hp hS hi).2
      rw [q, hx l hl, if_pos rfl] at this
      exact absurd this (by decide)
    refine ⟨n + 1, sp_ex v n l, sp_ex_pth hp hlg hnew (by rw [hn]; exact he), ⟨hs, fun j hj => ?_⟩, by rw [sp_ex_le (by omega), h0, hlx.2.2], sp_ex_n⟩
    have hj2 := hS.2 j hj
    rw [hx j hj] at hj2
    by_cases e : j = l
    · rw [e]
      exact ⟨fun _ => ⟨n + 1, by omega, sp_ex_n⟩, fun _ => hb⟩
    · rw [if_neg e] at hj2
      rw [hj2]
      refine ⟨fun ⟨i, hi, q⟩ => ⟨i, by omega, by rw [sp_ex_le hi]; exact q⟩, fun ⟨i, hi, q⟩ => ?_⟩
      by_cases c : i ≤ n
      · rw [sp_ex_le c] at q; exact ⟨i, c, q⟩
      · have : i = n + 1 := by omega
        rw [this, sp_ex_n] at q
        exact absurd q.symm e
/-- an end that isn't the first lies behind it -/
theorem sp_PE_in (hg : g ≤ 5) (hs0 : 0 < s) (h1 : sp_pop s ≠ 1) (h : sp_PE E g s l) : l < g ∧ sp_bit s l = 1 ∧ sp_low s 8 < l := by
  obtain ⟨n, v, hp, hS, h0, hn⟩ := h
  have a := sp_ws_in hg hp hS (Nat.le_refl n)
  have lg := hp.1 n (Nat.le_refl n)
  rw [hn] at a lg
  have lo := nb_lo s hS.1 hs0
  refine ⟨lg, a.2, ?_⟩
  rcases Nat.lt_trichotomy (sp_low s 8) l with c | c | c
  · exact c
  · exfalso
    have e0 : 0 = n := hp.2.1 0 n (by omega) (by omega) (by rw [h0, hn, c])
    obtain ⟨j, hj, hj2, hj3⟩ := (nb_one s hS.1 hs0).2 h1
    obtain ⟨i, hi, q⟩ := (hS.2 j hj).mp hj3
    have : i = 0 := by omega
    rw [this, h0] at q
    exact hj2 q.symm
  · have := lo.2.2 l a.1 c
    omega
/-- rings turn -/
theorem sp_turn (hg : g ≤ 5) (h : sp_Rg E g s) : ∃ p, p < g ∧ sp_PE E g s p ∧ E (sp_low s 8) p := by
  obtain ⟨n, v, hp, hS, he⟩ := h
  have hs0 := sp_ws_pos hg hp hS
  have lo := nb_lo s hS.1 hs0
  obtain ⟨r, hr, hrv⟩ := (hS.2 _ lo.1).mp lo.2.1
  have key : ∀ i, ∃ q, q = (if i + r ≤ n then i + r else i + r - (n + 1)) := fun i => ⟨_, rfl⟩
  refine ⟨v (if n + r ≤ n then n + r else n + r - (n + 1)), hp.1 _ (by split <;> omega), ⟨n, fun i => v (if i + r ≤ n then i + r else i + r - (n + 1)), ⟨fun i hi => hp.1 _ (by split <;> omega), fun i j hi hj e => ?_, fun i hi => ?_⟩, ⟨hS.1, fun j hj => ?_⟩, ?_, rfl⟩, ?_⟩
  · have := hp.2.1 _ _ (by split <;> omega) (by split <;> omega) e
    split at this <;> split at this <;> omega
  · show E (v (if i + 1 + r ≤ n then i + 1 + r else i + 1 + r - (n + 1))) (v (if i + r ≤ n then i + r else i + r - (n + 1)))
    by_cases c : i + 1 + r ≤ n
    · rw [if_pos c, if_pos (by omega), show i + 1 + r = i + r + 1 by omega]
      exact hp.2.2 (i + r) (by omega)
    · rw [if_neg c]
      by_cases c2 : i + r ≤ n
      · rw [if_pos c2, show i + 1 + r - (n + 1) = 0 by omega, show i + r = n by omega]; exact he
      · rw [if_neg c2, show i + 1 + r - (n + 1) = i + r - (n + 1) + 1 by omega]
        exact hp.2.2 _ (by omega)
  · rw [hS.2 j hj]
    refine ⟨fun ⟨i, hi, q⟩ => ?_, fun ⟨i, hi, q⟩ => ⟨_, ?_, q⟩⟩
    · by_cases c : r ≤ i
      · refine ⟨i - r, by omega, ?_⟩
        show v (if i - r + r ≤ n then i - r + r else i - r + r - (n + 1)) = j
        rw [if_pos (by omega), show i - r + r = i by omega]; exact q
      · refine ⟨i + (n + 1) - r, by omega, ?_⟩
        show v (if i + (n + 1) - r + r ≤ n then i + (n + 1) - r + r else i + (n + 1) - r + r - (n + 1)) = j
        rw [if_neg (by omega), show i + (n + 1) - r + r - (n + 1) = i by omega]; exact q
    · split <;> omega
  · show v (if 0 + r ≤ n then 0 + r else 0 + r - (n + 1)) = _
    rw [if_pos (by omega), Nat.zero_add]; exact hrv
  · rw [← hrv]
    rcases Nat.eq_zero_or_pos r with c | c
    · rw [c, if_pos (by omega)]; exact he
    · rw [if_neg (by omega)]
      have := hp.2.2 (r - 1) (by omega)
      rw [show r - 1 + 1 = r by omega] at this
      rw [show n + r - (n + 1) = r - 1 by omega]
      exact this
theorem sp_Rg_iff (hg : g ≤ 5) (hE : ∀ a, ¬ E a a) (hs0 : 0 < s) : sp_Rg E g s ↔ 1 < sp_pop s ∧ ∃ p, p < g ∧ sp_PE E g s p ∧ E (sp_low s 8) p := by
  constructor
  · intro h
    refine ⟨?_, sp_turn hg h⟩
    obtain ⟨n, v, hp, hS, he⟩ := h
    have a := sp_ws_in hg hp hS (Nat.le_refl n)
    have b := sp_ws_in hg hp hS (Nat.zero_le n)
    exact nb_two s hS.1 (v 0) b.1 (v n) a.1 ⟨fun q => hE (v n) (by rw [q] at he; exact he), b.2, a.2⟩
  · intro ⟨_, p, hpg, ⟨n, v, hp, hS, h0, hn⟩, he⟩
    exact ⟨n, v, hp, hS, by rw [h0, hn]; exact he⟩
end WK
