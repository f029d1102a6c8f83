/-! what both programs compute, in plain numbers -/
def sp_pop (n : Nat) : Nat := n % 2 + n / 2 % 2 + n / 4 % 2 + n / 8 % 2 + n / 16 % 2 + n / 32 % 2 + n / 64 % 2 + n / 128 % 2
def sp_bit (n k : Nat) : Nat := n / 2 ^ k % 2
/-- a thing: TURN and choice, twice -/
def sp_has (t1 c1 t2 c2 life : Nat) : Bool := decide (sp_bit life t1 = c1) && decide (sp_bit life t2 = c2)
def sp_on (t1 c1 t2 c2 : Nat) : Nat := (c1 * 2 ^ t1) ||| (c2 * 2 ^ t2)
def sp_no (t1 c1 t2 c2 : Nat) : Nat := ((1 - c1) * 2 ^ t1) ||| ((1 - c2) * 2 ^ t2)
/-- has a LIFE the i-th THING -/
def sp_hs (th : Nat → Nat) (life i : Nat) : Bool := sp_has (th (4 * i)) (th (4 * i + 1)) (th (4 * i + 2)) (th (4 * i + 3)) life
def sp_things (th : Nat → Nat) (life : Nat) : Nat → Nat
  | 0 => 0
  | i + 1 => sp_things th life i + (if sp_hs th life i then 2 ^ i else 0)
theorem sp_things_lt (th : Nat → Nat) (life : Nat) : ∀ i, sp_things th life i < 2 ^ i
  | 0 => by simp [sp_things]
  | i + 1 => by
    have := sp_things_lt th life i
    unfold sp_things
    rw [Nat.pow_succ]
    split <;> omega
def sp_prst (life T t : Nat) : Nat := ((life ^^^ 2 ^ t) &&& (63 ^^^ 2 ^ (T - 1))) ||| (if life % 2 = 1 then 2 ^ (T - 1) else 0)
def sp_second (k life T t : Nat) : Nat :=
  if k = 1 then life ^^^ (2 ^ T - 2 ^ t) else if k = 4 then life ^^^ ((2 ^ T - 2 ^ t) ||| 1) else if k = 2 then (life ^^^ 2 ^ t) &&& (2 ^ (t + 1) - 1)
  else if k = 3 then sp_prst life T t else if k = 5 then (sp_prst life T t &&& 62) ||| (life % 2) else life ^^^ 2 ^ t
theorem sp_second_lt {k life T t : Nat} (hk : k < 6) (hT : T < 7) (ht : t < T) (hl : life < 2 ^ T) : sp_second k life T t < 2 ^ T := by
  have : ∀ k, k < 6 → ∀ T, T < 7 → ∀ t, t < T → ∀ life, life < 2 ^ T → sp_second k life T t < 2 ^ T := by decide +kernel
  exact this k hk T hT t ht life hl
/-- numbers: shifts, masks -/
theorem nb_shr : ∀ l, l < 256 → ∀ k, k < 9 → (nI l >>> (nI k &&& 31)) &&& nI 1 = nI (sp_bit l k) := by decide +kernel
theorem nb_bc : ∀ l, l < 256 → ∀ k, k < 9 → (nI l >>> (nI k &&& 31)) = nI (l / 2 ^ k) := by decide +kernel
theorem nb_and1 : ∀ l, l < 256 → nI l &&& nI 1 = nI (l % 2) := by decide +kernel
theorem nb_msk : ∀ l, l < 64 → ∀ k, k < 7 → nI l &&& (nI (2 ^ k) ^^^ sr_k (-1)) = nI (l &&& (63 ^^^ 2 ^ k)) := by decide +kernel
theorem nb_m2 : ∀ l, l < 64 → nI l &&& sr_k (-2) = nI (l &&& 62) := by decide +kernel
theorem nb_shl2 : ∀ k, k < 8 → (nI 2 <<< (nI k &&& 31)) = nI (2 ^ (k + 1)) := by decide +kernel
theorem nb_hasX : ∀ t1, t1 < 6 → ∀ c1, c1 < 2 → ∀ t2, t2 < 6 → ∀ c2, c2 < 2 → ∀ l, l < 64 → (l &&& sp_on t1 c1 t2 c2 = sp_on t1 c1 t2 c2 ∧ l &&& sp_no t1 c1 t2 c2 = 0) = (sp_has t1 c1 t2 c2 l = true) := by
  have : ∀ t1, t1 < 6 → ∀ c1, c1 < 2 → ∀ t2, t2 < 6 → ∀ c2, c2 < 2 → ∀ l, l < 64 → decide (l &&& sp_on t1 c1 t2 c2 = sp_on t1 c1 t2 c2 ∧ l &&& sp_no t1 c1 t2 c2 = 0) = sp_has t1 c1 t2 c2 l := by decide +kernel
  intro t1 h1 c1 h2 t2 h3 c2 h4 l h5
  rw [← this t1 h1 c1 h2 t2 h3 c2 h4 l h5, decide_eq_true_eq]
theorem nb_on : ∀ t1, t1 < 6 → ∀ c1, c1 < 2 → ∀ t2, t2 < 6 → ∀ c2, c2 < 2 → sp_on t1 c1 t2 c2 < 64 ∧ sp_no t1 c1 t2 c2 < 64 := by decide +kernel
theorem sp_or_pow {s i : Nat} (h : s < 2 ^ i) : s ||| 2 ^ i = s + 2 ^ i := by
  have := Nat.two_pow_add_eq_or_of_lt h 1
  rw [Nat.mul_one] at this
  rw [Nat.or_comm, ← this, Nat.add_comm]
theorem sp_pow_le {T : Nat} (h : T ≤ 6) : 2 ^ T ≤ 64 := by
  have : ∀ T, T < 7 → 2 ^ T ≤ 64 := by decide
  exact this T (by omega)
/-- the HOTEL: TURNS T, GUESTS g, THINGS o; kinds, lives; the things' four numbers each -/
def sp_HD (T g o : Nat) (kd lf th : Nat → Nat) : Prop := g ≤ 5 ∧ o ≤ 8 ∧ T ≤ 6 ∧ (0 < g → 2 ≤ T ∧ 0 < o) ∧ (∀ i, i < g → kd i < 6 ∧ lf i < 2 ^ T) ∧ ∀ i, i < o → th (4 * i) < T ∧ th (4 * i + 1) < 2 ∧ th (4 * i + 2) < T ∧ th (4 * i + 3) < 2
def sp_XH (FI : Nat → Nat → Int32) (T g o : Nat) (kd lf th : Nat → Nat) : Prop := FI 8 0 = nI T ∧ FI 8 1 = nI g ∧ FI 8 2 = nI o ∧ (∀ i, i < g → FI 9 i = nI (kd i) ∧ FI 10 i = nI (lf i)) ∧ ∀ i, i < o → FI 12 i = nI (sp_on (th (4 * i)) (th (4 * i + 1)) (th (4 * i + 2)) (th (4 * i + 3))) ∧ FI 13 i = nI (sp_no (th (4 * i)) (th (4 * i + 1)) (th (4 * i + 2)) (th (4 * i + 3)))
def sp_MH (FI : Nat → Nat → Int32) (T g o : Nat) (kd lf th : Nat → Nat) : Prop := FI 30 11 = nI T ∧ FI 30 10 = nI g ∧ FI 30 12 = nI o ∧ (∀ i, i < g → FI 37 i = nI (kd i) ∧ FI 38 i = nI (lf i)) ∧ ∀ k, k < 4 * o → FI 40 k = nI (th k)
/-- a KIND is one of another -/
def sp_isK (k w : Nat) : Bool := decide (k = w) || (decide (k = 4) && decide (w = 1)) || (decide (k = 5) && decide (w = 3))
def sp_abv (k : Nat) : Int32 := match k with
  | 0 => -1
  | 1 => nI 0
  | 2 => nI 0
  | 3 => nI 0
  | 4 => nI 1
  | _ => nI 3
def sp_let (k : Nat) : Nat := match k with
  | 0 => 103
  | 1 => 115
  | 2 => 99
  | 3 => 112
  | 4 => 108
  | _ => 117
/-- the two arrays that nobody writes -/
def sp_RO (FI : Nat → Nat → Int32) : Prop := (∀ k, k < 6 → FI 1000000 k = nI (sp_let k)) ∧ ∀ k, k < 6 → FI 1000001 k = sp_abv k
theorem nb_abv : ∀ k, k < 6 → ∀ w, w < 6 → 0 < w → (decide (nI k = nI w) || decide (sp_abv k = nI w)) = sp_isK k w := by decide +kernel
theorem nb_last {life T : Nat} (hT : T < 7) (hT0 : 0 < T) {pl : Nat} (hp_ : pl < 64) (hl : life < 64) : (nI pl &&& (nI (2 ^ (T - 1)) ^^^ sr_k (-1))) ||| (if life % 2 = 1 then nI (2 ^ (T - 1)) else 0) = nI ((pl &&& (63 ^^^ 2 ^ (T - 1))) ||| (if life % 2 = 1 then 2 ^ (T - 1) else 0)) := by
  rw [nb_msk pl hp_ (T - 1) (by omega)]
  split
  · rw [nI_or]
  · exact nI_or _ 0
theorem nb_x64 {a b : Nat} (ha : a < 64) (hb : b < 64) : a ^^^ b < 64 := Nat.xor_lt_two_pow (n := 6) ha hb
theorem nb_or64 {a b : Nat} (ha : a < 64) (hb : b < 64) : a ||| b < 64 := Nat.or_lt_two_pow (n := 6) ha hb
theorem nb_pow {t T : Nat} (h : t < T) (hT : T ≤ 6) : 2 ^ t < 64 := by
  have : ∀ t, t < 6 → 2 ^ t < 64 := by decide
  exact this t (by omega)
theorem nb_powle {t T : Nat} (h : t ≤ T) : 2 ^ t ≤ 2 ^ T := Nat.pow_le_pow_right (by decide) h
/-- counting bits as java.lang.Integer does -/
def sp_ush (x : Int32) (k : Int) : Int32 := (x.toUInt32 >>> ((sr_k k).toUInt32 &&& Int32.toUInt32 31)).toInt32
def sp_bc1 (x : Int32) : Int32 := x - (sp_ush x 1 &&& 1431655765)
def sp_bc2 (x : Int32) : Int32 := (x &&& 858993459) + (sp_ush x 2 &&& 858993459)
def sp_bc3 (x : Int32) : Int32 := (x + sp_ush x 4) &&& 252645135
def sp_bc4 (x : Int32) : Int32 := x + sp_ush x 8
def sp_bc5 (x : Int32) : Int32 := x + sp_ush x 16
def sp_bc (x : Int32) : Int32 := sp_bc5 (sp_bc4 (sp_bc3 (sp_bc2 (sp_bc1 x)))) &&& sr_k 63
theorem nb_bits : ∀ l, l < 256 → sp_bc (nI l) = nI (sp_pop l) := by decide +kernel
theorem nb_kern : ∀ l, l < 256 → 0 < l → sp_pop (l &&& (l - 1)) + 1 = sp_pop l ∧ l &&& (l - 1) < l := by decide +kernel
/-- the least bit -/
def sp_low (n : Nat) : Nat → Nat
  | 0 => 0
  | f + 1 => if n % 2 = 1 then 0 else sp_low (n / 2) f + 1
def sp_lowI (n : Nat) : Int32 := if n = 0 then sr_k (-9) else nI (sp_low n 8)
/-- the night: 0 who is in room 1, 1 whose doors are locked, 2 .. hours of room 0, 7 .. of room 1 -/
def sp_NV (v : Nat → Nat) : Prop := v 0 < 32 ∧ v 1 < 32 ∧ ∀ i, i < 5 → v (2 + i) + v (7 + i) ≤ 60
def sp_XN (FI : Nat → Nat → Int32) (v : Nat → Nat) : Prop := FI 20 1 = nI (v 0) ∧ FI 20 2 = nI (v 1) ∧ ∀ i, i < 5 → FI 22 (2 * i) = nI (v (2 + i)) ∧ FI 22 (2 * i + 1) = nI (v (7 + i))
def sp_MN (FI : Nat → Nat → Int32) (v : Nat → Nat) : Prop := ∀ k, k < 12 → FI 43 k = nI (v k)
def sp_XT (FI : Nat → Nat → Int32) (g : Nat) (tn : Nat → Nat) : Prop := ∀ i, i < g → FI 21 i = nI (tn i)
def sp_MT (FI : Nat → Nat → Int32) (g : Nat) (tn : Nat → Nat) : Prop := ∀ i, i < g → FI 39 i = nI (tn i)
def sp_TD (T g : Nat) (tn : Nat → Nat) : Prop := ∀ i, i < g → tn i < T
def sp_sec (T : Nat) (kd lf tn : Nat → Nat) (i : Nat) : Nat := sp_second (kd i) (lf i) T (tn i)
theorem sp_sec_lt {T g o i : Nat} {kd lf th tn : Nat → Nat} (hD : sp_HD T g o kd lf th) (hT : sp_TD T g tn) (hi : i < g) : sp_sec T kd lf tn i < 2 ^ T := sp_second_lt (hD.2.2.2.2.1 i hi).1 (by have := hD.2.2.1; omega) (hT i hi) (hD.2.2.2.2.1 i hi).2
