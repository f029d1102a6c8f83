/-! the cells: 0 to 29 the class, 30 to 50 the reference, from 51 on the nights that are kept -/
def hp_k0 : List (Nat × Nat) := [(4, 0), (3, 0), (7, 6), (7, 240), (3, 0), (7, 4), (7, 240), (2, 0), (0, 0), (7, 5), (7, 5), (7, 5), (7, 8), (7, 8), (0, 0), (7, 5), (7, 5), (7, 5), (7, 8), (7, 8), (1, 0), (7, 5), (7, 10), (7, 60), (7, 60), (9, 3), (7, 45), (7, 10), (7, 32), (7, 6), (5, 0), (7, 6), (7, 6), (7, 240), (7, 40), (7, 4), (6, 240), (7, 5), (7, 5), (7, 5), (7, 32), (7, 15), (7, 32), (7, 12), (7, 720), (8, 3), (7, 3), (7, 15), (7, 36), (7, 2160), (7, 10)]
def hp_kn : List (Nat × Nat) := [(1, 0), (7, 5), (7, 10), (7, 60), (7, 60)]
def hp_K (Ls nz r : Nat) : Nat × Nat := bif Nat.blt r 51 then hp_k0.getD r (99, 0) else bif Nat.ble 1000000 r then (bif Nat.beq r 1000000 || Nat.beq r 1000001 then (7, 6) else bif Nat.beq r 1000002 then (7, Ls) else (99, 0)) else bif Nat.blt r (51 + 5 * nz) then hp_kn.getD ((r - 51) % 5) (99, 0) else (99, 0)
def hp_r0 : List (List Nat) := [[1, 4, 7, 8, 14, 20, 25, 26, 0, 27, 28, 0, 0, 0, 0, 29], [0, 2, 3], [], [], [0, 5, 6], [], [], [4, 0, 0, 0], [0, 0, 0, 9, 10, 11, 12, 13], [], [], [], [], [], [0, 0, 0, 15, 16, 17, 18, 19], [], [], [], [], [], [0, 0, 0, 21, 22, 23, 24], [], [], [], [], [], [], [], [], [], [0, 31, 0, 0, 0, 32, 33, 34, 35, 36, 0, 0, 0, 37, 38, 39, 40, 0, 0, 0, 0, 41, 42, 43, 0, 44, 45, 46, 47, 48, 49, 50, 0, 0]]
def hp_R (kp : Nat → Option Nat) (r k : Nat) : Option Nat := bif Nat.beq r 25 then kp k else bif Nat.blt r 51 then some ((hp_r0.getD r []).getD k 0) else some (r + (k - 2))
def hp (Ls nz : Nat) (FI : Nat → Nat → Int32) (FJ : Nat → Nat → Int64) (kp : Nat → Option Nat) : sr_H := (51 + 5 * nz, hp_K Ls nz, FI, FJ, hp_R kp)
/-- an array's places filled -/
def sr_fill (FI : Nat → Nat → Int32) (r lo n : Nat) (v : Int32) : Nat → Nat → Int32 := fun a b => if a = r ∧ lo ≤ b ∧ b < lo + n then v else FI a b
theorem sr_fill_0 (FI : Nat → Nat → Int32) (r lo : Nat) (v : Int32) : sr_fill FI r lo 0 v = FI := by
  funext a b
  exact if_neg (by omega)
theorem sr_fill_s (FI : Nat → Nat → Int32) (r lo n : Nat) (v : Int32) : sr_u (sr_fill FI r lo n v) r (lo + n) v = sr_fill FI r lo (n + 1) v := by
  funext a b
  unfold sr_u sr_fill
  by_cases h1 : a = r ∧ b = lo + n
  · rw [if_pos h1, if_pos (by omega)]
  · rw [if_neg h1]
    by_cases h2 : a = r ∧ lo ≤ b ∧ b < lo + n
    · rw [if_pos h2, if_pos (by omega)]
    · rw [if_neg h2, if_neg (by omega)]
/-- constants -/
theorem k_m1 : sr_k (-1) = -1 := rfl
theorem nI_k (n : Nat) : sr_k (Int.ofNat n) = nI n := rfl
theorem nI_inj {a b : Nat} (ha : a < 2147483648) (hb : b < 2147483648) (h : nI a = nI b) : a = b := (nI_eq (by omega) (by omega)).mp h
theorem nI_shl1 : ∀ k, k < 31 → (nI 1 <<< (nI k &&& 31)) = nI (2 ^ k) := by decide +kernel
theorem nI_or (a b : Nat) : nI a ||| nI b = nI (a ||| b) := by
  apply Int32.toBitVec_inj.mp
  show (BitVec.ofNat 32 a ||| BitVec.ofNat 32 b) = BitVec.ofNat 32 (a ||| b)
  rw [BitVec.ofNat_or]
theorem nI_and (a b : Nat) : nI a &&& nI b = nI (a &&& b) := by
  apply Int32.toBitVec_inj.mp
  show (BitVec.ofNat 32 a &&& BitVec.ofNat 32 b) = BitVec.ofNat 32 (a &&& b)
  rw [BitVec.ofNat_and]
theorem nI_xor (a b : Nat) : nI a ^^^ nI b = nI (a ^^^ b) := by
  apply Int32.toBitVec_inj.mp
  show (BitVec.ofNat 32 a ^^^ BitVec.ofNat 32 b) = BitVec.ofNat 32 (a ^^^ b)
  rw [BitVec.ofNat_xor]
theorem nI_mul (a b : Nat) : nI a * nI b = nI (a * b) := pk_mul a b
theorem nI_sub {a b : Nat} (h : b ≤ a) : nI a - nI b = nI (a - b) := pk_sub h
/-- every number that isn't negative is an nI -/
theorem nI_all {x : Int32} (h : ¬ x < 0) : ∃ n : Nat, n < 2147483648 ∧ x = nI n := by
  obtain ⟨j, h1, h2⟩ := nI_of h
  exact ⟨j, by omega, h2⟩
theorem nI_ltN {x : Int32} {b : Nat} (hb : b < 2147483648) (h0 : ¬ x < 0) (h : x < nI b) : ∃ n : Nat, n < b ∧ x = nI n := by
  obtain ⟨n, h1, rfl⟩ := nI_all h0
  exact ⟨n, (nI_ltI (by omega) (by omega)).mp h, rfl⟩
theorem nI_leN {x : Int32} {b : Nat} (hb : b < 2147483648) (h0 : ¬ x < 0) (h : ¬ nI b < x) : ∃ n : Nat, n ≤ b ∧ x = nI n := by
  obtain ⟨n, h1, rfl⟩ := nI_all h0
  refine ⟨n, ?_, rfl⟩
  by_cases h9 : n ≤ b
  · exact h9
  · exact absurd ((nI_ltI (by omega) (by omega)).mpr (by omega)) h
