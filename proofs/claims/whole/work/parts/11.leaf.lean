/-! contracts: the shelves (r: rows, t: texts) -/
def sp_sum (f : Nat → Int32) : Nat → Int64
  | 0 => 0
  | i + 1 => sp_sum f i + (f i).toInt64
def sp_cnt (f : Nat → Bool) : Nat → Nat
  | 0 => 0
  | i + 1 => sp_cnt f i + (if f i then 1 else 0)
def sp_mix (f : Nat → Int32) : Nat → Int64 → Int64
  | 0, h => h
  | i + 1, h => 31 * sp_mix f i h + (f i).toInt64
/-- sizes z, numbers of places n, places f of each paper -/
def sp_dig (z : Nat → Int32) (n : Nat → Nat) (f : Nat → Nat → Int32) : Nat → Int64 → Int64
  | 0, h => h
  | p + 1, h => sp_mix (f p) (n p) (31 * sp_dig z n f p h + (z p).toInt64)
section CS
variable {Ls nz d : Nat} {FI : Nat → Nat → Int32} {FJ : Nat → Nat → Int64} {kp : Nat → Option Nat} {P : Option Value → sr_H → Prop}

theorem c3r_isNumber {p : Int32} (h1 : ∀ k, k < 6 → p = nI k → P (some (.int 1)) (hp Ls nz FI FJ kp)) (h0 : (∀ k, k < 6 → p ≠ nI k) → P (some (.int 0)) (hp Ls nz FI FJ kp)) : sr_Call mX3_isNumber d [.ref 1, .int p] (hp Ls nz FI FJ kp) P := by
  refine jX3_isNumber ?_
  refine sr_ite (c := p < 0) (fun c => ?_) (fun c => ?_)
  · refine jX3_isNumber ?_
    exact ⟨Or.inl rfl, h0 (fun k hk e => by rw [e] at c; exact nI_pos (by omega) c)⟩
  · refine sr_ite (c := p < nI 6) (fun c2 => ?_) (fun c2 => ?_)
    · obtain ⟨k, hk, e⟩ := nI_ltN (by decide) c c2
      refine jX3_isNumber ?_
      exact ⟨Or.inr rfl, h1 k hk e⟩
    · refine jX3_isNumber ?_
      exact ⟨Or.inl rfl, h0 (fun k hk e => c2 (by rw [e]; exact nI_lt hk (by omega)))⟩
theorem c3r_isMissing {a : Nat} {p : Int32} (ha : a < 6) (hp_ : p = nI a) (h1 : FI 2 a < 0 → P (some (.int 1)) (hp Ls nz FI FJ kp)) (h0 : ¬ FI 2 a < 0 → P (some (.int 0)) (hp Ls nz FI FJ kp)) : sr_Call mX3_isMissing d [.ref 1, .int p] (hp Ls nz FI FJ kp) P := by
  refine jX3_isMissing ?_
  refine ⟨a, ⟨hp_, ha⟩, ?_⟩
  refine sr_ite (c := FI 2 a < 0) (fun c => ?_) (fun c => ?_)
  · refine jX3_isMissing ?_
    exact ⟨Or.inr rfl, h1 c⟩
  · refine jX3_isMissing ?_
    exact ⟨Or.inl rfl, h0 c⟩
theorem c3r_isPlace {a : Nat} {p i : Int32} (ha : a < 6) (hp_ : p = nI a) (h1 : ¬ i < 0 → i < FI 2 a → P (some (.int 1)) (hp Ls nz FI FJ kp)) (h0 : (i < 0 ∨ ¬ i < FI 2 a) → P (some (.int 0)) (hp Ls nz FI FJ kp)) : sr_Call mX3_isPlace d [.ref 1, .int p, .int i] (hp Ls nz FI FJ kp) P := by
  refine jX3_isPlace ?_
  refine sr_ite (c := i < 0) (fun c => ?_) (fun c => ?_)
  · refine jX3_isPlace ?_
    exact ⟨Or.inl rfl, h0 (Or.inl c)⟩
  · refine ⟨a, ⟨hp_, ha⟩, ?_⟩
    refine sr_ite (c := i < FI 2 a) (fun c2 => ?_) (fun c2 => ?_)
    · refine jX3_isPlace ?_
      exact ⟨Or.inr rfl, h1 c c2⟩
    · refine jX3_isPlace ?_
      exact ⟨Or.inl rfl, h0 (Or.inr c2)⟩
theorem c3r_arePlaces {a : Nat} {p i n : Int32} (ha : a < 6) (hp_ : p = nI a) (h1 : ¬ i < 0 → ¬ FI 2 a < i → ¬ FI 2 a - i < n → P (some (.int 1)) (hp Ls nz FI FJ kp)) (h0 : (i < 0 ∨ FI 2 a < i ∨ FI 2 a - i < n) → P (some (.int 0)) (hp Ls nz FI FJ kp)) : sr_Call mX3_arePlaces d [.ref 1, .int p, .int i, .int n] (hp Ls nz FI FJ kp) P := by
  refine jX3_arePlaces ?_
  refine sr_ite (c := i < 0) (fun c => ?_) (fun c => ?_)
  · refine jX3_arePlaces ?_
    exact ⟨Or.inl rfl, h0 (Or.inl c)⟩
  · refine ⟨a, ⟨hp_, ha⟩, ?_⟩
    refine sr_ite (c := FI 2 a < i) (fun c2 => ?_) (fun c2 => ?_)
    · refine jX3_arePlaces ?_
      exact ⟨Or.inl rfl, h0 (Or.inr (Or.inl c2))⟩
    · refine ⟨a, ⟨hp_, ha⟩, ?_⟩
      refine sr_ite (c := FI 2 a - i < n) (fun c3 => ?_) (fun c3 => ?_)
      · refine jX3_arePlaces ?_
        exact ⟨Or.inl rfl, h0 (Or.inr (Or.inr c3))⟩
      · refine jX3_arePlaces ?_
        exact ⟨Or.inr rfl, h1 c c2 c3⟩
theorem c3r_sizeOf {a : Nat} {p : Int32} (ha : a < 6) (hp_ : p = nI a) (h : P (some (.int (FI 2 a))) (hp Ls nz FI FJ kp)) : sr_Call mX3_sizeOf d [.ref 1, .int p] (hp Ls nz FI FJ kp) P := by
  refine jX3_sizeOf ?_
  exact ⟨a, ⟨hp_, ha⟩, h⟩
theorem c3r_placeOf {a b : Nat} {p i : Int32} (hw : FI 1 0 = nI 40) (hp_ : p = nI a) (hi : i = nI b) (hb : a * 40 + b < 240) (h : P (some (.int (FI 3 (a * 40 + b)))) (hp Ls nz FI FJ kp)) : sr_Call mX3_placeOf d [.ref 1, .int p, .int i] (hp Ls nz FI FJ kp) P := by
  refine jX3_placeOf ?_
  refine ⟨a * 40 + b, ⟨?_, hb⟩, h⟩
  show p * FI 1 0 + i = _
  rw [hp_, hi, hw, nI_mul, nI_add]
theorem c3r_setPlace {a b : Nat} {p i v : Int32} (hw : FI 1 0 = nI 40) (hp_ : p = nI a) (hi : i = nI b) (hb : a * 40 + b < 240) (h : P none (hp Ls nz (sr_u FI 3 (a * 40 + b) v) FJ kp)) : sr_Call mX3_setPlace d [.ref 1, .int p, .int i, .int v] (hp Ls nz FI FJ kp) P := by
  refine jX3_setPlace ?_
  refine ⟨a * 40 + b, ⟨?_, hb⟩, h⟩
  show p * FI 1 0 + i = _
  rw [hp_, hi, hw, nI_mul, nI_add]
theorem c3r_make_loop {a k : Nat} {v : Int32} (hw : FI 1 0 = nI 40) (ha : a < 6) (hk : k ≤ 40) (h : P none (hp Ls nz (sr_fill FI 3 (a * 40) k v) FJ kp)) : ∀ (m i : Nat) (x : Int32), i + m = k → x = nI i → sr_Go mX3_make (d + 1) 10 [some (.ref 1), some (.int (nI a)), some (.int (nI k)), some (.int v), some (.int x)] [] (0, 0) (hp Ls nz (sr_fill FI 3 (a * 40) i v) FJ kp) P := by
  intro m
  induction m with
  | zero =>
    intro i x hi hx
    refine jX3_make ?_
    refine sr_ite (c := x < nI k) (fun c => ?_) (fun c => ?_)
    · exfalso; rw [hx] at c; have := (nI_ltI (by omega) (by omega)).mp c; omega
    · refine jX3_make ?_
      have : i = k := by omega
      subst this
      exact h
  | succ m ih =>
    intro i x hi hx
    refine jX3_make ?_
    refine sr_ite (c := x < nI k) (fun c => ?_) (fun c => ?_)
    · refine c3r_setPlace (a := a) (b := i) (FI := sr_fill FI 3 (a * 40) i v) hw rfl hx (by omega) ?_
      rw [sr_fill_s]
      refine ih (i + 1) _ (by omega) ?_
      rw [hx]
      exact nI_1 i
    · exfalso; rw [hx] at c; exact c (nI_lt (by omega) (by omega))
theorem c3r_make {a k : Nat} {p n v : Int32} (hw : FI 1 0 = nI 40) (ha : a < 6) (hp_ : p = nI a) (hn : n = nI k) (hk : k ≤ 40) (h : P none (hp Ls nz (sr_fill (sr_u FI 2 a (nI k)) 3 (a * 40) k v) FJ kp)) : sr_Call mX3_make (d + 1) [.ref 1, .int p, .int n, .int v] (hp Ls nz FI FJ kp) P := by
  subst hp_; subst hn
  refine sX3_make [10] ?_
  refine ⟨a, ⟨rfl, ha⟩, ?_⟩
  have := c3r_make_loop (FI := sr_u FI 2 a (nI k)) (d := d) hw ha hk h k 0 0 (by omega) rfl
  rw [sr_fill_0] at this
  exact this
theorem c3r_remove {a : Nat} {p : Int32} (ha : a < 6) (hp_ : p = nI a) (h : P none (hp Ls nz (sr_u FI 2 a (-1)) FJ kp)) : sr_Call mX3_remove d [.ref 1, .int p] (hp Ls nz FI FJ kp) P := by
  refine jX3_remove ?_
  exact ⟨a, ⟨hp_, ha⟩, h⟩
theorem c3r_sumOf_loop {a k : Nat} (hw : FI 1 0 = nI 40) (ha : a < 6) (hk : k ≤ 40) (hz : FI 2 a = nI k) (h : P (some (.long (sp_sum (fun i => FI 3 (a * 40 + i)) k))) (hp Ls nz FI FJ kp)) : ∀ (m i : Nat) (x : Int32) (s : Int64), i + m = k → x = nI i → s = sp_sum (fun i => FI 3 (a * 40 + i)) i → sr_Go mX3_sumOf (d + 1) 5 [some (.ref 1), some (.int (nI a)), some (.long s), none, some (.int x)] [] (0, 0) (hp Ls nz FI FJ kp) P := by
  intro m
  induction m with
  | zero =>
    intro i x s hi hx hs
    refine jX3_sumOf ?_
    refine ⟨a, ⟨rfl, ha⟩, ?_⟩
    refine sr_ite (c := x < FI 2 a) (fun c => ?_) (fun c => ?_)
    · exfalso; rw [hx, hz] at c; have := (nI_ltI (by omega) (by omega)).mp c; omega
    · refine jX3_sumOf ?_
      have : i = k := by omega
      subst this
      rw [← hs] at h
      exact h
  | succ m ih =>
    intro i x s hi hx hs
    refine jX3_sumOf ?_
    refine ⟨a, ⟨rfl, ha⟩, ?_⟩
    refine sr_ite (c := x < FI 2 a) (fun c => ?_) (fun c => ?_)
    · refine c3r_placeOf (a := a) (b := i) hw rfl hx (by omega) ?_
      refine ih (i + 1) _ _ (by omega) ?_ ?_
      · rw [hx]
        exact nI_1 i
      · rw [hs]
        rfl
    · exfalso; rw [hx, hz] at c; exact c (nI_lt (by omega) (by omega))
theorem c3r_sumOf {a k : Nat} {p : Int32} (hw : FI 1 0 = nI 40) (ha : a < 6) (hp_ : p = nI a) (hk : k ≤ 40) (hz : FI 2 a = nI k) (h : P (some (.long (sp_sum (fun i => FI 3 (a * 40 + i)) k))) (hp Ls nz FI FJ kp)) : sr_Call mX3_sumOf (d + 1) [.ref 1, .int p] (hp Ls nz FI FJ kp) P := by
  subst hp_
  refine sX3_sumOf [5] ?_
  exact c3r_sumOf_loop hw ha hk hz h k 0 0 0 (by omega) rfl rfl
theorem c3r_there_loop (h : P (some (.int (nI (sp_cnt (fun k => decide (¬ FI 2 k < 0)) 6)))) (hp Ls nz FI FJ kp)) : ∀ (m i : Nat) (x s : Int32), i + m = 6 → x = nI i → s = nI (sp_cnt (fun k => decide (¬ FI 2 k < 0)) i) → sr_Go mX3_thereCount (d + 1) 4 [some (.ref 1), some (.int s), some (.int x)] [] (0, 0) (hp Ls nz FI FJ kp) P := by
  intro m
  induction m with
  | zero =>
    intro i x s hi hx hs
    refine jX3_thereCount ?_
    refine sr_ite (c := x < nI 6) (fun c => ?_) (fun c => ?_)
    · exfalso; rw [hx] at c; have := (nI_ltI (by omega) (by omega)).mp c; omega
    · refine jX3_thereCount ?_
      have : i = 6 := by omega
      subst this
      rw [← hs] at h
      exact h
  | succ m ih =>
    intro i x s hi hx hs
    refine jX3_thereCount ?_
    refine sr_ite (c := x < nI 6) (fun c => ?_) (fun c => ?_)
    · refine c3r_isMissing (a := i) (by omega) hx (fun c1 => ?_) (fun c1 => ?_)
      · refine jX3_thereCount ?_
        refine ih (i + 1) _ _ (by omega) ?_ ?_
        · rw [hx]; exact nI_1 i
        · rw [hs]; simp [sp_cnt, c1]
      · refine ih (i + 1) _ _ (by omega) ?_ ?_
        · rw [hx]; exact nI_1 i
        · rw [hs]; simp [sp_cnt, c1]; exact nI_1 _
    · exfalso; rw [hx] at c; exact c (nI_lt (by omega) (by omega))
theorem c3r_thereCount (h : P (some (.int (nI (sp_cnt (fun k => decide (¬ FI 2 k < 0)) 6)))) (hp Ls nz FI FJ kp)) : sr_Call mX3_thereCount (d + 1) [.ref 1] (hp Ls nz FI FJ kp) P := by
  refine sX3_thereCount [4] ?_
  exact c3r_there_loop h 6 0 0 0 (by omega) rfl rfl

theorem c3t_isNumber {p : Int32} (h1 : ∀ k, k < 4 → p = nI k → P (some (.int 1)) (hp Ls nz FI FJ kp)) (h0 : (∀ k, k < 4 → p ≠ nI k) → P (some (.int 0)) (hp Ls nz FI FJ kp)) : sr_Call mX3_isNumber d [.ref 4, .int p] (hp Ls nz FI FJ kp) P := by
  refine jX3_isNumber ?_
  refine sr_ite (c := p < 0) (fun c => ?_) (fun c => ?_)
  · refine jX3_isNumber ?_
    exact ⟨Or.inl rfl, h0 (fun k hk e => by rw [e] at c; exact nI_pos (by omega) c)⟩
  · refine sr_ite (c := p < nI 4) (fun c2 => ?_) (fun c2 => ?_)
    · obtain ⟨k, hk, e⟩ := nI_ltN (by decide) c c2
      refine jX3_isNumber ?_
      exact ⟨Or.inr rfl, h1 k hk e⟩
    · refine jX3_isNumber ?_
      exact ⟨Or.inl rfl, h0 (fun k hk e => c2 (by rw [e]; exact nI_lt hk (by omega)))⟩
theorem c3t_isMissing {a : Nat} {p : Int32} (ha : a < 4) (hp_ : p = nI a) (h1 : FI 5 a < 0 → P (some (.int 1)) (hp Ls nz FI FJ kp)) (h0 : ¬ FI 5 a < 0 → P (some (.int 0)) (hp Ls nz FI FJ kp)) : sr_Call mX3_isMissing d [.ref 4, .int p] (hp Ls nz FI FJ kp) P := by
  refine jX3_isMissing ?_
  refine ⟨a, ⟨hp_, ha⟩, ?_⟩
  refine sr_ite (c := FI 5 a < 0) (fun c => ?_) (fun c => ?_)
  · refine jX3_isMissing ?_
    exact ⟨Or.inr rfl, h1 c⟩
  · refine jX3_isMissing ?_
    exact ⟨Or.inl rfl, h0 c⟩
theorem c3t_isPlace {a : Nat} {p i : Int32} (ha : a < 4) (hp_ : p = nI a) (h1 : ¬ i < 0 → i < FI 5 a → P (some (.int 1)) (hp Ls nz FI FJ kp)) (h0 : (i < 0 ∨ ¬ i < FI 5 a) → P (some (.int 0)) (hp Ls nz FI FJ kp)) : sr_Call mX3_isPlace d [.ref 4, .int p, .int i] (hp Ls nz FI FJ kp) P := by
  refine jX3_isPlace ?_
  refine sr_ite (c := i < 0) (fun c => ?_) (fun c => ?_)
  · refine jX3_isPlace ?_
    exact ⟨Or.inl rfl, h0 (Or.inl c)⟩
  · refine ⟨a, ⟨hp_, ha⟩, ?_⟩
    refine sr_ite (c := i < FI 5 a) (fun c2 => ?_) (fun c2 => ?_)
    · refine jX3_isPlace ?_
      exact ⟨Or.inr rfl, h1 c c2⟩
    · refine jX3_isPlace ?_
      exact ⟨Or.inl rfl, h0 (Or.inr c2)⟩
theorem c3t_arePlaces {a : Nat} {p i n : Int32} (ha : a < 4) (hp_ : p = nI a) (h1 : ¬ i < 0 → ¬ FI 5 a < i → ¬ FI 5 a - i < n → P (some (.int 1)) (hp Ls nz FI FJ kp)) (h0 : (i < 0 ∨ FI 5 a < i ∨ FI 5 a - i < n) → P (some (.int 0)) (hp Ls nz FI FJ kp)) : sr_Call mX3_arePlaces d [.ref 4, .int p, .int i, .int n] (hp Ls nz FI FJ kp) P := by
  refine jX3_arePlaces ?_
  refine sr_ite (c := i < 0) (fun c => ?_) (fun c => ?_)
  · refine jX3_arePlaces ?_
    exact ⟨Or.inl rfl, h0 (Or.inl c)⟩
  · refine ⟨a, ⟨hp_, ha⟩, ?_⟩
    refine sr_ite (c := FI 5 a < i) (fun c2 => ?_) (fun c2 => ?_)
    · refine jX3_arePlaces ?_
      exact ⟨Or.inl rfl, h0 (Or.inr (Or.inl c2))⟩
    · refine ⟨a, ⟨hp_, ha⟩, ?_⟩
      refine sr_ite (c := FI 5 a - i < n) (fun c3 => ?_) (fun c3 => ?_)
      · refine jX3_arePlaces ?_
        exact ⟨Or.inl rfl, h0 (Or.inr (Or.inr c3))⟩
      · refine jX3_arePlaces ?_
        exact ⟨Or.inr rfl, h1 c c2 c3⟩
theorem c3t_sizeOf {a : Nat} {p : Int32} (ha : a < 4) (hp_ : p = nI a) (h : P (some (.int (FI 5 a))) (hp Ls nz FI FJ kp)) : sr_Call mX3_sizeOf d [.ref 4, .int p] (hp Ls nz FI FJ kp) P := by
  refine jX3_sizeOf ?_
  exact ⟨a, ⟨hp_, ha⟩, h⟩
theorem c3t_placeOf {a b : Nat} {p i : Int32} (hw : FI 4 0 = nI 60) (hp_ : p = nI a) (hi : i = nI b) (hb : a * 60 + b < 240) (h : P (some (.int (FI 6 (a * 60 + b)))) (hp Ls nz FI FJ kp)) : sr_Call mX3_placeOf d [.ref 4, .int p, .int i] (hp Ls nz FI FJ kp) P := by
  refine jX3_placeOf ?_
  refine ⟨a * 60 + b, ⟨?_, hb⟩, h⟩
  show p * FI 4 0 + i = _
  rw [hp_, hi, hw, nI_mul, nI_add]
theorem c3t_setPlace {a b : Nat} {p i v : Int32} (hw : FI 4 0 = nI 60) (hp_ : p = nI a) (hi : i = nI b) (hb : a * 60 + b < 240) (h : P none (hp Ls nz (sr_u FI 6 (a * 60 + b) v) FJ kp)) : sr_Call mX3_setPlace d [.ref 4, .int p, .int i, .int v] (hp Ls nz FI FJ kp) P := by
  refine jX3_setPlace ?_
  refine ⟨a * 60 + b, ⟨?_, hb⟩, h⟩
  show p * FI 4 0 + i = _
  rw [hp_, hi, hw, nI_mul, nI_add]
theorem c3t_make_loop {a k : Nat} {v : Int32} (hw : FI 4 0 = nI 60) (ha : a < 4) (hk : k ≤ 60) (h : P none (hp Ls nz (sr_fill FI 6 (a * 60) k v) FJ kp)) : ∀ (m i : Nat) (x : Int32), i + m = k → x = nI i → sr_Go mX3_make (d + 1) 10 [some (.ref 4), some (.int (nI a)), some (.int (nI k)), some (.int v), some (.int x)] [] (0, 0) (hp Ls nz (sr_fill FI 6 (a * 60) i v) FJ kp) P := by
  intro m
  induction m with
  | zero =>
    intro i x hi hx
    refine jX3_make ?_
    refine sr_ite (c := x < nI k) (fun c => ?_) (fun c => ?_)
    · exfalso; rw [hx] at c; have := (nI_ltI (by omega) (by omega)).mp c; omega
    · refine jX3_make ?_
      have : i = k := by omega
      subst this
      exact h
  | succ m ih =>
    intro i x hi hx
    refine jX3_make ?_
    refine sr_ite (c := x < nI k) (fun c => ?_) (fun c => ?_)
    · refine c3t_setPlace (a := a) (b := i) (FI := sr_fill FI 6 (a * 60) i v) hw rfl hx (by omega) ?_
      rw [sr_fill_s]
      refine ih (i + 1) _ (by omega) ?_
      rw [hx]
      exact nI_1 i
    · exfalso; rw [hx] at c; exact c (nI_lt (by omega) (by omega))
theorem c3t_make {a k : Nat} {p n v : Int32} (hw : FI 4 0 = nI 60) (ha : a < 4) (hp_ : p = nI a) (hn : n = nI k) (hk : k ≤ 60) (h : P none (hp Ls nz (sr_fill (sr_u FI 5 a (nI k)) 6 (a * 60) k v) FJ kp)) : sr_Call mX3_make (d + 1) [.ref 4, .int p, .int n, .int v] (hp Ls nz FI FJ kp) P := by
  subst hp_; subst hn
  refine sX3_make [10] ?_
  refine ⟨a, ⟨rfl, ha⟩, ?_⟩
  have := c3t_make_loop (FI := sr_u FI 5 a (nI k)) (d := d) hw ha hk h k 0 0 (by omega) rfl
  rw [sr_fill_0] at this
  exact this
theorem c3t_remove {a : Nat} {p : Int32} (ha : a < 4) (hp_ : p = nI a) (h : P none (hp Ls nz (sr_u FI 5 a (-1)) FJ kp)) : sr_Call mX3_remove d [.ref 4, .int p] (hp Ls nz FI FJ kp) P := by
  refine jX3_remove ?_
  exact ⟨a, ⟨hp_, ha⟩, h⟩
theorem c3t_sumOf_loop {a k : Nat} (hw : FI 4 0 = nI 60) (ha : a < 4) (hk : k ≤ 60) (hz : FI 5 a = nI k) (h : P (some (.long (sp_sum (fun i => FI 6 (a * 60 + i)) k))) (hp Ls nz FI FJ kp)) : ∀ (m i : Nat) (x : Int32) (s : Int64), i + m = k → x = nI i → s = sp_sum (fun i => FI 6 (a * 60 + i)) i → sr_Go mX3_sumOf (d + 1) 5 [some (.ref 4), some (.int (nI a)), some (.long s), none, some (.int x)] [] (0, 0) (hp Ls nz FI FJ kp) P := by
  intro m
  induction m with
  | zero =>
    intro i x s hi hx hs
    refine jX3_sumOf ?_
    refine ⟨a, ⟨rfl, ha⟩, ?_⟩
    refine sr_ite (c := x < FI 5 a) (fun c => ?_) (fun c => ?_)
    · exfalso; rw [hx, hz] at c; have := (nI_ltI (by omega) (by omega)).mp c; omega
    · refine jX3_sumOf ?_
      have : i = k := by omega
      subst this
      rw [← hs] at h
      exact h
  | succ m ih =>
    intro i x s hi hx hs
    refine jX3_sumOf ?_
    refine ⟨a, ⟨rfl, ha⟩, ?_⟩
    refine sr_ite (c := x < FI 5 a) (fun c => ?_) (fun c => ?_)
    · refine c3t_placeOf (a := a) (b := i) hw rfl hx (by omega) ?_
      refine ih (i + 1) _ _ (by omega) ?_ ?_
      · rw [hx]
        exact nI_1 i
      · rw [hs]
        rfl
    · exfalso; rw [hx, hz] at c; exact c (nI_lt (by omega) (by omega))
theorem c3t_sumOf {a k : Nat} {p : Int32} (hw : FI 4 0 = nI 60) (ha : a < 4) (hp_ : p = nI a) (hk : k ≤ 60) (hz : FI 5 a = nI k) (h : P (some (.long (sp_sum (fun i => FI 6 (a * 60 + i)) k))) (hp Ls nz FI FJ kp)) : sr_Call mX3_sumOf (d + 1) [.ref 4, .int p] (hp Ls nz FI FJ kp) P := by
  subst hp_
  refine sX3_sumOf [5] ?_
  exact c3t_sumOf_loop hw ha hk hz h k 0 0 0 (by omega) rfl rfl
theorem c3t_there_loop (h : P (some (.int (nI (sp_cnt (fun k => decide (¬ FI 5 k < 0)) 4)))) (hp Ls nz FI FJ kp)) : ∀ (m i : Nat) (x s : Int32), i + m = 4 → x = nI i → s = nI (sp_cnt (fun k => decide (¬ FI 5 k < 0)) i) → sr_Go mX3_thereCount (d + 1) 4 [some (.ref 4), some (.int s), some (.int x)] [] (0, 0) (hp Ls nz FI FJ kp) P := by
  intro m
  induction m with
  | zero =>
    intro i x s hi hx hs
    refine jX3_thereCount ?_
    refine sr_ite (c := x < nI 4) (fun c => ?_) (fun c => ?_)
    · exfalso; rw [hx] at c; have := (nI_ltI (by omega) (by omega)).mp c; omega
    · refine jX3_thereCount ?_
      have : i = 4 := by omega
      subst this
      rw [← hs] at h
      exact h
  | succ m ih =>
    intro i x s hi hx hs
    refine jX3_thereCount ?_
    refine sr_ite (c := x < nI 4) (fun c => ?_) (fun c => ?_)
    · refine c3t_isMissing (a := i) (by omega) hx (fun c1 => ?_) (fun c1 => ?_)
      · refine jX3_thereCount ?_
        refine ih (i + 1) _ _ (by omega) ?_ ?_
        · rw [hx]; exact nI_1 i
        · rw [hs]; simp [sp_cnt, c1]
      · refine ih (i + 1) _ _ (by omega) ?_ ?_
        · rw [hx]; exact nI_1 i
        · rw [hs]; simp [sp_cnt, c1]; exact nI_1 _
    · exfalso; rw [hx] at c; exact c (nI_lt (by omega) (by omega))
theorem c3t_thereCount (h : P (some (.int (nI (sp_cnt (fun k => decide (¬ FI 5 k < 0)) 4)))) (hp Ls nz FI FJ kp)) : sr_Call mX3_thereCount (d + 1) [.ref 4] (hp Ls nz FI FJ kp) P := by
  refine sX3_thereCount [4] ?_
  exact c3t_there_loop h 4 0 0 0 (by omega) rfl rfl
end CS
