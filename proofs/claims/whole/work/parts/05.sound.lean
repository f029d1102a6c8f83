/-! soundness of sr_wp -/
theorem sr_cv_cat (G : sr_G) (v : Value) : (sr_cv G v).category = v.category := by cases v <;> rfl
theorem sr_cat_map (G : sr_G) (rest : List Value) : ((rest.map (sr_cv G)).map fun v => v.category).sum = (rest.map fun v => v.category).sum := by
  rw [List.map_map]
  congr 1
  apply List.map_congr_left
  intro v _
  exact sr_cv_cat G v
theorem sr_inT {w : Cond} (h : w ∈ lw_tbl) (hg : goodWord w = true) : w ∈ sr_T := List.mem_filter.mpr ⟨h, hg⟩
theorem sr_goodIn {ws : List Cond} (h : ∀ w ∈ ws, w ∈ sr_T) : GoodIn sr_T ws := fun w hw => ⟨h w hw, good_of_word (List.mem_filter.mp (h w hw)).2⟩
theorem sr_nw_moved {w : Cond} (hw : w ∈ sr_nw) {s U : State} (hW : s.WarmedH U.vm) (h : va_Nw w s) : va_Nw w U := by
  have h1 := (List.mem_filter.mp hw).2
  cases w <;> first | exact va_Nw.warmM hW h | exact va_Nw.warmF hW h | (simp [sr_nest] at h1; done)
theorem sr_nw_same {w : Cond} (hw : w ∈ sr_nw) {s U : State} (hW : s.vm = U.vm) (h : va_Nw w s) : va_Nw w U := by
  have h1 := (List.mem_filter.mp hw).2
  cases w <;> first | exact va_Nw.same rfl hW h | (simp [sr_nest] at h1; done)
theorem sr_kn_moved {G : sr_G} {s U : State} (hW : s.WarmedH U.vm) (h : sr_kn G s) : sr_kn G U := ⟨va_K.moved hW.alike h.1, fun w hw => sr_nw_moved hw hW (h.2.1 w hw), va_AO.moved hW.alike h.2.2⟩
theorem sr_kn_same {G : sr_G} {s U : State} (hW : s.vm = U.vm) (h : sr_kn G s) : sr_kn G U := ⟨va_K.moved (by rw [hW]; exact Vm.Alike.refl _) h.1, fun w hw => sr_nw_same hw hW (h.2.1 w hw), va_AO.moved (by rw [hW]; exact Vm.Alike.refl _) h.2.2⟩
theorem sr_hw_moved {G : sr_G} {h : sr_H} {s U : State} {H : Heap} (hW : s.vm.Alike U.vm) (w : sr_hw G h s H) : sr_hw G h U H := ⟨w.1, w.2.1, w.2.2.1, w.2.2.2.1, fun r h1 h2 => ⟨(w.2.2.2.2.1 r h1 h2).1, va_T.moved hW (w.2.2.2.2.1 r h1 h2).2⟩, fun i hi => va_Z.moved hW (w.2.2.2.2.2 i hi)⟩
def sr_as (G : sr_G) (L : sr_L) : List (Nat × Value) := (List.range L.length).filterMap (fun i => match L[i]? with
  | some (some v) => some (i, sr_cv G v)
  | _ => none)
theorem sr_mem_as {G : sr_G} {L : sr_L} {q : Nat × Value} : q ∈ sr_as G L ↔ ∃ v, L[q.1]? = some (some v) ∧ q.2 = sr_cv G v := by
  unfold sr_as
  rw [List.mem_filterMap]
  constructor
  · rintro ⟨i, -, h⟩
    split at h
    · next v hv => cases h; exact ⟨v, hv, rfl⟩
    · cases h
  · rintro ⟨v, hv, h2⟩
    refine ⟨q.1, ?_, ?_⟩
    · exact List.mem_range.mpr (List.getElem?_eq_some_iff.mp hv).1
    · rw [hv]
      obtain ⟨a, b⟩ := q
      cases h2
      rfl
theorem sr_lr_has {G : sr_G} {ls : Array Slot} {L : sr_L} (h : sr_lr G ls L) : lv_has ls L.length (sr_as G L) := by
  refine ⟨h.1, h.2.1, fun q hq => ?_⟩
  obtain ⟨v, hv, h2⟩ := sr_mem_as.mp hq
  rw [h2]
  exact h.2.2 _ _ hv
theorem sr_st_spec {L L' : sr_L} {i : Nat} {v : Value} (h : sr_st L i v = some L') : i < L.length ∧ L' = L.set i (some v) ∧ ∀ (j : Nat) (w : Value), i = j + 1 → L[j]? = some (some w) → w.category = 1 := by
  cases i with
  | zero =>
    unfold sr_st at h
    dsimp only at h
    cases hb : Nat.blt 0 L.length with
    | false => rw [hb] at h; cases h
    | true =>
      rw [hb] at h
      cases h
      exact ⟨Nat.le_of_ble_eq_true hb, rfl, fun j w hj => by cases hj⟩
  | succ j =>
    unfold sr_st at h
    dsimp only at h
    have key : (bif Nat.blt (j + 1) L.length then some (L.set (j + 1) (some v)) else none) = some L' → j + 1 < L.length ∧ L' = L.set (j + 1) (some v) := by
      intro h
      cases hb : Nat.blt (j + 1) L.length with
      | false => rw [hb] at h; cases h
      | true =>
        rw [hb] at h
        cases h
        exact ⟨Nat.le_of_ble_eq_true hb, rfl⟩
    split at h
    · cases h
    · cases h
    · next h1 h2 =>
      obtain ⟨a, b⟩ := key h
      refine ⟨a, b, fun k w hk hw => ?_⟩
      cases hk
      cases w <;> first | rfl | exact absurd hw (h1 _) | exact absurd hw (h2 _)
theorem sr_st2_spec {L L' : sr_L} {i : Nat} {v : Value} (h : sr_st2 L i v = some L') : i + 1 < L.length ∧ L' = (L.set i (some v)).set (i + 1) none ∧ ∀ (j : Nat) (w : Value), i = j + 1 → L[j]? = some (some w) → w.category = 1 := by
  cases i with
  | zero =>
    unfold sr_st2 at h
    dsimp only at h
    cases hb : Nat.blt 1 L.length with
    | false => rw [hb] at h; cases h
    | true =>
      rw [hb] at h
      cases h
      exact ⟨Nat.le_of_ble_eq_true hb, rfl, fun j w hj => by cases hj⟩
  | succ j =>
    unfold sr_st2 at h
    dsimp only at h
    have key : (bif Nat.blt (j + 2) L.length then some ((L.set (j + 1) (some v)).set (j + 2) none) else none) = some L' → j + 2 < L.length ∧ L' = (L.set (j + 1) (some v)).set (j + 2) none := by
      intro h
      cases hb : Nat.blt (j + 2) L.length with
      | false => rw [hb] at h; cases h
      | true =>
        rw [hb] at h
        cases h
        exact ⟨Nat.le_of_ble_eq_true hb, rfl⟩
    split at h
    · cases h
    · cases h
    · next h1 h2 =>
      obtain ⟨a, b⟩ := key h
      refine ⟨a, b, fun k w hk hw => ?_⟩
      cases hk
      cases w <;> first | rfl | exact absurd hw (h1 _) | exact absurd hw (h2 _)
theorem sr_lr_st {G : sr_G} {L L' : sr_L} {i : Nat} {v : Value} {ls' : Array Slot} (hs : sr_st L i v = some L') (h' : lv_has ls' L.length ((i, sr_cv G v) :: (sr_as G L).filter (fun q => !(q.1 == i) && !(q.1 + 1 == i && q.2.category == 2)))) : sr_lr G ls' L' := by
  obtain ⟨h1, rfl, h3⟩ := sr_st_spec hs
  refine ⟨by rw [h'.1, List.length_set], h'.2.1, fun j w hj => ?_⟩
  by_cases hij : i = j
  · subst hij
    rw [List.getElem?_set_self h1] at hj
    cases hj
    exact h'.2.2 (i, sr_cv G v) List.mem_cons_self
  · rw [List.getElem?_set_ne hij] at hj
    refine h'.2.2 (j, sr_cv G w) (List.mem_cons_of_mem _ (List.mem_filter.mpr ⟨sr_mem_as.mpr ⟨w, hj, rfl⟩, ?_⟩))
    have e1 : (j == i) = false := by simpa using fun e => hij e.symm
    by_cases e2 : j + 1 = i
    · have := h3 j w e2.symm hj
      simp [e1, sr_cv_cat, this]
    · simp [e1, e2]
theorem sr_lr_st2 {G : sr_G} {L L' : sr_L} {i : Nat} {v : Value} {ls' : Array Slot} (hs : sr_st2 L i v = some L') (h' : lv_has ls' L.length ((i, sr_cv G v) :: (sr_as G L).filter (fun q => !(q.1 == i) && (!(q.1 == i + 1) && !(q.1 + 1 == i && q.2.category == 2))))) : sr_lr G ls' L' := by
  obtain ⟨h1, rfl, h3⟩ := sr_st2_spec hs
  refine ⟨by rw [h'.1, List.length_set, List.length_set], h'.2.1, fun j w hj => ?_⟩
  by_cases hij1 : i + 1 = j
  · subst hij1
    rw [List.getElem?_set_self (by rw [List.length_set]; exact h1)] at hj
    cases hj
  · rw [List.getElem?_set_ne hij1] at hj
    by_cases hij : i = j
    · subst hij
      rw [List.getElem?_set_self (by omega)] at hj
      cases hj
      exact h'.2.2 (i, sr_cv G v) List.mem_cons_self
    · rw [List.getElem?_set_ne hij] at hj
      refine h'.2.2 (j, sr_cv G w) (List.mem_cons_of_mem _ (List.mem_filter.mpr ⟨sr_mem_as.mpr ⟨w, hj, rfl⟩, ?_⟩))
      have e1 : (j == i) = false := by simpa using fun e => hij e.symm
      have e3 : (j == i + 1) = false := by simpa using fun e => hij1 e.symm
      by_cases e2 : j + 1 = i
      · have := h3 j w e2.symm hj
        simp [e1, e3, sr_cv_cat, this]
      · simp [e1, e3, e2]
theorem sr_k8 {n : Int} (h1 : -128 ≤ n) (h2 : n < 128) : (Int8.ofInt n).toInt32 = sr_k n := by
  apply Int32.toInt_inj.mp
  unfold sr_k
  rw [Int8.toInt_toInt32, Int8.toInt_ofInt_of_le (by omega) (by omega), Int32.toInt_ofInt_of_le (by omega) (by omega)]
theorem sr_k16 {n : Int} (h1 : -32768 ≤ n) (h2 : n < 32768) : (Int16.ofInt n).toInt32 = sr_k n := by
  apply Int32.toInt_inj.mp
  unfold sr_k
  rw [Int16.toInt_toInt32, Int16.toInt_ofInt_of_le (by omega) (by omega), Int32.toInt_ofInt_of_le (by omega) (by omega)]

/-! instructions on locals and stack -/
theorem sr_lkI {own k : Nat} {v : Int32} (ho : own < 9) (h : (sr_ics own).lookup k = some v) : Cond.constant (sr_R own) k v ∈ sr_T := sr_inT (sr_ics_ok ho _ (sr_lookup h)) rfl
theorem sr_lkL {own k : Nat} {v : Int64} (ho : own < 9) (h : (sr_lcs own).lookup k = some v) : Cond.constantLong (sr_R own) k v ∈ sr_T := sr_inT (sr_lcs_ok ho _ (sr_lookup h)) rfl
section SG
variable {md : sr_MD} {d pc nx : Nat} {L L' : sr_L} {st st' : List Value} {b : Nat × Nat} {h : sr_H} {P : Option Value → sr_H → Prop}
theorem sg_ldI {i : Nat} {G : sr_G} {ls : Array Slot} (hs : sr_ldI L i st = some (L', st')) (lr : sr_lr G ls L) : ∃ x, ls[i]? = some (.val (.int x)) ∧ L' = L ∧ st' = .int x :: st := by
  unfold sr_ldI at hs
  split at hs
  · next x hx => cases hs; exact ⟨x, lr.2.2 _ _ hx, rfl, rfl⟩
  · cases hs
theorem sg_ldJ {i : Nat} {G : sr_G} {ls : Array Slot} (hs : sr_ldJ L i st = some (L', st')) (lr : sr_lr G ls L) : ∃ x, ls[i]? = some (.val (.long x)) ∧ L' = L ∧ st' = .long x :: st := by
  unfold sr_ldJ at hs
  split at hs
  · next x hx => cases hs; exact ⟨x, lr.2.2 _ _ hx, rfl, rfl⟩
  · cases hs
theorem sg_ldR {i : Nat} {G : sr_G} {ls : Array Slot} (hs : sr_ldR L i st = some (L', st')) (lr : sr_lr G ls L) : (∃ x, ls[i]? = some (.val (.ref (sr_cr G x))) ∧ L' = L ∧ st' = .ref x :: st) ∨ (ls[i]? = some (.val .null) ∧ L' = L ∧ st' = .null :: st) := by
  unfold sr_ldR at hs
  split at hs
  · next x hx => cases hs; exact Or.inl ⟨x, lr.2.2 _ _ hx, rfl, rfl⟩
  · next hx => cases hs; exact Or.inr ⟨lr.2.2 _ _ hx, rfl, rfl⟩
  · cases hs
theorem sg_stI {i : Nat} (hs : sr_stI L i st = some (L', st')) : ∃ x, st = .int x :: st' ∧ sr_st L i (.int x) = some L' := by
  unfold sr_stI at hs
  split at hs
  · next x rest =>
    cases hq : sr_st L i (.int x) with
    | none => rw [hq] at hs; cases hs
    | some z => rw [hq] at hs; cases hs; exact ⟨x, rfl, hq⟩
  · cases hs
theorem sg_stJ {i : Nat} (hs : sr_stJ L i st = some (L', st')) : ∃ x, st = .long x :: st' ∧ sr_st2 L i (.long x) = some L' := by
  unfold sr_stJ at hs
  split at hs
  · next x rest =>
    cases hq : sr_st2 L i (.long x) with
    | none => rw [hq] at hs; cases hs
    | some z => rw [hq] at hs; cases hs; exact ⟨x, rfl, hq⟩
  · cases hs
theorem sg_stR {i : Nat} (hs : sr_stR L i st = some (L', st')) : (∃ x, st = .ref x :: st' ∧ sr_st L i (.ref x) = some L') ∨ (st = .null :: st' ∧ sr_st L i .null = some L') := by
  unfold sr_stR at hs
  split at hs
  · next x rest =>
    cases hq : sr_st L i (.ref x) with
    | none => rw [hq] at hs; cases hs
    | some z => rw [hq] at hs; cases hs; exact Or.inl ⟨x, rfl, hq⟩
  · next rest =>
    cases hq : sr_st L i .null with
    | none => rw [hq] at hs; cases hs
    | some z => rw [hq] at hs; cases hs; exact Or.inr ⟨rfl, rfl⟩
  · cases hs
theorem sg_bin {f : Int32 → Int32 → Int32} (hs : sr_bin L st f = some (L', st')) : ∃ x y rest, st = .int y :: .int x :: rest ∧ L' = L ∧ st' = .int (f x y) :: rest := by
  unfold sr_bin at hs
  split at hs
  · next y x rest => cases hs; exact ⟨x, y, rest, rfl, rfl, rfl⟩
  · cases hs
theorem sg_binJ {f : Int64 → Int64 → Int64} (hs : sr_binJ L st f = some (L', st')) : ∃ x y rest, st = .long y :: .long x :: rest ∧ L' = L ∧ st' = .long (f x y) :: rest := by
  unfold sr_binJ at hs
  split at hs
  · next y x rest => cases hs; exact ⟨x, y, rest, rfl, rfl, rfl⟩
  · cases hs
theorem sr_st_len {i : Nat} {v : Value} (h : sr_st L i v = some L') : L'.length = L.length := by rw [(sr_st_spec h).2.1, List.length_set]
theorem sr_st2_len {i : Nat} {v : Value} (h : sr_st2 L i v = some L') : L'.length = L.length := by rw [(sr_st2_spec h).2.1, List.length_set, List.length_set]
theorem sr_ldI_len {i : Nat} (hs : sr_ldI L i st = some (L', st')) : L'.length = L.length := by
  unfold sr_ldI at hs
  split at hs
  · cases hs; rfl
  · cases hs
theorem sr_ldJ_len {i : Nat} (hs : sr_ldJ L i st = some (L', st')) : L'.length = L.length := by
  unfold sr_ldJ at hs
  split at hs
  · cases hs; rfl
  · cases hs
theorem sr_ldR_len {i : Nat} (hs : sr_ldR L i st = some (L', st')) : L'.length = L.length := by
  unfold sr_ldR at hs
  split at hs
  · cases hs; rfl
  · cases hs; rfl
  · cases hs
set_option maxHeartbeats 4000000 in
theorem sr_sim_len {own : Nat} {i : Instr} (hs : sr_sim own i L st = some (L', st')) : L'.length = L.length := by
  cases i with
  | iload_n i => exact sr_ldI_len hs
  | iload i => exact sr_ldI_len hs
  | lload_n i => exact sr_ldJ_len hs
  | lload i => exact sr_ldJ_len hs
  | aload_n i => exact sr_ldR_len hs
  | aload i => exact sr_ldR_len hs
  | istore_n i => obtain ⟨x, rfl, h1⟩ := sg_stI hs; exact sr_st_len h1
  | istore i => obtain ⟨x, rfl, h1⟩ := sg_stI hs; exact sr_st_len h1
  | lstore_n i => obtain ⟨x, rfl, h1⟩ := sg_stJ hs; exact sr_st2_len h1
  | lstore i => obtain ⟨x, rfl, h1⟩ := sg_stJ hs; exact sr_st2_len h1
  | astore_n i => rcases sg_stR hs with ⟨x, rfl, h1⟩ | ⟨rfl, h1⟩ <;> exact sr_st_len h1
  | astore i => rcases sg_stR hs with ⟨x, rfl, h1⟩ | ⟨rfl, h1⟩ <;> exact sr_st_len h1
  | iinc i n =>
    simp only [sr_sim] at hs
    split at hs
    · next x hx1 =>
      cases hq : sr_st L i (.int (x + sr_k n)) with
      | none => rw [hq] at hs; cases hs
      | some z => rw [hq] at hs; cases hs; exact sr_st_len hq
    · cases hs
  | iadd => obtain ⟨x, y, rest, rfl, rfl, rfl⟩ := sg_bin hs; rfl
  | isub => obtain ⟨x, y, rest, rfl, rfl, rfl⟩ := sg_bin hs; rfl
  | imul => obtain ⟨x, y, rest, rfl, rfl, rfl⟩ := sg_bin hs; rfl
  | iand => obtain ⟨x, y, rest, rfl, rfl, rfl⟩ := sg_bin hs; rfl
  | ior => obtain ⟨x, y, rest, rfl, rfl, rfl⟩ := sg_bin hs; rfl
  | ixor => obtain ⟨x, y, rest, rfl, rfl, rfl⟩ := sg_bin hs; rfl
  | ishl => obtain ⟨x, y, rest, rfl, rfl, rfl⟩ := sg_bin hs; rfl
  | ishr => obtain ⟨x, y, rest, rfl, rfl, rfl⟩ := sg_bin hs; rfl
  | iushr => obtain ⟨x, y, rest, rfl, rfl, rfl⟩ := sg_bin hs; rfl
  | ladd => obtain ⟨x, y, rest, rfl, rfl, rfl⟩ := sg_binJ hs; rfl
  | lmul => obtain ⟨x, y, rest, rfl, rfl, rfl⟩ := sg_binJ hs; rfl
  | bipush n =>
    simp only [sr_sim] at hs
    cases hq : (decide (-128 ≤ n) && decide (n < 128)) <;> (rw [hq] at hs; cases hs)
    rfl
  | sipush n =>
    simp only [sr_sim] at hs
    cases hq : (decide (-32768 ≤ n) && decide (n < 32768)) <;> (rw [hq] at hs; cases hs)
    rfl
  | iconst n => cases hs; rfl
  | lconst n => cases hs; rfl
  | _ => first | (simp [sr_sim] at hs; done) | (simp only [sr_sim] at hs; split at hs <;> cases hs <;> rfl)
set_option maxHeartbeats 4000000 in
theorem sg_sim {i : Instr} (hn : nx = pc + sr_len i (nx - pc)) (hd : decode md.2.2.1 pc = .ok (i, sr_len i (nx - pc))) (hs : sr_sim md.1 i L st = some (L', st')) (k : sr_Go md d nx L' st' b h P) : sr_Go md d pc L st b h P := by
  generalize nx - pc = z at hn hd
  intro G p l e R s m args below meth c H locs cells slots Q ls F Rt hw lr hlen hlc hc1 hc2
  obtain ⟨hx, hb, hr, hml, hown, hts, hlk, hnm, hK, hd1, hd2, ho⟩ := id F
  have kk : ∀ ls', sr_lr G ls' L' → W p l e R s m args below meth c H locs cells slots Q (F0 m nx ls' (st'.map (sr_cv G))) := fun ls' lr' => k G p l e R s m args below meth c H locs cells slots Q ls' F Rt hw lr' ((sr_sim_len hs).trans hlen) hlc hc1 hc2
  cases i with
  | iconst n => cases hs; subst hn; exact lv_iconst hx hb hd rfl (kk ls lr)
  | bipush n =>
    simp only [sr_sim] at hs
    cases hq : (decide (-128 ≤ n) && decide (n < 128)) with
    | false => rw [hq] at hs; cases hs
    | true =>
      rw [hq] at hs; cases hs; subst hn
      simp only [Bool.and_eq_true, decide_eq_true_eq] at hq
      exact lv_bipush hx hb hd (sr_k8 hq.1 hq.2) (kk ls lr)
  | sipush n =>
    simp only [sr_sim] at hs
    cases hq : (decide (-32768 ≤ n) && decide (n < 32768)) with
    | false => rw [hq] at hs; cases hs
    | true =>
      rw [hq] at hs; cases hs; subst hn
      simp only [Bool.and_eq_true, decide_eq_true_eq] at hq
      exact lv_sipush hx hb hd (sr_k16 hq.1 hq.2) (kk ls lr)
  | lconst n => cases hs; subst hn; exact lv_lconst hx hb hd rfl (kk ls lr)
  | ldc i =>
    simp only [sr_sim] at hs
    split at hs
    · next v hv => cases hs; subst hn; exact lv_ldc hx hb hown (hts _ (sr_lkI ho hv)) hd (kk ls lr)
    · cases hs
  | ldc_w i =>
    simp only [sr_sim] at hs
    split at hs
    · next v hv => cases hs; subst hn; exact lv_ldcw hx hb hown (hts _ (sr_lkI ho hv)) hd (kk ls lr)
    · cases hs
  | ldc2_w i =>
    simp only [sr_sim] at hs
    split at hs
    · next v hv => cases hs; subst hn; exact lv_ldc2 hx hb hown (hts _ (sr_lkL ho hv)) hd (kk ls lr)
    · cases hs
  | iload_n i => obtain ⟨x, h1, rfl, rfl⟩ := sg_ldI hs lr; subst hn; exact lv_iload_n hx hb hd rfl h1 (kk ls lr)
  | iload i => obtain ⟨x, h1, rfl, rfl⟩ := sg_ldI hs lr; subst hn; exact lv_iload hx hb hd h1 (kk ls lr)
  | lload_n i => obtain ⟨x, h1, rfl, rfl⟩ := sg_ldJ hs lr; subst hn; exact lv_lload_n hx hb hd rfl h1 (kk ls lr)
  | lload i => obtain ⟨x, h1, rfl, rfl⟩ := sg_ldJ hs lr; subst hn; exact lv_lload hx hb hd h1 (kk ls lr)
  | aload_n i =>
    rcases sg_ldR hs lr with ⟨x, h1, rfl, rfl⟩ | ⟨h1, rfl, rfl⟩
    · subst hn; exact lv_aload_n hx hb hd rfl h1 (kk ls lr)
    · subst hn; exact lv_aload_nN hx hb hd rfl h1 (kk ls lr)
  | aload i =>
    rcases sg_ldR hs lr with ⟨x, h1, rfl, rfl⟩ | ⟨h1, rfl, rfl⟩
    · subst hn; exact lv_aload hx hb hd h1 (kk ls lr)
    · subst hn; exact lv_aloadN hx hb hd h1 (kk ls lr)
  | istore_n i => obtain ⟨x, rfl, h1⟩ := sg_stI hs; subst hn; exact lv_istore_n hx hb hd rfl (sr_lr_has lr) (sr_st_spec h1).1 rfl (fun ls' q => kk ls' (sr_lr_st h1 q))
  | istore i => obtain ⟨x, rfl, h1⟩ := sg_stI hs; subst hn; exact lv_istore hx hb hd (sr_lr_has lr) (sr_st_spec h1).1 rfl (fun ls' q => kk ls' (sr_lr_st h1 q))
  | lstore_n i => obtain ⟨x, rfl, h1⟩ := sg_stJ hs; subst hn; exact lv_lstore_n hx hb hd rfl (sr_lr_has lr) (sr_st2_spec h1).1 rfl (fun ls' q => kk ls' (sr_lr_st2 h1 q))
  | lstore i => obtain ⟨x, rfl, h1⟩ := sg_stJ hs; subst hn; exact lv_lstore hx hb hd (sr_lr_has lr) (sr_st2_spec h1).1 rfl (fun ls' q => kk ls' (sr_lr_st2 h1 q))
  | astore_n i =>
    rcases sg_stR hs with ⟨x, rfl, h1⟩ | ⟨rfl, h1⟩
    · subst hn; exact lv_astore_n hx hb hd rfl (sr_lr_has lr) (sr_st_spec h1).1 rfl (fun ls' q => kk ls' (sr_lr_st h1 q))
    · subst hn; exact lv_astore_nN hx hb hd rfl (sr_lr_has lr) (sr_st_spec h1).1 rfl (fun ls' q => kk ls' (sr_lr_st h1 q))
  | astore i =>
    rcases sg_stR hs with ⟨x, rfl, h1⟩ | ⟨rfl, h1⟩
    · subst hn; exact lv_astore hx hb hd (sr_lr_has lr) (sr_st_spec h1).1 rfl (fun ls' q => kk ls' (sr_lr_st h1 q))
    · subst hn; exact lv_astoreN hx hb hd (sr_lr_has lr) (sr_st_spec h1).1 rfl (fun ls' q => kk ls' (sr_lr_st h1 q))
  | iinc i n =>
    simp only [sr_sim] at hs
    split at hs
    · next x hx1 =>
      cases hq : sr_st L i (.int (x + sr_k n)) with
      | none => rw [hq] at hs; cases hs
      | some z =>
        rw [hq] at hs; cases hs; subst hn
        obtain ⟨k9, hk9⟩ := List.getElem?_of_mem (sr_mem_as (G := G) (q := (i, .int x)).mpr ⟨.int x, hx1, rfl⟩)
        exact lv_iinc hx hb hd (sr_lr_has lr) hk9 rfl (sr_st_spec hq).1 rfl (fun ls' q => kk ls' (sr_lr_st hq q))
    · cases hs
  | iadd => obtain ⟨x, y, rest, rfl, rfl, rfl⟩ := sg_bin hs; subst hn; exact lv_iadd hx hb hd (kk ls lr)
  | isub => obtain ⟨x, y, rest, rfl, rfl, rfl⟩ := sg_bin hs; subst hn; exact lv_isub hx hb hd (kk ls lr)
  | imul => obtain ⟨x, y, rest, rfl, rfl, rfl⟩ := sg_bin hs; subst hn; exact lv_imul hx hb hd (kk ls lr)
  | iand => obtain ⟨x, y, rest, rfl, rfl, rfl⟩ := sg_bin hs; subst hn; exact lv_iand hx hb hd (kk ls lr)
  | ior => obtain ⟨x, y, rest, rfl, rfl, rfl⟩ := sg_bin hs; subst hn; exact lv_ior hx hb hd (kk ls lr)
  | ixor => obtain ⟨x, y, rest, rfl, rfl, rfl⟩ := sg_bin hs; subst hn; exact lv_ixor hx hb hd (kk ls lr)
  | ishl => obtain ⟨x, y, rest, rfl, rfl, rfl⟩ := sg_bin hs; subst hn; exact lv_ishl hx hb hd (kk ls lr)
  | ishr => obtain ⟨x, y, rest, rfl, rfl, rfl⟩ := sg_bin hs; subst hn; exact lv_ishr hx hb hd (kk ls lr)
  | iushr => obtain ⟨x, y, rest, rfl, rfl, rfl⟩ := sg_bin hs; subst hn; exact lv_iushr hx hb hd rfl (kk ls lr)
  | ladd => obtain ⟨x, y, rest, rfl, rfl, rfl⟩ := sg_binJ hs; subst hn; exact lv_ladd hx hb hd (kk ls lr)
  | lmul => obtain ⟨x, y, rest, rfl, rfl, rfl⟩ := sg_binJ hs; subst hn; exact lv_lmul hx hb hd (kk ls lr)
  | lcmp =>
    simp only [sr_sim] at hs
    split at hs
    · cases hs; subst hn; exact W.lcmp hx hb hd (kk ls lr)
    · cases hs
  | i2l =>
    simp only [sr_sim] at hs
    split at hs
    · cases hs; subst hn; exact lv_i2l hx hb hd rfl (kk ls lr)
    · cases hs
  | l2i =>
    simp only [sr_sim] at hs
    split at hs
    · cases hs; subst hn; exact lv_l2i hx hb hd rfl (kk ls lr)
    · cases hs
  | i2b =>
    simp only [sr_sim] at hs
    split at hs
    · cases hs; subst hn; exact lv_i2b hx hb hd rfl (kk ls lr)
    · cases hs
  | dup =>
    simp only [sr_sim] at hs
    split at hs
    · cases hs; subst hn; exact lv_dup hx hb hd rfl (kk ls lr)
    · cases hs; subst hn; exact lv_dup hx hb hd rfl (kk ls lr)
    · cases hs
  | dup2 =>
    simp only [sr_sim] at hs
    split at hs
    · cases hs; subst hn; exact lv_dup2_11 hx hb hd rfl rfl (kk ls lr)
    · cases hs
  | pop =>
    simp only [sr_sim] at hs
    split at hs
    · cases hs; subst hn; exact lv_pop hx hb hd rfl (kk ls lr)
    · cases hs
  | _ => simp [sr_sim] at hs
end SG
