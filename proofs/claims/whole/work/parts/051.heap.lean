/-! the heap's instructions -/
def sr_tyc (t : FieldType) : Nat := match t with
  | .int => 0
  | .long => 1
  | .object _ => 2
  | .array _ => 2
  | _ => 9
theorem sr_cl {ci : Nat} {C : String} {T : u_T} {N : Nat} (h : vwCl[ci]? = some (C, T, N)) : ci < 6 ∧ C = sr_R ci ∧ (∀ w ∈ u_ws C T N, w ∈ sr_T) ∧ N = (sr_ts ci).length ∧ (∀ k, k < N → (T k).1 = sr_R ci) ∧ ∃ ty : Nat → FieldType, (∀ k, k < N → parseFieldDescriptor (T k).2.2.1 = some (ty k)) ∧ (∀ a, a < N → ∀ b, b < N → a ≠ b → (T a).2.1 ≠ (T b).2.1) ∧ ∀ k, k < N → sr_tyc (ty k) = (sr_ts ci).getD k 0 := by
  have good : ∀ {C : String} {T : u_T} {N : Nat}, (∀ w ∈ u_ws C T N, w ∈ lw_tbl) → ∀ w ∈ u_ws C T N, w ∈ sr_T := by
    intro C T N h w hw
    refine sr_inT (h w hw) ?_
    obtain ⟨k, -, rfl⟩ := List.mem_map.mp hw
    unfold u_lay
    split <;> rfl
  match ci, h with
  | 0, h => cases h; exact ⟨by decide, rfl, good sr_c_0, rfl, by decide +kernel, tyX0, tyX0_ok, nmX0, by decide +kernel⟩
  | 1, h => cases h; exact ⟨by decide, rfl, good sr_c_1, rfl, by decide +kernel, tyX1, tyX1_ok, nmX1, by decide +kernel⟩
  | 2, h => cases h; exact ⟨by decide, rfl, good sr_c_2, rfl, by decide +kernel, tyX2, tyX2_ok, nmX2, by decide +kernel⟩
  | 3, h => cases h; exact ⟨by decide, rfl, good sr_c_3, rfl, by decide +kernel, tyX3, tyX3_ok, nmX3, by decide +kernel⟩
  | 4, h => cases h; exact ⟨by decide, rfl, good sr_c_4, rfl, by decide +kernel, tyX4, tyX4_ok, nmX4, by decide +kernel⟩
  | 5, h => cases h; exact ⟨by decide, rfl, good sr_c_5, rfl, by decide +kernel, tyX5, tyX5_ok, nmX5, by decide +kernel⟩
  | n + 6, h => simp [vwCl] at h
theorem sr_cv_av (G : sr_G) (h : sr_H) (r k t : Nat) : sr_cv G (sr_av h r k t) = sr_fv G h r k t := by
  unfold sr_av sr_fv
  split
  · rfl
  · rfl
  · cases h.2.2.2.2 r k <;> rfl
theorem sr_fs_len (G : sr_G) (h : sr_H) (r c : Nat) : (sr_fs G h r c).length = (sr_ts c).length := by simp [sr_fs]
theorem sr_fs_at (G : sr_G) (h : sr_H) (r c : Nat) {k : Nat} (hk : k < (sr_ts c).length) : (sr_fs G h r c)[k]? = some (sr_fv G h r k ((sr_ts c).getD k 0)) := by
  unfold sr_fs
  rw [List.getElem?_map, List.getElem?_range hk]
  rfl
theorem sr_ce_obj {G : sr_G} {h : sr_H} {r c : Nat} (hk : (h.2.1 r).1 = c) (hc : c < 6) : sr_ce G h r = .inr (c, sr_fs G h r c) := by
  unfold sr_ce
  rw [hk, if_neg (by omega), if_neg (by omega)]
theorem sr_ce_int {G : sr_G} {h : sr_H} {r c : Nat} (hk : (h.2.1 r).1 = c) (hc : 6 ≤ c) (hc2 : c < 9) : sr_ce G h r = .inl (G.2.2.1 c, (h.2.1 r).2, .inl (h.2.2.1 r)) := by
  unfold sr_ce
  rw [hk, if_neg (by omega), if_pos hc]
theorem sr_ce_ref {G : sr_G} {h : sr_H} {r : Nat} (hk : (h.2.1 r).1 = 9) : sr_ce G h r = .inl (G.2.2.1 9, (h.2.1 r).2, .inr (.inr (.inr (.inr (fun j => (h.2.2.2.2 r j).map (sr_cr G)))))) := by
  unfold sr_ce
  rw [if_pos hk]
theorem sr_ce_congr {G : sr_G} {h h' : sr_H} {r : Nat} (h1 : h'.2.1 r = h.2.1 r) (h2 : h'.2.2.1 r = h.2.2.1 r) (h3 : h'.2.2.2.1 r = h.2.2.2.1 r) (h4 : h'.2.2.2.2 r = h.2.2.2.2 r) : sr_ce G h' r = sr_ce G h r := by
  unfold sr_ce sr_fs sr_fv
  rw [h1, h2, h3, h4]
theorem sr_cr_lo {G : sr_G} {r : Nat} (h : r < 1000000) : sr_cr G r = G.1 + r := if_pos h
/-- one cell has changed -/
theorem sr_hw_set {G : sr_G} {h h' : sr_H} {s : State} {H H1 : Heap} {r : Nat} (w : sr_hw G h s H) (hn : h'.1 = h.1) (hK : h'.2.1 = h.2.1) (hr : r < 1000000) (ho2 : ∀ q, q ≠ r → h'.2.2.1 q = h.2.2.1 q) (ho3 : ∀ q, q ≠ r → h'.2.2.2.1 q = h.2.2.2.1 q) (ho4 : ∀ q, q ≠ r → h'.2.2.2.2 q = h.2.2.2.2 q)
    (e : va_at G.2.1 vwCl (G.1 + r, sr_ce G h' r) H1) (z : H1.size = H.size) (oq : ∀ q, q ≠ G.1 + r → H1[q]? = H[q]?) : sr_hw G h' s H1 := by
  obtain ⟨w1, w2, w3, w4, w5, w6⟩ := w
  refine ⟨by rw [z, w1, hn], by rw [hn]; exact w2, fun q hq hq2 => ?_, fun q => by rw [hK]; exact w4 q, fun q hq hq2 => ?_, fun i hi => ?_⟩
  · rw [hK] at hq
    obtain ⟨a1, a2⟩ := w3 q hq hq2
    refine ⟨by rw [hn]; exact a1, ?_⟩
    by_cases hqr : q = r
    · subst hqr; exact e
    · rw [sr_ce_congr (h := h) (by rw [hK]) (ho2 q hqr) (ho3 q hqr) (ho4 q hqr)]
      exact a2.kept (oq _ (by show G.1 + q ≠ G.1 + r; omega))
  · rw [hK] at hq ⊢
    obtain ⟨a1, a2⟩ := w5 q hq hq2
    refine ⟨a1, ?_⟩
    rw [ho2 q (by omega)]
    exact a2.kept (fun a _ h2 => oq a (fun e9 => h2 (by rw [e9]; omega)))
  · exact (w6 i hi).kept (fun a _ h2 => oq a (fun e9 => h2 (by rw [e9]; omega)))
/-- one cell has come -/
theorem sr_hw_new {G : sr_G} {h : sr_H} {s : State} {H H1 : Heap} {kd : Nat × Nat} (w : sr_hw G h s H) (hn : h.1 < 1000000) (hk2 : kd.2 < 2147483648)
    (e : va_at G.2.1 vwCl (G.1 + h.1, sr_ce G (sr_new h kd) h.1) H1) (z : H1.size = H.size + 1) (oq : ∀ q, q < H.size → H1[q]? = H[q]?) : sr_hw G (sr_new h kd) s H1 := by
  obtain ⟨w1, w2, w3, w4, w5, w6⟩ := w
  have hK : ∀ q, q ≠ h.1 → (sr_new h kd).2.1 q = h.2.1 q := fun q hq => if_neg hq
  have h2 : ∀ q, q ≠ h.1 → (sr_new h kd).2.2.1 q = h.2.2.1 q := fun q hq => by funext k; exact if_neg hq
  have h3 : ∀ q, q ≠ h.1 → (sr_new h kd).2.2.2.1 q = h.2.2.2.1 q := fun q hq => by funext k; exact if_neg hq
  have h4 : ∀ q, q ≠ h.1 → (sr_new h kd).2.2.2.2 q = h.2.2.2.2 q := fun q hq => by funext k; exact if_neg hq
  refine ⟨by rw [z, w1]; rfl, hn, fun q hq hq2 => ?_, fun q => ?_, fun q hq hq2 => ?_, fun i hi => ?_⟩
  · by_cases hqr : q = h.1
    · subst hqr; exact ⟨Nat.lt_succ_self _, e⟩
    · rw [hK q hqr] at hq
      obtain ⟨a1, a2⟩ := w3 q hq hq2
      refine ⟨Nat.lt_succ_of_lt a1, ?_⟩
      rw [sr_ce_congr (hK q hqr) (h2 q hqr) (h3 q hqr) (h4 q hqr)]
      exact a2.kept (oq _ a2.lt)
  · by_cases hqr : q = h.1
    · subst hqr; show (if h.1 = h.1 then kd else h.2.1 h.1).2 < _; rw [if_pos rfl]; exact hk2
    · rw [hK q hqr]; exact w4 q
  · have hqr : q ≠ h.1 := by omega
    rw [hK q hqr] at hq ⊢
    obtain ⟨a1, a2⟩ := w5 q hq hq2
    refine ⟨a1, ?_⟩
    rw [h2 q hqr]
    exact a2.kept (fun a h1 _ => oq a h1)
  · exact (w6 i hi).kept (fun a h1 _ => oq a h1)
section SP
variable {p : Program} {l : Launch} {e : Env} {R : Room} {s : State} {m : MethodId} {args : Array Value} {below : List Frame} {meth : Method} {c : Code} {H : Heap} {locs : List Loc} {cells slots : Nat} {Q : State → Prop}
variable {cc : ByteArray} {pc : Nat} {ls : Array Slot} {rest : List Value} {D : va_G} {cl : List vw_C} {a : Nat} {tys : List (ClassId × FieldType)}
theorem sr_put (hexec : p.tables.exec = Jvm.exec) (hb : c.code = cc) {own C : String} {T : u_T} {N ci index : Nat} {Ts : List Cond} (hts : ∀ w ∈ Ts, w.before args s = true) (hin : ∀ w ∈ u_ws C T N, w ∈ Ts) (ty0 : Nat → FieldType) (hty : ∀ k, k < N → parseFieldDescriptor (T k).2.2.1 = some (ty0 k)) (hnm : ∀ a, a < N → ∀ b, b < N → a ≠ b → (T a).2.1 ≠ (T b).2.1) (hown : s.vm.findClass own = some m.cls) (hK : va_K D cl tys s) {fs : List Value} (he : va_at D cl (a, .inr (ci, fs)) H) (hc : cl[ci]? = some (C, T, N)) (k : Nat) (hk : k < N) (hlink : (Cond.fieldLink own index (T k).1 (T k).2.1 (T k).2.2.1).before args s = true)
    (hfin : (T k).2.2.2 = false ∨ (meth.name = "<init>" ∧ (T k).1 = own)) {v : Value} (hn : narrow (ty0 k) v = v) (hfit : fits (ty0 k) v = true) (hl : k < fs.length)
    (hdg : decode cc pc = .ok (.putfield index, 3)) (kk : ∀ (H1 : Heap) (z : Nat), va_at D cl (a, .inr (ci, fs.set k v)) H1 → H1.size = H.size → (∀ q, q ≠ a → H1[q]? = H[q]?) → W p l e R s m args below meth c H1 (locs ++ [⟨a, z⟩]) cells slots Q (F0 m (pc + 3) ls rest)) : W p l e R s m args below meth c H locs cells slots Q (F0 m pc ls (v :: .ref a :: rest)) := by
  have hap := va_apart (own := own) hts hin ty0 hty hnm hK hc
  obtain ⟨r, h1, cell, q1, q2, q3, q4⟩ := he
  have hr : r = (C, T, N) := Option.some.inj (h1.symm.trans hc)
  subst hr
  obtain ⟨hS, hfc, kC, hkC, hkind⟩ := hK.1 ci _ hc
  obtain ⟨cf, kf, fi, f, hi, hsl⟩ := hS k hk
  have hlay := hts _ (hin _ (u_in_lay hk))
  unfold u_lay at hlay
  have hst := (u_facts hfc hkC (u_lays hts hin hk) hi).1
  by_cases hf : (T k).2.2.2 = true
  · rw [if_pos hf] at hlay
    rcases hfin with hfin | ⟨hin2, hdecl⟩
    · rw [hfin] at hf; cases hf
    have hcf : m.cls = cf := by
      obtain ⟨_, _, c', _, _, _, -, -, hf', -, -, -, hown2, -⟩ := Cond.laysFinal_spec hlay
      have e1 : c' = cf := by have := hi.symm.trans hf'; simp at this; exact this.1.symm
      rw [hdecl] at hown2
      rw [← e1]; exact Option.some.inj (hown.symm.trans hown2)
    have h6 := u_fits hfc hkC hkind (Or.inr hlay) hi (hty k hk) hn hfit
    refine W.putFinK hexec hb hown hlink hi hst hcf hin2 (by rw [q2]; exact h6) q1 q3 (by rw [hsl]; exact k2_hasslot (q4 k hk)) rfl rfl hdg fun H' e1 e2 e3 => ?_
    rw [hsl] at e1 ⊢
    exact kk H' _ ⟨_, hc, t_OB.to (V := updV (vp_V fs) k v) ⟨_, e1, q2, q3, t_set q4 hap hk v⟩ (fun j _ => vp_updV_set hl v j)⟩ e2 e3
  · rw [if_neg hf] at hlay
    have h6 := u_store hfc hkC hkind hlay hi (hty k hk) hn hfit
    refine W.putK hexec hb (f := f) ⟨hown, hlink, ⟨_, _, _, hi⟩, hst⟩ (by rw [q2]; exact h6) q1 q3 (by rw [hsl]; exact k2_hasslot (q4 k hk)) rfl rfl hdg fun H' e1 e2 e3 => ?_
    rw [hsl] at e1 ⊢
    exact kk H' _ ⟨_, hc, t_OB.to (V := updV (vp_V fs) k v) ⟨_, e1, q2, q3, t_set q4 hap hk v⟩ (fun j _ => vp_updV_set hl v j)⟩ e2 e3
end SP
