/-! jumps, switches, returns; the main row -/
section SN
variable {md md' : sr_MD} {d d' pc nx tg idx : Nat} {L L' : sr_L} {st st' As rest : List Value} {b : Nat × Nat} {h : sr_H} {P P' : Option Value → sr_H → Prop}
theorem sr_nlt {x y : Int32} : ¬ x < y ↔ y ≤ x := Int32.not_lt
theorem sr_nle {x y : Int32} : ¬ x ≤ y ↔ y < x := Int32.not_le
theorem sr_ite {c A B : Prop} [i : Decidable c] (f : c → A) (g : ¬ c → B) : (if c then A else B) := by
  by_cases h : c
  · rw [if_pos h]; exact f h
  · rw [if_neg h]; exact g h
theorem sr_iteT {c A B : Prop} [Decidable c] (w : if c then A else B) (hc : c) : A := by rw [if_pos hc] at w; exact w
theorem sr_iteF {c A B : Prop} [Decidable c] (w : if c then A else B) (hc : ¬ c) : B := by rw [if_neg hc] at w; exact w
theorem sg_goto {o : Int} (hd : decode md.2.2.1 pc = .ok (.goto o, 3)) (ht : (pc : Int) + o = tg) (k : sr_Go md d tg L st b h P) : sr_Go md d pc L st b h P := by
  intro G p l e R s m args below meth c H locs cells slots Q ls F Rt hw lr hlen hlc hc1 hc2
  exact lv_goto F.1 F.2.1 hd ht (k G p l e R s m args below meth c H locs cells slots Q ls F Rt hw lr hlen hlc hc1 hc2)
theorem sg_if {cd : Jvm.ClassFile.Cond} {o : Int} {x : Int32} (hd : decode md.2.2.1 pc = .ok (.ifCond cd o, 3)) (ht : (pc : Int) + o = tg) (w : match cd with
    | .eq => if x = 0 then sr_Go md d tg L st b h P else sr_Go md d (pc + 3) L st b h P
    | .ne => if x = 0 then sr_Go md d (pc + 3) L st b h P else sr_Go md d tg L st b h P
    | .lt => if x < 0 then sr_Go md d tg L st b h P else sr_Go md d (pc + 3) L st b h P
    | .ge => if x < 0 then sr_Go md d (pc + 3) L st b h P else sr_Go md d tg L st b h P
    | .gt => if 0 < x then sr_Go md d tg L st b h P else sr_Go md d (pc + 3) L st b h P
    | .le => if 0 < x then sr_Go md d (pc + 3) L st b h P else sr_Go md d tg L st b h P) : sr_Go md d pc L (.int x :: st) b h P := by
  intro G p l e R s m args below meth c H locs cells slots Q ls F Rt hw lr hlen hlc hc1 hc2
  have go : ∀ q, sr_Go md d q L st b h P → W p l e R s m args below meth c H locs cells slots Q (F0 m q ls (st.map (sr_cv G))) := fun q k => k G p l e R s m args below meth c H locs cells slots Q ls F Rt hw lr hlen hlc hc1 hc2
  cases cd with
  | eq => exact lv_if_eq F.1 F.2.1 hd ht (fun hc => go _ (sr_iteT w hc)) (fun hc => go _ (sr_iteF w hc))
  | ne => exact lv_if_ne F.1 F.2.1 hd ht (fun hc => go _ (sr_iteF w hc)) (fun hc => go _ (sr_iteT w hc))
  | lt => exact lv_if_lt F.1 F.2.1 hd ht (fun hc => go _ (sr_iteT w hc)) (fun hc => go _ (sr_iteF w hc))
  | ge => exact lv_if_ge F.1 F.2.1 hd ht (fun hc => go _ (sr_iteF w (sr_nlt.mpr hc))) (fun hc => go _ (sr_iteT w (sr_nle.mp hc)))
  | gt => exact lv_if_gt F.1 F.2.1 hd ht (fun hc => go _ (sr_iteT w hc)) (fun hc => go _ (sr_iteF w hc))
  | le => exact lv_if_le F.1 F.2.1 hd ht (fun hc => go _ (sr_iteF w (sr_nlt.mpr hc))) (fun hc => go _ (sr_iteT w (sr_nle.mp hc)))
theorem sg_icmp {cd : Jvm.ClassFile.Cond} {o : Int} {x y : Int32} (hd : decode md.2.2.1 pc = .ok (.if_icmp cd o, 3)) (ht : (pc : Int) + o = tg) (w : match cd with
    | .eq => if x = y then sr_Go md d tg L st b h P else sr_Go md d (pc + 3) L st b h P
    | .ne => if x = y then sr_Go md d (pc + 3) L st b h P else sr_Go md d tg L st b h P
    | .lt => if x < y then sr_Go md d tg L st b h P else sr_Go md d (pc + 3) L st b h P
    | .ge => if x < y then sr_Go md d (pc + 3) L st b h P else sr_Go md d tg L st b h P
    | .gt => if y < x then sr_Go md d tg L st b h P else sr_Go md d (pc + 3) L st b h P
    | .le => if y < x then sr_Go md d (pc + 3) L st b h P else sr_Go md d tg L st b h P) : sr_Go md d pc L (.int y :: .int x :: st) b h P := by
  intro G p l e R s m args below meth c H locs cells slots Q ls F Rt hw lr hlen hlc hc1 hc2
  have go : ∀ q, sr_Go md d q L st b h P → W p l e R s m args below meth c H locs cells slots Q (F0 m q ls (st.map (sr_cv G))) := fun q k => k G p l e R s m args below meth c H locs cells slots Q ls F Rt hw lr hlen hlc hc1 hc2
  cases cd with
  | eq => exact lv_icmp_eq F.1 F.2.1 hd ht (fun hc => go _ (sr_iteT w hc)) (fun hc => go _ (sr_iteF w hc))
  | ne => exact lv_icmp_ne F.1 F.2.1 hd ht (fun hc => go _ (sr_iteF w hc)) (fun hc => go _ (sr_iteT w hc))
  | lt => exact lv_icmp_lt F.1 F.2.1 hd ht (fun hc => go _ (sr_iteT w hc)) (fun hc => go _ (sr_iteF w hc))
  | ge => exact lv_icmp_ge F.1 F.2.1 hd ht (fun hc => go _ (sr_iteF w (sr_nlt.mpr hc))) (fun hc => go _ (sr_iteT w (sr_nle.mp hc)))
  | gt => exact lv_icmp_gt F.1 F.2.1 hd ht (fun hc => go _ (sr_iteT w hc)) (fun hc => go _ (sr_iteF w hc))
  | le => exact lv_icmp_le F.1 F.2.1 hd ht (fun hc => go _ (sr_iteF w (sr_nlt.mpr hc))) (fun hc => go _ (sr_iteT w (sr_nle.mp hc)))
theorem sr_kt {v : Int} (h1 : -1000 ≤ v) (h2 : v ≤ 1000) : (sr_k v).toInt = v := by
  unfold sr_k
  exact Int32.toInt_ofInt_of_le (by omega) (by omega)
theorem sg_sw {dflt lo hi : Int} {offs : Array Int} {len : Nat} {x : Int32} (hd : decode md.2.2.1 pc = .ok (.tableswitch dflt lo hi offs, len)) (h0 : 0 ≤ (pc : Int) + dflt) (h1 : ∀ o ∈ offs.toList, 0 ≤ (pc : Int) + o) (h2 : lo + offs.toList.length = hi + 1) (h3 : -1000 ≤ lo) (h4 : hi ≤ 1000) {J : Nat → sr_L → List Value → Nat × Nat → sr_H → (Option Value → sr_H → Prop) → Prop} (hJ : ∀ tg L st b h P, J tg L st b h P → sr_Go md d tg L st b h P) (w : sr_sw J pc L st b h P x dflt lo offs.toList) : sr_Go md d pc L (.int x :: st) b h P := by
  intro G p l e R s m args below meth c H locs cells slots Q ls F Rt hw lr hlen hlc hc1 hc2
  have go : ∀ q, sr_Go md d q L st b h P → W p l e R s m args below meth c H locs cells slots Q (F0 m q ls (st.map (sr_cv G))) := fun q k => k G p l e R s m args below meth c H locs cells slots Q ls F Rt hw lr hlen hlc hc1 hc2
  have key : ∀ (os : List Int) (j : Nat), os = offs.toList.drop j → sr_sw J pc L st b h P x dflt (lo + j) os → (¬ (lo ≤ x.toInt ∧ x.toInt < lo + j)) → j ≤ offs.toList.length →
      ((x.toInt < lo ∨ hi < x.toInt) ∧ sr_Go md d ((pc : Int) + dflt).toNat L st b h P) ∨ (∃ o, offs.toList[(x.toInt - lo).toNat]? = some o ∧ ¬ x.toInt < lo ∧ ¬ hi < x.toInt ∧ sr_Go md d ((pc : Int) + o).toNat L st b h P) := by
    intro os
    induction os with
    | nil =>
      intro j hos w hx hj
      have : offs.toList.length ≤ j := by
        have := congrArg List.length hos
        rw [List.length_drop, List.length_nil] at this
        omega
      refine Or.inl ⟨?_, hJ _ _ _ _ _ _ w⟩
      omega
    | cons o os ih =>
      intro j hos w hx hj
      have hjl : j < offs.toList.length := by
        have := congrArg List.length hos
        rw [List.length_drop, List.length_cons] at this
        omega
      have hoj : offs.toList[j]? = some o := by
        have : (offs.toList.drop j)[0]? = some o := by rw [← hos]; rfl
        rw [List.getElem?_drop] at this
        simpa using this
      unfold sr_sw at w
      by_cases hxe : x = sr_k (lo + j)
      · rw [if_pos hxe] at w
        have hxt : x.toInt = lo + j := by rw [hxe]; exact sr_kt (by omega) (by omega)
        refine Or.inr ⟨o, ?_, by omega, by omega, hJ _ _ _ _ _ _ w⟩
        rw [hxt, show (lo + (j : Int) - lo).toNat = j by omega]
        exact hoj
      · rw [if_neg hxe] at w
        refine ih (j + 1) ?_ ?_ ?_ (by omega)
        · have := congrArg List.tail hos
          simpa [List.tail_drop] using this
        · have e9 : lo + (j : Int) + 1 = lo + ((j + 1 : Nat) : Int) := by omega
          rw [← e9]; exact w
        · intro hc
          have hne : x.toInt ≠ lo + j := fun e => hxe (Int32.toInt_inj.mp (by rw [e]; exact (sr_kt (by omega) (by omega)).symm))
          omega
  rcases key offs.toList 0 rfl (by simpa using w) (by omega) (by omega) with ⟨hr, k⟩ | ⟨o, ho, hr1, hr2, k⟩
  · exact lv_tableOut F.1 F.2.1 hd hr (by omega) (go _ k)
  · have ho2 : offs[(x.toInt - lo).toNat]? = some o := by rw [← Array.getElem?_toList]; exact ho
    have := h1 o (List.mem_of_getElem? ho)
    exact lv_tableIn F.1 F.2.1 hd hr1 hr2 ho2 (by omega) (go _ k)
theorem sg_lsw {dflt : Int} {ps : Array (Int × Int)} {len : Nat} {x : Int32} (hd : decode md.2.2.1 pc = .ok (.lookupswitch dflt ps, len)) (h0 : 0 ≤ (pc : Int) + dflt) (h1 : ∀ q ∈ ps.toList, 0 ≤ (pc : Int) + q.2 ∧ -1000 ≤ q.1 ∧ q.1 ≤ 1000) (h2 : (ps.toList.zip (ps.toList.drop 1)).all (fun q => decide (q.1.1 < q.2.1)) = true) {J : Nat → sr_L → List Value → Nat × Nat → sr_H → (Option Value → sr_H → Prop) → Prop} (hJ : ∀ tg L st b h P, J tg L st b h P → sr_Go md d tg L st b h P) (w : sr_lsw J pc L st b h P x dflt ps.toList) : sr_Go md d pc L (.int x :: st) b h P := by
  intro G p l e R s m args below meth c H locs cells slots Q ls F Rt hw lr hlen hlc hc1 hc2
  have go : ∀ q, sr_Go md d q L st b h P → W p l e R s m args below meth c H locs cells slots Q (F0 m q ls (st.map (sr_cv G))) := fun q k => k G p l e R s m args below meth c H locs cells slots Q ls F Rt hw lr hlen hlc hc1 hc2
  have key : ∀ (os : List (Int × Int)), (∀ q ∈ os, 0 ≤ (pc : Int) + q.2 ∧ -1000 ≤ q.1 ∧ q.1 ≤ 1000) → sr_lsw J pc L st b h P x dflt os → ∃ o : Int, Op.lookupswitch.offset os dflt x.toInt = o ∧ 0 ≤ (pc : Int) + o ∧ sr_Go md d ((pc : Int) + o).toNat L st b h P := by
    intro os
    induction os with
    | nil => intro _ w; exact ⟨dflt, rfl, h0, hJ _ _ _ _ _ _ w⟩
    | cons q os ih =>
      intro hq w
      obtain ⟨k, o⟩ := q
      obtain ⟨q1, q2, q3⟩ := hq (k, o) List.mem_cons_self
      unfold sr_lsw at w
      by_cases hxe : x = sr_k k
      · rw [if_pos hxe] at w
        refine ⟨o, ?_, q1, hJ _ _ _ _ _ _ w⟩
        rw [Op.lookupswitch.offset_cons, if_pos]
        rw [hxe, sr_kt q2 q3]
      · rw [if_neg hxe] at w
        obtain ⟨o', e1, e2, e3⟩ := ih (fun z hz => hq z (List.mem_cons_of_mem _ hz)) w
        refine ⟨o', ?_, e2, e3⟩
        rw [lv_osw hxe (sr_kt q2 q3)]
        exact e1
  obtain ⟨o, e1, e2, e3⟩ := key ps.toList h1 w
  exact lv_lookup F.1 F.2.1 hd h2 e1 (by omega) (go _ e3)
theorem sg_ret {r : Option Value} (hri : sr_ri md r pc) (w : P r h) : sr_Go md d pc L r.toList b h P := by
  intro G p l e R s m args below meth c H locs cells slots Q ls F Rt hw lr hlen hlc hc1 hc2
  exact Rt r h H locs cells slots pc ls w hw hlc (by omega) (by omega) hri
theorem sg_nullR {o : Int} {r : Nat} (hd : decode md.2.2.1 pc = .ok (.ifnull o, 3)) (k : sr_Go md d (pc + 3) L st b h P) : sr_Go md d pc L (.ref r :: st) b h P := by
  intro G p l e R s m args below meth c H locs cells slots Q ls F Rt hw lr hlen hlc hc1 hc2
  exact lv_ifnull F.1 F.2.1 hd (k G p l e R s m args below meth c H locs cells slots Q ls F Rt hw lr hlen hlc hc1 hc2)
theorem sg_nullN {o : Int} (hd : decode md.2.2.1 pc = .ok (.ifnull o, 3)) (ht : (pc : Int) + o = tg) (k : sr_Go md d tg L st b h P) : sr_Go md d pc L (.null :: st) b h P := by
  intro G p l e R s m args below meth c H locs cells slots Q ls F Rt hw lr hlen hlc hc1 hc2
  exact lv_ifnullN F.1 F.2.1 hd ht (k G p l e R s m args below meth c H locs cells slots Q ls F Rt hw lr hlen hlc hc1 hc2)
theorem sg_nonnR {o : Int} {r : Nat} (hd : decode md.2.2.1 pc = .ok (.ifnonnull o, 3)) (ht : (pc : Int) + o = tg) (k : sr_Go md d tg L st b h P) : sr_Go md d pc L (.ref r :: st) b h P := by
  intro G p l e R s m args below meth c H locs cells slots Q ls F Rt hw lr hlen hlc hc1 hc2
  exact lv_ifnonnull F.1 F.2.1 hd ht (k G p l e R s m args below meth c H locs cells slots Q ls F Rt hw lr hlen hlc hc1 hc2)
theorem sg_nonnN {o : Int} (hd : decode md.2.2.1 pc = .ok (.ifnonnull o, 3)) (k : sr_Go md d (pc + 3) L st b h P) : sr_Go md d pc L (.null :: st) b h P := by
  intro G p l e R s m args below meth c H locs cells slots Q ls F Rt hw lr hlen hlc hc1 hc2
  exact lv_ifnonnullN F.1 F.2.1 hd (k G p l e R s m args below meth c H locs cells slots Q ls F Rt hw lr hlen hlc hc1 hc2)
theorem sg_idiv {x y : Int32} (hd : decode md.2.2.1 pc = .ok (.idiv, 1)) (hy : ¬ y = 0) (k : sr_Go md d (pc + 1) L (.int (x / y) :: st) b h P) : sr_Go md d pc L (.int y :: .int x :: st) b h P := by
  intro G p l e R s m args below meth c H locs cells slots Q ls F Rt hw lr hlen hlc hc1 hc2
  exact lv_idiv F.1 F.2.1 hd hy (k G p l e R s m args below meth c H locs cells slots Q ls F Rt hw lr hlen hlc hc1 hc2)
theorem sg_irem {x y : Int32} (hd : decode md.2.2.1 pc = .ok (.irem, 1)) (hy : ¬ y = 0) (k : sr_Go md d (pc + 1) L (.int (x - x / y * y) :: st) b h P) : sr_Go md d pc L (.int y :: .int x :: st) b h P := by
  intro G p l e R s m args below meth c H locs cells slots Q ls F Rt hw lr hlen hlc hc1 hc2
  exact lv_irem F.1 F.2.1 hd hy (k G p l e R s m args below meth c H locs cells slots Q ls F Rt hw lr hlen hlc hc1 hc2)
theorem sg_ldiv {x y : Int64} (hd : decode md.2.2.1 pc = .ok (.ldiv, 1)) (hy : ¬ y = 0) (k : sr_Go md d (pc + 1) L (.long (x / y) :: st) b h P) : sr_Go md d pc L (.long y :: .long x :: st) b h P := by
  intro G p l e R s m args below meth c H locs cells slots Q ls F Rt hw lr hlen hlc hc1 hc2
  exact lv_ldiv F.1 F.2.1 hd hy (k G p l e R s m args below meth c H locs cells slots Q ls F Rt hw lr hlen hlc hc1 hc2)
theorem sg_lrem {x y : Int64} (hd : decode md.2.2.1 pc = .ok (.lrem, 1)) (hy : ¬ y = 0) (k : sr_Go md d (pc + 1) L (.long (x - x / y * y) :: st) b h P) : sr_Go md d pc L (.long y :: .long x :: st) b h P := by
  intro G p l e R s m args below meth c H locs cells slots Q ls F Rt hw lr hlen hlc hc1 hc2
  exact lv_lrem F.1 F.2.1 hd hy (k G p l e R s m args below meth c H locs cells slots Q ls F Rt hw lr hlen hlc hc1 hc2)
end SN
