def iJ6_bitCount_0 : List (Instr × Nat × Nat) := [(.iload_n 0, 1, 0), (.iload_n 0, 2, 0), (.iconst 1, 3, 0), (.iushr, 4, 0), (.ldc_w 265, 7, 0), (.iand, 8, 0), (.isub, 9, 0), (.istore_n 0, 10, 0), (.iload_n 0, 11, 0), (.ldc_w 266, 14, 0), (.iand, 15, 0), (.iload_n 0, 16, 0), (.iconst 2, 17, 0), (.iushr, 18, 0), (.ldc_w 266, 21, 0), (.iand, 22, 0), (.iadd, 23, 0), (.istore_n 0, 24, 0), (.iload_n 0, 25, 0), (.iload_n 0, 26, 0), (.iconst 4, 27, 0), (.iushr, 28, 0), (.iadd, 29, 0), (.ldc_w 267, 32, 0), (.iand, 33, 0), (.istore_n 0, 34, 0), (.iload_n 0, 35, 0), (.iload_n 0, 36, 0), (.bipush 8, 38, 0), (.iushr, 39, 0), (.iadd, 40, 0), (.istore_n 0, 41, 0), (.iload_n 0, 42, 0), (.iload_n 0, 43, 0), (.bipush 16, 45, 0), (.iushr, 46, 0), (.iadd, 47, 0), (.istore_n 0, 48, 0), (.iload_n 0, 49, 0), (.bipush 63, 51, 0), (.iand, 52, 0), (.ireturn, 53, 0)]
theorem kJ6_bitCount_0 : sr_is cJ6_bitCount_0f7a4 0 iJ6_bitCount_0 = true := by decide +kernel
theorem lJ6_bitCount_0 {d : Nat} {L : sr_L} {st : List Value} {b : Nat × Nat} {h : sr_H} {P : Option Value → sr_H → Prop} (w : sr_wp mJ6_bitCount d iJ6_bitCount_0 0 L st b h P) : sr_Go mJ6_bitCount d 0 L st b h P := sr_wp_go kJ6_bitCount_0 w
def iX0_init_0 : List (Instr × Nat × Nat) := [(.aload_n 0, 1, 0), (.invokespecial 3, 4, 0), (.aload_n 0, 5, 0), (.iconst 0, 6, 0), (.putfield 9, 9, 0), (.aload_n 0, 10, 0), (.iconst 0, 11, 0), (.putfield 15, 14, 0), (.aload_n 0, 15, 0), (.iconst 0, 16, 0), (.putfield 18, 19, 0), (.aload_n 0, 20, 0), (.iconst 5, 21, 0), (.newarray .int, 23, 0), (.putfield 21, 26, 0), (.aload_n 0, 27, 0), (.iconst 5, 28, 0), (.newarray .int, 30, 0), (.putfield 25, 33, 0), (.aload_n 0, 34, 0), (.iconst 5, 35, 0), (.newarray .int, 37, 0), (.putfield 28, 40, 0), (.aload_n 0, 41, 0), (.bipush 8, 43, 0), (.newarray .int, 45, 0), (.putfield 31, 48, 0), (.aload_n 0, 49, 0), (.bipush 8, 51, 0), (.newarray .int, 53, 0), (.putfield 34, 56, 0), (.return_, 57, 0)]
theorem kX0_init_0 : sr_is cX0_init 0 iX0_init_0 = true := by decide +kernel
theorem lX0_init_0 {d : Nat} {L : sr_L} {st : List Value} {b : Nat × Nat} {h : sr_H} {P : Option Value → sr_H → Prop} (w : sr_wp mX0_init d iX0_init_0 0 L st b h P) : sr_Go mX0_init d 0 L st b h P := sr_wp_go kX0_init_0 w
def iX0_clear_0 : List (Instr × Nat × Nat) := [(.aload_n 0, 1, 0), (.iconst 0, 2, 0), (.putfield 9, 5, 0), (.aload_n 0, 6, 0), (.iconst 0, 7, 0), (.putfield 15, 10, 0), (.aload_n 0, 11, 0), (.iconst 0, 12, 0), (.putfield 18, 15, 0), (.return_, 16, 0)]
theorem kX0_clear_0 : sr_is cX0_clear 0 iX0_clear_0 = true := by decide +kernel
theorem lX0_clear_0 {d : Nat} {L : sr_L} {st : List Value} {b : Nat × Nat} {h : sr_H} {P : Option Value → sr_H → Prop} (w : sr_wp mX0_clear d iX0_clear_0 0 L st b h P) : sr_Go mX0_clear d 0 L st b h P := sr_wp_go kX0_clear_0 w
def iX0_addGuest_48 : List (Instr × Nat × Nat) := [(.return_, 49, 0)]
def aX0_addGuest_0 : List (Instr × Nat × Nat) := [(.aload_n 0, 1, 0), (.getfield 15, 4, 0), (.iconst 5, 5, 0), (.if_icmp .ge 43, 8, 48), (.aload_n 0, 9, 0), (.getfield 21, 12, 0), (.aload_n 0, 13, 0), (.getfield 15, 16, 0), (.iload_n 1, 17, 0), (.iastore, 18, 0), (.aload_n 0, 19, 0), (.getfield 25, 22, 0), (.aload_n 0, 23, 0), (.getfield 15, 26, 0), (.iload_n 2, 27, 0), (.iastore, 28, 0), (.aload_n 0, 29, 0), (.getfield 28, 32, 0), (.aload_n 0, 33, 0), (.getfield 15, 36, 0), (.iload_n 3, 37, 0), (.iastore, 38, 0), (.aload_n 0, 39, 0), (.dup, 40, 0), (.getfield 15, 43, 0), (.iconst 1, 44, 0), (.iadd, 45, 0), (.putfield 15, 48, 0)]
def iX0_addGuest_0 : List (Instr × Nat × Nat) := aX0_addGuest_0 ++ iX0_addGuest_48
theorem kX0_addGuest_0 : sr_is cX0_addGuest 0 iX0_addGuest_0 = true := by decide +kernel
theorem lX0_addGuest_0 {d : Nat} {L : sr_L} {st : List Value} {b : Nat × Nat} {h : sr_H} {P : Option Value → sr_H → Prop} (w : sr_wp mX0_addGuest d iX0_addGuest_0 0 L st b h P) : sr_Go mX0_addGuest d 0 L st b h P := sr_wp_go kX0_addGuest_0 w
theorem kX0_addGuest_48 : sr_is cX0_addGuest 48 iX0_addGuest_48 = true := sr_is_suf (as := aX0_addGuest_0) kX0_addGuest_0
theorem lX0_addGuest_48 {d : Nat} {L : sr_L} {st : List Value} {b : Nat × Nat} {h : sr_H} {P : Option Value → sr_H → Prop} (w : sr_wp mX0_addGuest d iX0_addGuest_48 48 L st b h P) : sr_Go mX0_addGuest d 48 L st b h P := sr_wp_go kX0_addGuest_48 w
def iX0_addThing_39 : List (Instr × Nat × Nat) := [(.return_, 40, 0)]
def aX0_addThing_0 : List (Instr × Nat × Nat) := [(.aload_n 0, 1, 0), (.getfield 18, 4, 0), (.bipush 8, 6, 0), (.if_icmp .ge 33, 9, 39), (.aload_n 0, 10, 0), (.getfield 31, 13, 0), (.aload_n 0, 14, 0), (.getfield 18, 17, 0), (.iload_n 1, 18, 0), (.iastore, 19, 0), (.aload_n 0, 20, 0), (.getfield 34, 23, 0), (.aload_n 0, 24, 0), (.getfield 18, 27, 0), (.iload_n 2, 28, 0), (.iastore, 29, 0), (.aload_n 0, 30, 0), (.dup, 31, 0), (.getfield 18, 34, 0), (.iconst 1, 35, 0), (.iadd, 36, 0), (.putfield 18, 39, 0)]
def iX0_addThing_0 : List (Instr × Nat × Nat) := aX0_addThing_0 ++ iX0_addThing_39
theorem kX0_addThing_0 : sr_is cX0_addThing 0 iX0_addThing_0 = true := by decide +kernel
theorem lX0_addThing_0 {d : Nat} {L : sr_L} {st : List Value} {b : Nat × Nat} {h : sr_H} {P : Option Value → sr_H → Prop} (w : sr_wp mX0_addThing d iX0_addThing_0 0 L st b h P) : sr_Go mX0_addThing d 0 L st b h P := sr_wp_go kX0_addThing_0 w
theorem kX0_addThing_39 : sr_is cX0_addThing 39 iX0_addThing_39 = true := sr_is_suf (as := aX0_addThing_0) kX0_addThing_0
theorem lX0_addThing_39 {d : Nat} {L : sr_L} {st : List Value} {b : Nat × Nat} {h : sr_H} {P : Option Value → sr_H → Prop} (w : sr_wp mX0_addThing d iX0_addThing_39 39 L st b h P) : sr_Go mX0_addThing d 39 L st b h P := sr_wp_go kX0_addThing_39 w
def iX0_takeOver_82 : List (Instr × Nat × Nat) := [(.return_, 83, 0)]
def aX0_takeOver_52 : List (Instr × Nat × Nat) := [(.iload_n 2, 53, 0), (.aload_n 1, 54, 0), (.getfield 18, 57, 0), (.if_icmp .ge 25, 60, 82), (.aload_n 0, 61, 0), (.aload_n 1, 62, 0), (.getfield 31, 65, 0), (.iload_n 2, 66, 0), (.iaload, 67, 0), (.aload_n 1, 68, 0), (.getfield 34, 71, 0), (.iload_n 2, 72, 0), (.iaload, 73, 0), (.invokevirtual 44, 76, 0), (.iinc 2 1, 79, 0), (.goto (-27), 82, 52)]
def iX0_takeOver_52 : List (Instr × Nat × Nat) := aX0_takeOver_52 ++ iX0_takeOver_82
def aX0_takeOver_50 : List (Instr × Nat × Nat) := [(.iconst 0, 51, 0), (.istore_n 2, 52, 0)]
def iX0_takeOver_50 : List (Instr × Nat × Nat) := aX0_takeOver_50 ++ iX0_takeOver_52
def aX0_takeOver_14 : List (Instr × Nat × Nat) := [(.iload_n 2, 15, 0), (.aload_n 1, 16, 0), (.getfield 15, 19, 0), (.if_icmp .ge 31, 22, 50), (.aload_n 0, 23, 0), (.aload_n 1, 24, 0), (.getfield 21, 27, 0), (.iload_n 2, 28, 0), (.iaload, 29, 0), (.aload_n 1, 30, 0), (.getfield 25, 33, 0), (.iload_n 2, 34, 0), (.iaload, 35, 0), (.aload_n 1, 36, 0), (.getfield 28, 39, 0), (.iload_n 2, 40, 0), (.iaload, 41, 0), (.invokevirtual 40, 44, 0), (.iinc 2 1, 47, 0), (.goto (-33), 50, 14)]
def iX0_takeOver_14 : List (Instr × Nat × Nat) := aX0_takeOver_14 ++ iX0_takeOver_50
def aX0_takeOver_0 : List (Instr × Nat × Nat) := [(.aload_n 0, 1, 0), (.invokevirtual 37, 4, 0), (.aload_n 0, 5, 0), (.aload_n 1, 6, 0), (.getfield 9, 9, 0), (.putfield 9, 12, 0), (.iconst 0, 13, 0), (.istore_n 2, 14, 0)]
def iX0_takeOver_0 : List (Instr × Nat × Nat) := aX0_takeOver_0 ++ iX0_takeOver_14
theorem kX0_takeOver_0 : sr_is cX0_takeOver 0 iX0_takeOver_0 = true := by decide +kernel
theorem lX0_takeOver_0 {d : Nat} {L : sr_L} {st : List Value} {b : Nat × Nat} {h : sr_H} {P : Option Value → sr_H → Prop} (w : sr_wp mX0_takeOver d iX0_takeOver_0 0 L st b h P) : sr_Go mX0_takeOver d 0 L st b h P := sr_wp_go kX0_takeOver_0 w
theorem kX0_takeOver_14 : sr_is cX0_takeOver 14 iX0_takeOver_14 = true := sr_is_suf (as := aX0_takeOver_0) kX0_takeOver_0
theorem lX0_takeOver_14 {d : Nat} {L : sr_L} {st : List Value} {b : Nat × Nat} {h : sr_H} {P : Option Value → sr_H → Prop} (w : sr_wp mX0_takeOver d iX0_takeOver_14 14 L st b h P) : sr_Go mX0_takeOver d 14 L st b h P := sr_wp_go kX0_takeOver_14 w
theorem kX0_takeOver_50 : sr_is cX0_takeOver 50 iX0_takeOver_50 = true := sr_is_suf (as := aX0_takeOver_14) kX0_takeOver_14
theorem lX0_takeOver_50 {d : Nat} {L : sr_L} {st : List Value} {b : Nat × Nat} {h : sr_H} {P : Option Value → sr_H → Prop} (w : sr_wp mX0_takeOver d iX0_takeOver_50 50 L st b h P) : sr_Go mX0_takeOver d 50 L st b h P := sr_wp_go kX0_takeOver_50 w
theorem kX0_takeOver_52 : sr_is cX0_takeOver 52 iX0_takeOver_52 = true := sr_is_suf (as := aX0_takeOver_50) kX0_takeOver_50
theorem lX0_takeOver_52 {d : Nat} {L : sr_L} {st : List Value} {b : Nat × Nat} {h : sr_H} {P : Option Value → sr_H → Prop} (w : sr_wp mX0_takeOver d iX0_takeOver_52 52 L st b h P) : sr_Go mX0_takeOver d 52 L st b h P := sr_wp_go kX0_takeOver_52 w
theorem kX0_takeOver_82 : sr_is cX0_takeOver 82 iX0_takeOver_82 = true := sr_is_suf (as := aX0_takeOver_52) kX0_takeOver_52
theorem lX0_takeOver_82 {d : Nat} {L : sr_L} {st : List Value} {b : Nat × Nat} {h : sr_H} {P : Option Value → sr_H → Prop} (w : sr_wp mX0_takeOver d iX0_takeOver_82 82 L st b h P) : sr_Go mX0_takeOver d 82 L st b h P := sr_wp_go kX0_takeOver_82 w
def iX0_lifeCount_0 : List (Instr × Nat × Nat) := [(.iconst 1, 1, 0), (.aload_n 0, 2, 0), (.getfield 9, 5, 0), (.ishl, 6, 0), (.ireturn, 7, 0)]
theorem kX0_lifeCount_0 : sr_is cX0_lifeCount 0 iX0_lifeCount_0 = true := by decide +kernel
theorem lX0_lifeCount_0 {d : Nat} {L : sr_L} {st : List Value} {b : Nat × Nat} {h : sr_H} {P : Option Value → sr_H → Prop} (w : sr_wp mX0_lifeCount d iX0_lifeCount_0 0 L st b h P) : sr_Go mX0_lifeCount d 0 L st b h P := sr_wp_go kX0_lifeCount_0 w
def iX0_isOfKind_29 : List (Instr × Nat × Nat) := [(.ireturn, 30, 0)]
def aX0_isOfKind_28 : List (Instr × Nat × Nat) := [(.iconst 0, 29, 0)]
def iX0_isOfKind_28 : List (Instr × Nat × Nat) := aX0_isOfKind_28 ++ iX0_isOfKind_29
def aX0_isOfKind_24 : List (Instr × Nat × Nat) := [(.iconst 1, 25, 0), (.goto 4, 28, 29)]
def iX0_isOfKind_24 : List (Instr × Nat × Nat) := aX0_isOfKind_24 ++ iX0_isOfKind_28
def aX0_isOfKind_0 : List (Instr × Nat × Nat) := [(.aload_n 0, 1, 0), (.getfield 21, 4, 0), (.iload_n 1, 5, 0), (.iaload, 6, 0), (.iload_n 2, 7, 0), (.if_icmp .eq 17, 10, 24), (.getstatic 48, 13, 0), (.aload_n 0, 14, 0), (.getfield 21, 17, 0), (.iload_n 1, 18, 0), (.iaload, 19, 0), (.iaload, 20, 0), (.iload_n 2, 21, 0), (.if_icmp .ne 7, 24, 28)]
def iX0_isOfKind_0 : List (Instr × Nat × Nat) := aX0_isOfKind_0 ++ iX0_isOfKind_24
theorem kX0_isOfKind_0 : sr_is cX0_isOfKind 0 iX0_isOfKind_0 = true := by decide +kernel
theorem lX0_isOfKind_0 {d : Nat} {L : sr_L} {st : List Value} {b : Nat × Nat} {h : sr_H} {P : Option Value → sr_H → Prop} (w : sr_wp mX0_isOfKind d iX0_isOfKind_0 0 L st b h P) : sr_Go mX0_isOfKind d 0 L st b h P := sr_wp_go kX0_isOfKind_0 w
theorem kX0_isOfKind_24 : sr_is cX0_isOfKind 24 iX0_isOfKind_24 = true := sr_is_suf (as := aX0_isOfKind_0) kX0_isOfKind_0
theorem lX0_isOfKind_24 {d : Nat} {L : sr_L} {st : List Value} {b : Nat × Nat} {h : sr_H} {P : Option Value → sr_H → Prop} (w : sr_wp mX0_isOfKind d iX0_isOfKind_24 24 L st b h P) : sr_Go mX0_isOfKind d 24 L st b h P := sr_wp_go kX0_isOfKind_24 w
theorem kX0_isOfKind_28 : sr_is cX0_isOfKind 28 iX0_isOfKind_28 = true := sr_is_suf (as := aX0_isOfKind_24) kX0_isOfKind_24
theorem lX0_isOfKind_28 {d : Nat} {L : sr_L} {st : List Value} {b : Nat × Nat} {h : sr_H} {P : Option Value → sr_H → Prop} (w : sr_wp mX0_isOfKind d iX0_isOfKind_28 28 L st b h P) : sr_Go mX0_isOfKind d 28 L st b h P := sr_wp_go kX0_isOfKind_28 w
theorem kX0_isOfKind_29 : sr_is cX0_isOfKind 29 iX0_isOfKind_29 = true := sr_is_suf (as := aX0_isOfKind_28) kX0_isOfKind_28
theorem lX0_isOfKind_29 {d : Nat} {L : sr_L} {st : List Value} {b : Nat × Nat} {h : sr_H} {P : Option Value → sr_H → Prop} (w : sr_wp mX0_isOfKind d iX0_isOfKind_29 29 L st b h P) : sr_Go mX0_isOfKind d 29 L st b h P := sr_wp_go kX0_isOfKind_29 w
def iX0_soldiers_30 : List (Instr × Nat × Nat) := [(.iload_n 1, 31, 0), (.ireturn, 32, 0)]
def aX0_soldiers_24 : List (Instr × Nat × Nat) := [(.iinc 2 1, 27, 0), (.goto (-23), 30, 4)]
def iX0_soldiers_24 : List (Instr × Nat × Nat) := aX0_soldiers_24 ++ iX0_soldiers_30
def aX0_soldiers_4 : List (Instr × Nat × Nat) := [(.iload_n 2, 5, 0), (.aload_n 0, 6, 0), (.getfield 15, 9, 0), (.if_icmp .ge 21, 12, 30), (.aload_n 0, 13, 0), (.iload_n 2, 14, 0), (.iconst 1, 15, 0), (.invokevirtual 51, 18, 0), (.ifCond .eq 6, 21, 24), (.iinc 1 1, 24, 0)]
def iX0_soldiers_4 : List (Instr × Nat × Nat) := aX0_soldiers_4 ++ iX0_soldiers_24
def aX0_soldiers_0 : List (Instr × Nat × Nat) := [(.iconst 0, 1, 0), (.istore_n 1, 2, 0), (.iconst 0, 3, 0), (.istore_n 2, 4, 0)]
def iX0_soldiers_0 : List (Instr × Nat × Nat) := aX0_soldiers_0 ++ iX0_soldiers_4
theorem kX0_soldiers_0 : sr_is cX0_soldiers 0 iX0_soldiers_0 = true := by decide +kernel
theorem lX0_soldiers_0 {d : Nat} {L : sr_L} {st : List Value} {b : Nat × Nat} {h : sr_H} {P : Option Value → sr_H → Prop} (w : sr_wp mX0_soldiers d iX0_soldiers_0 0 L st b h P) : sr_Go mX0_soldiers d 0 L st b h P := sr_wp_go kX0_soldiers_0 w
theorem kX0_soldiers_4 : sr_is cX0_soldiers 4 iX0_soldiers_4 = true := sr_is_suf (as := aX0_soldiers_0) kX0_soldiers_0
theorem lX0_soldiers_4 {d : Nat} {L : sr_L} {st : List Value} {b : Nat × Nat} {h : sr_H} {P : Option Value → sr_H → Prop} (w : sr_wp mX0_soldiers d iX0_soldiers_4 4 L st b h P) : sr_Go mX0_soldiers d 4 L st b h P := sr_wp_go kX0_soldiers_4 w
theorem kX0_soldiers_24 : sr_is cX0_soldiers 24 iX0_soldiers_24 = true := sr_is_suf (as := aX0_soldiers_4) kX0_soldiers_4
theorem lX0_soldiers_24 {d : Nat} {L : sr_L} {st : List Value} {b : Nat × Nat} {h : sr_H} {P : Option Value → sr_H → Prop} (w : sr_wp mX0_soldiers d iX0_soldiers_24 24 L st b h P) : sr_Go mX0_soldiers d 24 L st b h P := sr_wp_go kX0_soldiers_24 w
theorem kX0_soldiers_30 : sr_is cX0_soldiers 30 iX0_soldiers_30 = true := sr_is_suf (as := aX0_soldiers_24) kX0_soldiers_24
theorem lX0_soldiers_30 {d : Nat} {L : sr_L} {st : List Value} {b : Nat × Nat} {h : sr_H} {P : Option Value → sr_H → Prop} (w : sr_wp mX0_soldiers d iX0_soldiers_30 30 L st b h P) : sr_Go mX0_soldiers d 30 L st b h P := sr_wp_go kX0_soldiers_30 w
def iX0_lifeHas_33 : List (Instr × Nat × Nat) := [(.ireturn, 34, 0)]
def aX0_lifeHas_32 : List (Instr × Nat × Nat) := [(.iconst 0, 33, 0)]
def iX0_lifeHas_32 : List (Instr × Nat × Nat) := aX0_lifeHas_32 ++ iX0_lifeHas_33
def aX0_lifeHas_0 : List (Instr × Nat × Nat) := [(.iload_n 1, 1, 0), (.aload_n 0, 2, 0), (.getfield 31, 5, 0), (.iload_n 2, 6, 0), (.iaload, 7, 0), (.iand, 8, 0), (.aload_n 0, 9, 0), (.getfield 31, 12, 0), (.iload_n 2, 13, 0), (.iaload, 14, 0), (.if_icmp .ne 18, 17, 32), (.iload_n 1, 18, 0), (.aload_n 0, 19, 0), (.getfield 34, 22, 0), (.iload_n 2, 23, 0), (.iaload, 24, 0), (.iand, 25, 0), (.ifCond .ne 7, 28, 32), (.iconst 1, 29, 0), (.goto 4, 32, 33)]
def iX0_lifeHas_0 : List (Instr × Nat × Nat) := aX0_lifeHas_0 ++ iX0_lifeHas_32
theorem kX0_lifeHas_0 : sr_is cX0_lifeHas 0 iX0_lifeHas_0 = true := by decide +kernel
theorem lX0_lifeHas_0 {d : Nat} {L : sr_L} {st : List Value} {b : Nat × Nat} {h : sr_H} {P : Option Value → sr_H → Prop} (w : sr_wp mX0_lifeHas d iX0_lifeHas_0 0 L st b h P) : sr_Go mX0_lifeHas d 0 L st b h P := sr_wp_go kX0_lifeHas_0 w
theorem kX0_lifeHas_32 : sr_is cX0_lifeHas 32 iX0_lifeHas_32 = true := sr_is_suf (as := aX0_lifeHas_0) kX0_lifeHas_0
theorem lX0_lifeHas_32 {d : Nat} {L : sr_L} {st : List Value} {b : Nat × Nat} {h : sr_H} {P : Option Value → sr_H → Prop} (w : sr_wp mX0_lifeHas d iX0_lifeHas_32 32 L st b h P) : sr_Go mX0_lifeHas d 32 L st b h P := sr_wp_go kX0_lifeHas_32 w
theorem kX0_lifeHas_33 : sr_is cX0_lifeHas 33 iX0_lifeHas_33 = true := sr_is_suf (as := aX0_lifeHas_32) kX0_lifeHas_32
theorem lX0_lifeHas_33 {d : Nat} {L : sr_L} {st : List Value} {b : Nat × Nat} {h : sr_H} {P : Option Value → sr_H → Prop} (w : sr_wp mX0_lifeHas d iX0_lifeHas_33 33 L st b h P) : sr_Go mX0_lifeHas d 33 L st b h P := sr_wp_go kX0_lifeHas_33 w
def iX0_thingsOfLife_33 : List (Instr × Nat × Nat) := [(.iload_n 2, 34, 0), (.ireturn, 35, 0)]
def aX0_thingsOfLife_27 : List (Instr × Nat × Nat) := [(.iinc 3 1, 30, 0), (.goto (-26), 33, 4)]
def iX0_thingsOfLife_27 : List (Instr × Nat × Nat) := aX0_thingsOfLife_27 ++ iX0_thingsOfLife_33
def aX0_thingsOfLife_4 : List (Instr × Nat × Nat) := [(.iload_n 3, 5, 0), (.aload_n 0, 6, 0), (.getfield 18, 9, 0), (.if_icmp .ge 24, 12, 33), (.aload_n 0, 13, 0), (.iload_n 1, 14, 0), (.iload_n 3, 15, 0), (.invokevirtual 55, 18, 0), (.ifCond .eq 9, 21, 27), (.iload_n 2, 22, 0), (.iconst 1, 23, 0), (.iload_n 3, 24, 0), (.ishl, 25, 0), (.ior, 26, 0), (.istore_n 2, 27, 0)]
def iX0_thingsOfLife_4 : List (Instr × Nat × Nat) := aX0_thingsOfLife_4 ++ iX0_thingsOfLife_27
def aX0_thingsOfLife_0 : List (Instr × Nat × Nat) := [(.iconst 0, 1, 0), (.istore_n 2, 2, 0), (.iconst 0, 3, 0), (.istore_n 3, 4, 0)]
def iX0_thingsOfLife_0 : List (Instr × Nat × Nat) := aX0_thingsOfLife_0 ++ iX0_thingsOfLife_4
theorem kX0_thingsOfLife_0 : sr_is cX0_thingsOfLife 0 iX0_thingsOfLife_0 = true := by decide +kernel
theorem lX0_thingsOfLife_0 {d : Nat} {L : sr_L} {st : List Value} {b : Nat × Nat} {h : sr_H} {P : Option Value → sr_H → Prop} (w : sr_wp mX0_thingsOfLife d iX0_thingsOfLife_0 0 L st b h P) : sr_Go mX0_thingsOfLife d 0 L st b h P := sr_wp_go kX0_thingsOfLife_0 w
theorem kX0_thingsOfLife_4 : sr_is cX0_thingsOfLife 4 iX0_thingsOfLife_4 = true := sr_is_suf (as := aX0_thingsOfLife_0) kX0_thingsOfLife_0
theorem lX0_thingsOfLife_4 {d : Nat} {L : sr_L} {st : List Value} {b : Nat × Nat} {h : sr_H} {P : Option Value → sr_H → Prop} (w : sr_wp mX0_thingsOfLife d iX0_thingsOfLife_4 4 L st b h P) : sr_Go mX0_thingsOfLife d 4 L st b h P := sr_wp_go kX0_thingsOfLife_4 w
theorem kX0_thingsOfLife_27 : sr_is cX0_thingsOfLife 27 iX0_thingsOfLife_27 = true := sr_is_suf (as := aX0_thingsOfLife_4) kX0_thingsOfLife_4
theorem lX0_thingsOfLife_27 {d : Nat} {L : sr_L} {st : List Value} {b : Nat × Nat} {h : sr_H} {P : Option Value → sr_H → Prop} (w : sr_wp mX0_thingsOfLife d iX0_thingsOfLife_27 27 L st b h P) : sr_Go mX0_thingsOfLife d 27 L st b h P := sr_wp_go kX0_thingsOfLife_27 w
theorem kX0_thingsOfLife_33 : sr_is cX0_thingsOfLife 33 iX0_thingsOfLife_33 = true := sr_is_suf (as := aX0_thingsOfLife_27) kX0_thingsOfLife_27
theorem lX0_thingsOfLife_33 {d : Nat} {L : sr_L} {st : List Value} {b : Nat × Nat} {h : sr_H} {P : Option Value → sr_H → Prop} (w : sr_wp mX0_thingsOfLife d iX0_thingsOfLife_33 33 L st b h P) : sr_Go mX0_thingsOfLife d 33 L st b h P := sr_wp_go kX0_thingsOfLife_33 w
def iX0_secondLifeAt_108 : List (Instr × Nat × Nat) := [(.iload 4, 110, 0), (.ireturn, 111, 0)]
def aX0_secondLifeAt_93 : List (Instr × Nat × Nat) := [(.aload_n 0, 94, 0), (.iload 4, 96, 0), (.iload_n 3, 97, 0), (.invokevirtual 62, 100, 0), (.bipush (-2), 102, 0), (.iand, 103, 0), (.iload_n 3, 104, 0), (.iconst 1, 105, 0), (.iand, 106, 0), (.ior, 107, 0), (.ireturn, 108, 0)]
def iX0_secondLifeAt_93 : List (Instr × Nat × Nat) := aX0_secondLifeAt_93 ++ iX0_secondLifeAt_108
def aX0_secondLifeAt_85 : List (Instr × Nat × Nat) := [(.aload_n 0, 86, 0), (.iload 4, 88, 0), (.iload_n 3, 89, 0), (.invokevirtual 62, 92, 0), (.ireturn, 93, 0)]
def iX0_secondLifeAt_85 : List (Instr × Nat × Nat) := aX0_secondLifeAt_85 ++ iX0_secondLifeAt_93
def aX0_secondLifeAt_76 : List (Instr × Nat × Nat) := [(.iload 4, 78, 0), (.iconst 2, 79, 0), (.iload_n 2, 80, 0), (.ishl, 81, 0), (.iconst 1, 82, 0), (.isub, 83, 0), (.iand, 84, 0), (.ireturn, 85, 0)]
def iX0_secondLifeAt_76 : List (Instr × Nat × Nat) := aX0_secondLifeAt_76 ++ iX0_secondLifeAt_85
def aX0_secondLifeAt_69 : List (Instr × Nat × Nat) := [(.iload_n 3, 70, 0), (.iload 5, 72, 0), (.iconst 1, 73, 0), (.ior, 74, 0), (.ixor, 75, 0), (.ireturn, 76, 0)]
def iX0_secondLifeAt_69 : List (Instr × Nat × Nat) := aX0_secondLifeAt_69 ++ iX0_secondLifeAt_76
def aX0_secondLifeAt_64 : List (Instr × Nat × Nat) := [(.iload_n 3, 65, 0), (.iload 5, 67, 0), (.ixor, 68, 0), (.ireturn, 69, 0)]
def iX0_secondLifeAt_64 : List (Instr × Nat × Nat) := aX0_secondLifeAt_64 ++ iX0_secondLifeAt_69
def aX0_secondLifeAt_0 : List (Instr × Nat × Nat) := [(.aload_n 0, 1, 0), (.getfield 25, 4, 0), (.iload_n 1, 5, 0), (.iaload, 6, 0), (.istore_n 3, 7, 0), (.iload_n 3, 8, 0), (.iconst 1, 9, 0), (.iload_n 2, 10, 0), (.ishl, 11, 0), (.ixor, 12, 0), (.istore 4, 14, 0), (.aload_n 0, 15, 0), (.invokevirtual 58, 18, 0), (.iconst 1, 19, 0), (.iload_n 2, 20, 0), (.ishl, 21, 0), (.isub, 22, 0), (.istore 5, 24, 0), (.aload_n 0, 25, 0), (.getfield 21, 28, 0), (.iload_n 1, 29, 0), (.iaload, 30, 0), (.tableswitch 78 1 5 #[34, 46, 55, 39, 63], 64, 0)]
def iX0_secondLifeAt_0 : List (Instr × Nat × Nat) := aX0_secondLifeAt_0 ++ iX0_secondLifeAt_64
theorem kX0_secondLifeAt_0 : sr_is cX0_secondLifeAt 0 iX0_secondLifeAt_0 = true := by decide +kernel
theorem lX0_secondLifeAt_0 {d : Nat} {L : sr_L} {st : List Value} {b : Nat × Nat} {h : sr_H} {P : Option Value → sr_H → Prop} (w : sr_wp mX0_secondLifeAt d iX0_secondLifeAt_0 0 L st b h P) : sr_Go mX0_secondLifeAt d 0 L st b h P := sr_wp_go kX0_secondLifeAt_0 w
theorem kX0_secondLifeAt_64 : sr_is cX0_secondLifeAt 64 iX0_secondLifeAt_64 = true := sr_is_suf (as := aX0_secondLifeAt_0) kX0_secondLifeAt_0
theorem lX0_secondLifeAt_64 {d : Nat} {L : sr_L} {st : List Value} {b : Nat × Nat} {h : sr_H} {P : Option Value → sr_H → Prop} (w : sr_wp mX0_secondLifeAt d iX0_secondLifeAt_64 64 L st b h P) : sr_Go mX0_secondLifeAt d 64 L st b h P := sr_wp_go kX0_secondLifeAt_64 w
theorem kX0_secondLifeAt_69 : sr_is cX0_secondLifeAt 69 iX0_secondLifeAt_69 = true := sr_is_suf (as := aX0_secondLifeAt_64) kX0_secondLifeAt_64
theorem lX0_secondLifeAt_69 {d : Nat} {L : sr_L} {st : List Value} {b : Nat × Nat} {h : sr_H} {P : Option Value → sr_H → Prop} (w : sr_wp mX0_secondLifeAt d iX0_secondLifeAt_69 69 L st b h P) : sr_Go mX0_secondLifeAt d 69 L st b h P := sr_wp_go kX0_secondLifeAt_69 w
theorem kX0_secondLifeAt_76 : sr_is cX0_secondLifeAt 76 iX0_secondLifeAt_76 = true := sr_is_suf (as := aX0_secondLifeAt_69) kX0_secondLifeAt_69
theorem lX0_secondLifeAt_76 {d : Nat} {L : sr_L} {st : List Value} {b : Nat × Nat} {h : sr_H} {P : Option Value → sr_H → Prop} (w : sr_wp mX0_secondLifeAt d iX0_secondLifeAt_76 76 L st b h P) : sr_Go mX0_secondLifeAt d 76 L st b h P := sr_wp_go kX0_secondLifeAt_76 w
theorem kX0_secondLifeAt_85 : sr_is cX0_secondLifeAt 85 iX0_secondLifeAt_85 = true := sr_is_suf (as := aX0_secondLifeAt_76) kX0_secondLifeAt_76
theorem lX0_secondLifeAt_85 {d : Nat} {L : sr_L} {st : List Value} {b : Nat × Nat} {h : sr_H} {P : Option Value → sr_H → Prop} (w : sr_wp mX0_secondLifeAt d iX0_secondLifeAt_85 85 L st b h P) : sr_Go mX0_secondLifeAt d 85 L st b h P := sr_wp_go kX0_secondLifeAt_85 w
theorem kX0_secondLifeAt_93 : sr_is cX0_secondLifeAt 93 iX0_secondLifeAt_93 = true := sr_is_suf (as := aX0_secondLifeAt_85) kX0_secondLifeAt_85
theorem lX0_secondLifeAt_93 {d : Nat} {L : sr_L} {st : List Value} {b : Nat × Nat} {h : sr_H} {P : Option Value → sr_H → Prop} (w : sr_wp mX0_secondLifeAt d iX0_secondLifeAt_93 93 L st b h P) : sr_Go mX0_secondLifeAt d 93 L st b h P := sr_wp_go kX0_secondLifeAt_93 w
theorem kX0_secondLifeAt_108 : sr_is cX0_secondLifeAt 108 iX0_secondLifeAt_108 = true := sr_is_suf (as := aX0_secondLifeAt_93) kX0_secondLifeAt_93
theorem lX0_secondLifeAt_108 {d : Nat} {L : sr_L} {st : List Value} {b : Nat × Nat} {h : sr_H} {P : Option Value → sr_H → Prop} (w : sr_wp mX0_secondLifeAt d iX0_secondLifeAt_108 108 L st b h P) : sr_Go mX0_secondLifeAt d 108 L st b h P := sr_wp_go kX0_secondLifeAt_108 w
def iX0_lastAsFirst_26 : List (Instr × Nat × Nat) := [(.ior, 27, 0), (.ireturn, 28, 0)]
def aX0_lastAsFirst_25 : List (Instr × Nat × Nat) := [(.iconst 0, 26, 0)]
def iX0_lastAsFirst_25 : List (Instr × Nat × Nat) := aX0_lastAsFirst_25 ++ iX0_lastAsFirst_26
def aX0_lastAsFirst_0 : List (Instr × Nat × Nat) := [(.iconst 1, 1, 0), (.aload_n 0, 2, 0), (.getfield 9, 5, 0), (.iconst 1, 6, 0), (.isub, 7, 0), (.ishl, 8, 0), (.istore_n 3, 9, 0), (.iload_n 1, 10, 0), (.iload_n 3, 11, 0), (.iconst (-1), 12, 0), (.ixor, 13, 0), (.iand, 14, 0), (.iload_n 2, 15, 0), (.iconst 1, 16, 0), (.iand, 17, 0), (.iconst 1, 18, 0), (.if_icmp .ne 7, 21, 25), (.iload_n 3, 22, 0), (.goto 4, 25, 26)]
def iX0_lastAsFirst_0 : List (Instr × Nat × Nat) := aX0_lastAsFirst_0 ++ iX0_lastAsFirst_25
theorem kX0_lastAsFirst_0 : sr_is cX0_lastAsFirst 0 iX0_lastAsFirst_0 = true := by decide +kernel
theorem lX0_lastAsFirst_0 {d : Nat} {L : sr_L} {st : List Value} {b : Nat × Nat} {h : sr_H} {P : Option Value → sr_H → Prop} (w : sr_wp mX0_lastAsFirst d iX0_lastAsFirst_0 0 L st b h P) : sr_Go mX0_lastAsFirst d 0 L st b h P := sr_wp_go kX0_lastAsFirst_0 w
theorem kX0_lastAsFirst_25 : sr_is cX0_lastAsFirst 25 iX0_lastAsFirst_25 = true := sr_is_suf (as := aX0_lastAsFirst_0) kX0_lastAsFirst_0
theorem lX0_lastAsFirst_25 {d : Nat} {L : sr_L} {st : List Value} {b : Nat × Nat} {h : sr_H} {P : Option Value → sr_H → Prop} (w : sr_wp mX0_lastAsFirst d iX0_lastAsFirst_25 25 L st b h P) : sr_Go mX0_lastAsFirst d 25 L st b h P := sr_wp_go kX0_lastAsFirst_25 w
theorem kX0_lastAsFirst_26 : sr_is cX0_lastAsFirst 26 iX0_lastAsFirst_26 = true := sr_is_suf (as := aX0_lastAsFirst_25) kX0_lastAsFirst_25
theorem lX0_lastAsFirst_26 {d : Nat} {L : sr_L} {st : List Value} {b : Nat × Nat} {h : sr_H} {P : Option Value → sr_H → Prop} (w : sr_wp mX0_lastAsFirst d iX0_lastAsFirst_26 26 L st b h P) : sr_Go mX0_lastAsFirst d 26 L st b h P := sr_wp_go kX0_lastAsFirst_26 w
def iX1_init_0 : List (Instr × Nat × Nat) := [(.aload_n 0, 1, 0), (.invokespecial 3, 4, 0), (.aload_n 0, 5, 0), (.iconst 0, 6, 0), (.putfield 9, 9, 0), (.aload_n 0, 10, 0), (.iconst 0, 11, 0), (.putfield 15, 14, 0), (.aload_n 0, 15, 0), (.iconst 0, 16, 0), (.putfield 18, 19, 0), (.aload_n 0, 20, 0), (.iconst 5, 21, 0), (.newarray .int, 23, 0), (.putfield 21, 26, 0), (.aload_n 0, 27, 0), (.bipush 10, 29, 0), (.newarray .int, 31, 0), (.putfield 25, 34, 0), (.aload_n 0, 35, 0), (.bipush 60, 37, 0), (.newarray .int, 39, 0), (.putfield 28, 42, 0), (.aload_n 0, 43, 0), (.bipush 60, 45, 0), (.newarray .int, 47, 0), (.putfield 31, 50, 0), (.return_, 51, 0)]
theorem kX1_init_0 : sr_is cX1_init 0 iX1_init_0 = true := by decide +kernel
theorem lX1_init_0 {d : Nat} {L : sr_L} {st : List Value} {b : Nat × Nat} {h : sr_H} {P : Option Value → sr_H → Prop} (w : sr_wp mX1_init d iX1_init_0 0 L st b h P) : sr_Go mX1_init d 0 L st b h P := sr_wp_go kX1_init_0 w
def iX1_isForgotten_12 : List (Instr × Nat × Nat) := [(.ireturn, 13, 0)]
def aX1_isForgotten_11 : List (Instr × Nat × Nat) := [(.iconst 0, 12, 0)]
def iX1_isForgotten_11 : List (Instr × Nat × Nat) := aX1_isForgotten_11 ++ iX1_isForgotten_12
def aX1_isForgotten_0 : List (Instr × Nat × Nat) := [(.aload_n 0, 1, 0), (.getfield 9, 4, 0), (.ifCond .ge 7, 7, 11), (.iconst 1, 8, 0), (.goto 4, 11, 12)]
def iX1_isForgotten_0 : List (Instr × Nat × Nat) := aX1_isForgotten_0 ++ iX1_isForgotten_11
theorem kX1_isForgotten_0 : sr_is cX1_isForgotten 0 iX1_isForgotten_0 = true := by decide +kernel
theorem lX1_isForgotten_0 {d : Nat} {L : sr_L} {st : List Value} {b : Nat × Nat} {h : sr_H} {P : Option Value → sr_H → Prop} (w : sr_wp mX1_isForgotten d iX1_isForgotten_0 0 L st b h P) : sr_Go mX1_isForgotten d 0 L st b h P := sr_wp_go kX1_isForgotten_0 w
theorem kX1_isForgotten_11 : sr_is cX1_isForgotten 11 iX1_isForgotten_11 = true := sr_is_suf (as := aX1_isForgotten_0) kX1_isForgotten_0
theorem lX1_isForgotten_11 {d : Nat} {L : sr_L} {st : List Value} {b : Nat × Nat} {h : sr_H} {P : Option Value → sr_H → Prop} (w : sr_wp mX1_isForgotten d iX1_isForgotten_11 11 L st b h P) : sr_Go mX1_isForgotten d 11 L st b h P := sr_wp_go kX1_isForgotten_11 w
theorem kX1_isForgotten_12 : sr_is cX1_isForgotten 12 iX1_isForgotten_12 = true := sr_is_suf (as := aX1_isForgotten_11) kX1_isForgotten_11
theorem lX1_isForgotten_12 {d : Nat} {L : sr_L} {st : List Value} {b : Nat × Nat} {h : sr_H} {P : Option Value → sr_H → Prop} (w : sr_wp mX1_isForgotten d iX1_isForgotten_12 12 L st b h P) : sr_Go mX1_isForgotten d 12 L st b h P := sr_wp_go kX1_isForgotten_12 w
def iX1_forget_0 : List (Instr × Nat × Nat) := [(.aload_n 0, 1, 0), (.iconst (-1), 2, 0), (.putfield 9, 5, 0), (.return_, 6, 0)]
theorem kX1_forget_0 : sr_is cX1_forget 0 iX1_forget_0 = true := by decide +kernel
theorem lX1_forget_0 {d : Nat} {L : sr_L} {st : List Value} {b : Nat × Nat} {h : sr_H} {P : Option Value → sr_H → Prop} (w : sr_wp mX1_forget d iX1_forget_0 0 L st b h P) : sr_Go mX1_forget d 0 L st b h P := sr_wp_go kX1_forget_0 w
def iX1_begin_60 : List (Instr × Nat × Nat) := [(.return_, 61, 0)]
def aX1_begin_17 : List (Instr × Nat × Nat) := [(.iload_n 2, 18, 0), (.iconst 5, 19, 0), (.if_icmp .ge 41, 22, 60), (.aload_n 0, 23, 0), (.getfield 21, 26, 0), (.iload_n 2, 27, 0), (.aload_n 1, 28, 0), (.getfield 34, 31, 0), (.iload_n 2, 32, 0), (.iaload, 33, 0), (.iastore, 34, 0), (.aload_n 0, 35, 0), (.getfield 25, 38, 0), (.iconst 2, 39, 0), (.iload_n 2, 40, 0), (.imul, 41, 0), (.iconst 0, 42, 0), (.iastore, 43, 0), (.aload_n 0, 44, 0), (.getfield 25, 47, 0), (.iconst 2, 48, 0), (.iload_n 2, 49, 0), (.imul, 50, 0), (.iconst 1, 51, 0), (.iadd, 52, 0), (.iconst 0, 53, 0), (.iastore, 54, 0), (.iinc 2 1, 57, 0), (.goto (-40), 60, 17)]
def iX1_begin_17 : List (Instr × Nat × Nat) := aX1_begin_17 ++ iX1_begin_60
def aX1_begin_0 : List (Instr × Nat × Nat) := [(.aload_n 0, 1, 0), (.iconst 0, 2, 0), (.putfield 9, 5, 0), (.aload_n 0, 6, 0), (.iconst 0, 7, 0), (.putfield 15, 10, 0), (.aload_n 0, 11, 0), (.iconst 0, 12, 0), (.putfield 18, 15, 0), (.iconst 0, 16, 0), (.istore_n 2, 17, 0)]
def iX1_begin_0 : List (Instr × Nat × Nat) := aX1_begin_0 ++ iX1_begin_17
theorem kX1_begin_0 : sr_is cX1_begin 0 iX1_begin_0 = true := by decide +kernel
theorem lX1_begin_0 {d : Nat} {L : sr_L} {st : List Value} {b : Nat × Nat} {h : sr_H} {P : Option Value → sr_H → Prop} (w : sr_wp mX1_begin d iX1_begin_0 0 L st b h P) : sr_Go mX1_begin d 0 L st b h P := sr_wp_go kX1_begin_0 w
theorem kX1_begin_17 : sr_is cX1_begin 17 iX1_begin_17 = true := sr_is_suf (as := aX1_begin_0) kX1_begin_0
theorem lX1_begin_17 {d : Nat} {L : sr_L} {st : List Value} {b : Nat × Nat} {h : sr_H} {P : Option Value → sr_H → Prop} (w : sr_wp mX1_begin d iX1_begin_17 17 L st b h P) : sr_Go mX1_begin d 17 L st b h P := sr_wp_go kX1_begin_17 w
theorem kX1_begin_60 : sr_is cX1_begin 60 iX1_begin_60 = true := sr_is_suf (as := aX1_begin_17) kX1_begin_17
theorem lX1_begin_60 {d : Nat} {L : sr_L} {st : List Value} {b : Nat × Nat} {h : sr_H} {P : Option Value → sr_H → Prop} (w : sr_wp mX1_begin d iX1_begin_60 60 L st b h P) : sr_Go mX1_begin d 60 L st b h P := sr_wp_go kX1_begin_60 w
def iX1_takeOver_0 : List (Instr × Nat × Nat) := [(.aload_n 0, 1, 0), (.aload_n 1, 2, 0), (.getfield 9, 5, 0), (.putfield 9, 8, 0), (.aload_n 0, 9, 0), (.aload_n 1, 10, 0), (.getfield 15, 13, 0), (.putfield 15, 16, 0), (.aload_n 0, 17, 0), (.aload_n 1, 18, 0), (.getfield 18, 21, 0), (.putfield 18, 24, 0), (.aload_n 1, 25, 0), (.getfield 21, 28, 0), (.iconst 0, 29, 0), (.aload_n 0, 30, 0), (.getfield 21, 33, 0), (.iconst 0, 34, 0), (.iconst 5, 35, 0), (.invokestatic 39, 38, 0), (.aload_n 1, 39, 0), (.getfield 25, 42, 0), (.iconst 0, 43, 0), (.aload_n 0, 44, 0), (.getfield 25, 47, 0), (.iconst 0, 48, 0), (.bipush 10, 50, 0), (.invokestatic 39, 53, 0), (.aload_n 1, 54, 0), (.getfield 28, 57, 0), (.iconst 0, 58, 0), (.aload_n 0, 59, 0), (.getfield 28, 62, 0), (.iconst 0, 63, 0), (.bipush 60, 65, 0), (.invokestatic 39, 68, 0), (.aload_n 1, 69, 0), (.getfield 31, 72, 0), (.iconst 0, 73, 0), (.aload_n 0, 74, 0), (.getfield 31, 77, 0), (.iconst 0, 78, 0), (.bipush 60, 80, 0), (.invokestatic 39, 83, 0), (.return_, 84, 0)]
theorem kX1_takeOver_0 : sr_is cX1_takeOver 0 iX1_takeOver_0 = true := by decide +kernel
theorem lX1_takeOver_0 {d : Nat} {L : sr_L} {st : List Value} {b : Nat × Nat} {h : sr_H} {P : Option Value → sr_H → Prop} (w : sr_wp mX1_takeOver d iX1_takeOver_0 0 L st b h P) : sr_Go mX1_takeOver d 0 L st b h P := sr_wp_go kX1_takeOver_0 w
def iX1_roomOf_0 : List (Instr × Nat × Nat) := [(.aload_n 0, 1, 0), (.getfield 15, 4, 0), (.iload_n 1, 5, 0), (.ishr, 6, 0), (.iconst 1, 7, 0), (.iand, 8, 0), (.ireturn, 9, 0)]
theorem kX1_roomOf_0 : sr_is cX1_roomOf 0 iX1_roomOf_0 = true := by decide +kernel
theorem lX1_roomOf_0 {d : Nat} {L : sr_L} {st : List Value} {b : Nat × Nat} {h : sr_H} {P : Option Value → sr_H → Prop} (w : sr_wp mX1_roomOf d iX1_roomOf_0 0 L st b h P) : sr_Go mX1_roomOf d 0 L st b h P := sr_wp_go kX1_roomOf_0 w
def iX1_lockedOf_0 : List (Instr × Nat × Nat) := [(.aload_n 0, 1, 0), (.getfield 18, 4, 0), (.iload_n 1, 5, 0), (.ishr, 6, 0), (.iconst 1, 7, 0), (.iand, 8, 0), (.ireturn, 9, 0)]
theorem kX1_lockedOf_0 : sr_is cX1_lockedOf 0 iX1_lockedOf_0 = true := by decide +kernel
theorem lX1_lockedOf_0 {d : Nat} {L : sr_L} {st : List Value} {b : Nat × Nat} {h : sr_H} {P : Option Value → sr_H → Prop} (w : sr_wp mX1_lockedOf d iX1_lockedOf_0 0 L st b h P) : sr_Go mX1_lockedOf d 0 L st b h P := sr_wp_go kX1_lockedOf_0 w
def iX1_hoursOf_0 : List (Instr × Nat × Nat) := [(.aload_n 0, 1, 0), (.getfield 25, 4, 0), (.iconst 2, 5, 0), (.iload_n 1, 6, 0), (.imul, 7, 0), (.iload_n 2, 8, 0), (.iadd, 9, 0), (.iaload, 10, 0), (.ireturn, 11, 0)]
theorem kX1_hoursOf_0 : sr_is cX1_hoursOf 0 iX1_hoursOf_0 = true := by decide +kernel
theorem lX1_hoursOf_0 {d : Nat} {L : sr_L} {st : List Value} {b : Nat × Nat} {h : sr_H} {P : Option Value → sr_H → Prop} (w : sr_wp mX1_hoursOf d iX1_hoursOf_0 0 L st b h P) : sr_Go mX1_hoursOf d 0 L st b h P := sr_wp_go kX1_hoursOf_0 w
def iX1_act_53 : List (Instr × Nat × Nat) := [(.return_, 54, 0)]
def aX1_act_0 : List (Instr × Nat × Nat) := [(.aload_n 0, 1, 0), (.getfield 9, 4, 0), (.ifCond .lt 49, 7, 53), (.aload_n 0, 8, 0), (.getfield 9, 11, 0), (.bipush 60, 13, 0), (.if_icmp .ge 40, 16, 53), (.aload_n 0, 17, 0), (.getfield 28, 20, 0), (.aload_n 0, 21, 0), (.getfield 9, 24, 0), (.iload_n 1, 25, 0), (.iastore, 26, 0), (.aload_n 0, 27, 0), (.getfield 31, 30, 0), (.aload_n 0, 31, 0), (.getfield 9, 34, 0), (.iload_n 2, 35, 0), (.iastore, 36, 0), (.aload_n 0, 37, 0), (.dup, 38, 0), (.getfield 9, 41, 0), (.iconst 1, 42, 0), (.iadd, 43, 0), (.putfield 9, 46, 0), (.aload_n 0, 47, 0), (.iload_n 1, 48, 0), (.iload_n 2, 49, 0), (.iconst 1, 50, 0), (.invokevirtual 45, 53, 0)]
def iX1_act_0 : List (Instr × Nat × Nat) := aX1_act_0 ++ iX1_act_53
theorem kX1_act_0 : sr_is cX1_act 0 iX1_act_0 = true := by decide +kernel
theorem lX1_act_0 {d : Nat} {L : sr_L} {st : List Value} {b : Nat × Nat} {h : sr_H} {P : Option Value → sr_H → Prop} (w : sr_wp mX1_act d iX1_act_0 0 L st b h P) : sr_Go mX1_act d 0 L st b h P := sr_wp_go kX1_act_0 w
theorem kX1_act_53 : sr_is cX1_act 53 iX1_act_53 = true := sr_is_suf (as := aX1_act_0) kX1_act_0
theorem lX1_act_53 {d : Nat} {L : sr_L} {st : List Value} {b : Nat × Nat} {h : sr_H} {P : Option Value → sr_H → Prop} (w : sr_wp mX1_act d iX1_act_53 53 L st b h P) : sr_Go mX1_act d 53 L st b h P := sr_wp_go kX1_act_53 w
def iX1_takeBackFrom_46 : List (Instr × Nat × Nat) := [(.aload_n 0, 47, 0), (.iload_n 1, 48, 0), (.putfield 9, 51, 0), (.iload_n 2, 52, 0), (.ireturn, 53, 0)]
def aX1_takeBackFrom_14 : List (Instr × Nat × Nat) := [(.iload_n 3, 15, 0), (.iload_n 1, 16, 0), (.if_icmp .lt 30, 19, 46), (.iload_n 3, 20, 0), (.ifCond .lt 26, 23, 46), (.aload_n 0, 24, 0), (.aload_n 0, 25, 0), (.getfield 28, 28, 0), (.iload_n 3, 29, 0), (.iaload, 30, 0), (.aload_n 0, 31, 0), (.getfield 31, 34, 0), (.iload_n 3, 35, 0), (.iaload, 36, 0), (.iconst (-1), 37, 0), (.invokevirtual 45, 40, 0), (.iinc 3 (-1), 43, 0), (.goto (-29), 46, 14)]
def iX1_takeBackFrom_14 : List (Instr × Nat × Nat) := aX1_takeBackFrom_14 ++ iX1_takeBackFrom_46
def aX1_takeBackFrom_0 : List (Instr × Nat × Nat) := [(.aload_n 0, 1, 0), (.getfield 9, 4, 0), (.iload_n 1, 5, 0), (.isub, 6, 0), (.istore_n 2, 7, 0), (.aload_n 0, 8, 0), (.getfield 9, 11, 0), (.iconst 1, 12, 0), (.isub, 13, 0), (.istore_n 3, 14, 0)]
def iX1_takeBackFrom_0 : List (Instr × Nat × Nat) := aX1_takeBackFrom_0 ++ iX1_takeBackFrom_14
theorem kX1_takeBackFrom_0 : sr_is cX1_takeBackFrom 0 iX1_takeBackFrom_0 = true := by decide +kernel
theorem lX1_takeBackFrom_0 {d : Nat} {L : sr_L} {st : List Value} {b : Nat × Nat} {h : sr_H} {P : Option Value → sr_H → Prop} (w : sr_wp mX1_takeBackFrom d iX1_takeBackFrom_0 0 L st b h P) : sr_Go mX1_takeBackFrom d 0 L st b h P := sr_wp_go kX1_takeBackFrom_0 w
theorem kX1_takeBackFrom_14 : sr_is cX1_takeBackFrom 14 iX1_takeBackFrom_14 = true := sr_is_suf (as := aX1_takeBackFrom_0) kX1_takeBackFrom_0
theorem lX1_takeBackFrom_14 {d : Nat} {L : sr_L} {st : List Value} {b : Nat × Nat} {h : sr_H} {P : Option Value → sr_H → Prop} (w : sr_wp mX1_takeBackFrom d iX1_takeBackFrom_14 14 L st b h P) : sr_Go mX1_takeBackFrom d 14 L st b h P := sr_wp_go kX1_takeBackFrom_14 w
theorem kX1_takeBackFrom_46 : sr_is cX1_takeBackFrom 46 iX1_takeBackFrom_46 = true := sr_is_suf (as := aX1_takeBackFrom_14) kX1_takeBackFrom_14
theorem lX1_takeBackFrom_46 {d : Nat} {L : sr_L} {st : List Value} {b : Nat × Nat} {h : sr_H} {P : Option Value → sr_H → Prop} (w : sr_wp mX1_takeBackFrom d iX1_takeBackFrom_46 46 L st b h P) : sr_Go mX1_takeBackFrom d 46 L st b h P := sr_wp_go kX1_takeBackFrom_46 w
def iX1_carryOut_57 : List (Instr × Nat × Nat) := [(.return_, 58, 0)]
def aX1_carryOut_39 : List (Instr × Nat × Nat) := [(.aload_n 0, 40, 0), (.getfield 25, 43, 0), (.iconst 2, 44, 0), (.iload_n 2, 45, 0), (.imul, 46, 0), (.aload_n 0, 47, 0), (.iload_n 2, 48, 0), (.invokevirtual 49, 51, 0), (.iadd, 52, 0), (.dup2, 53, 0), (.iaload, 54, 0), (.iload_n 3, 55, 0), (.iadd, 56, 0), (.iastore, 57, 0)]
def iX1_carryOut_39 : List (Instr × Nat × Nat) := aX1_carryOut_39 ++ iX1_carryOut_57
def aX1_carryOut_19 : List (Instr × Nat × Nat) := [(.iload_n 1, 20, 0), (.iconst 1, 21, 0), (.if_icmp .ne 18, 24, 39), (.aload_n 0, 25, 0), (.dup, 26, 0), (.getfield 18, 29, 0), (.iconst 1, 30, 0), (.iload_n 2, 31, 0), (.ishl, 32, 0), (.ixor, 33, 0), (.putfield 18, 36, 0), (.goto 21, 39, 57)]
def iX1_carryOut_19 : List (Instr × Nat × Nat) := aX1_carryOut_19 ++ iX1_carryOut_39
def aX1_carryOut_0 : List (Instr × Nat × Nat) := [(.iload_n 1, 1, 0), (.ifCond .ne 18, 4, 19), (.aload_n 0, 5, 0), (.dup, 6, 0), (.getfield 15, 9, 0), (.iconst 1, 10, 0), (.iload_n 2, 11, 0), (.ishl, 12, 0), (.ixor, 13, 0), (.putfield 15, 16, 0), (.goto 41, 19, 57)]
def iX1_carryOut_0 : List (Instr × Nat × Nat) := aX1_carryOut_0 ++ iX1_carryOut_19
theorem kX1_carryOut_0 : sr_is cX1_carryOut 0 iX1_carryOut_0 = true := by decide +kernel
theorem lX1_carryOut_0 {d : Nat} {L : sr_L} {st : List Value} {b : Nat × Nat} {h : sr_H} {P : Option Value → sr_H → Prop} (w : sr_wp mX1_carryOut d iX1_carryOut_0 0 L st b h P) : sr_Go mX1_carryOut d 0 L st b h P := sr_wp_go kX1_carryOut_0 w
theorem kX1_carryOut_19 : sr_is cX1_carryOut 19 iX1_carryOut_19 = true := sr_is_suf (as := aX1_carryOut_0) kX1_carryOut_0
theorem lX1_carryOut_19 {d : Nat} {L : sr_L} {st : List Value} {b : Nat × Nat} {h : sr_H} {P : Option Value → sr_H → Prop} (w : sr_wp mX1_carryOut d iX1_carryOut_19 19 L st b h P) : sr_Go mX1_carryOut d 19 L st b h P := sr_wp_go kX1_carryOut_19 w
theorem kX1_carryOut_39 : sr_is cX1_carryOut 39 iX1_carryOut_39 = true := sr_is_suf (as := aX1_carryOut_19) kX1_carryOut_19
theorem lX1_carryOut_39 {d : Nat} {L : sr_L} {st : List Value} {b : Nat × Nat} {h : sr_H} {P : Option Value → sr_H → Prop} (w : sr_wp mX1_carryOut d iX1_carryOut_39 39 L st b h P) : sr_Go mX1_carryOut d 39 L st b h P := sr_wp_go kX1_carryOut_39 w
theorem kX1_carryOut_57 : sr_is cX1_carryOut 57 iX1_carryOut_57 = true := sr_is_suf (as := aX1_carryOut_39) kX1_carryOut_39
theorem lX1_carryOut_57 {d : Nat} {L : sr_L} {st : List Value} {b : Nat × Nat} {h : sr_H} {P : Option Value → sr_H → Prop} (w : sr_wp mX1_carryOut d iX1_carryOut_57 57 L st b h P) : sr_Go mX1_carryOut d 57 L st b h P := sr_wp_go kX1_carryOut_57 w
def iX2_init_0 : List (Instr × Nat × Nat) := [(.aload_n 0, 1, 0), (.invokespecial 3, 4, 0), (.aload_n 0, 5, 0), (.iconst 0, 6, 0), (.putfield 9, 9, 0), (.aload_n 0, 10, 0), (.iconst 0, 11, 0), (.putfield 15, 14, 0), (.aload_n 0, 15, 0), (.iconst 0, 16, 0), (.putfield 18, 19, 0), (.aload_n 0, 20, 0), (.aload_n 1, 21, 0), (.putfield 21, 24, 0), (.return_, 25, 0)]
theorem kX2_init_0 : sr_is cX2_init 0 iX2_init_0 = true := by decide +kernel
theorem lX2_init_0 {d : Nat} {L : sr_L} {st : List Value} {b : Nat × Nat} {h : sr_H} {P : Option Value → sr_H → Prop} (w : sr_wp mX2_init d iX2_init_0 0 L st b h P) : sr_Go mX2_init d 0 L st b h P := sr_wp_go kX2_init_0 w
def iX2_read_107 : List (Instr × Nat × Nat) := [(.ireturn, 108, 0)]
def aX2_read_105 : List (Instr × Nat × Nat) := [(.bipush (-9), 107, 0)]
def iX2_read_105 : List (Instr × Nat × Nat) := aX2_read_105 ++ iX2_read_107
def aX2_read_91 : List (Instr × Nat × Nat) := [(.aload_n 2, 92, 0), (.getfield 46, 95, 0), (.ifCond .ne 10, 98, 105), (.aload_n 0, 99, 0), (.getfield 15, 102, 0), (.goto 5, 105, 107)]
def iX2_read_91 : List (Instr × Nat × Nat) := aX2_read_91 ++ iX2_read_105
def aX2_read_81 : List (Instr × Nat × Nat) := [(.aload_n 0, 82, 0), (.invokevirtual 36, 85, 0), (.iinc 3 1, 88, 0), (.goto (-39), 91, 49)]
def iX2_read_81 : List (Instr × Nat × Nat) := aX2_read_81 ++ iX2_read_91
def aX2_read_49 : List (Instr × Nat × Nat) := [(.iload_n 3, 50, 0), (.aload_n 0, 51, 0), (.getfield 15, 54, 0), (.if_icmp .ge 37, 57, 91), (.aload_n 0, 58, 0), (.getfield 18, 61, 0), (.aload_n 0, 62, 0), (.getfield 15, 65, 0), (.if_icmp .ge 26, 68, 91), (.aload_n 0, 69, 0), (.aload_n 2, 70, 0), (.invokevirtual 43, 73, 0), (.ifCond .ne 8, 76, 81), (.aload_n 0, 77, 0), (.getfield 18, 80, 0), (.ireturn, 81, 0)]
def iX2_read_49 : List (Instr × Nat × Nat) := aX2_read_49 ++ iX2_read_81
def aX2_read_43 : List (Instr × Nat × Nat) := [(.aload_n 0, 44, 0), (.invokevirtual 36, 47, 0), (.iconst 0, 48, 0), (.istore_n 3, 49, 0)]
def iX2_read_43 : List (Instr × Nat × Nat) := aX2_read_43 ++ iX2_read_49
def aX2_read_0 : List (Instr × Nat × Nat) := [(.aload_n 0, 1, 0), (.iload_n 1, 2, 0), (.putfield 9, 5, 0), (.aload_n 0, 6, 0), (.aload_n 0, 7, 0), (.getfield 21, 10, 0), (.iload_n 1, 11, 0), (.invokevirtual 25, 14, 0), (.putfield 15, 17, 0), (.aload_n 0, 18, 0), (.iconst 0, 19, 0), (.putfield 18, 22, 0), (.aload_n 2, 23, 0), (.invokevirtual 31, 26, 0), (.aload_n 0, 27, 0), (.invokevirtual 36, 30, 0), (.aload_n 0, 31, 0), (.aload_n 2, 32, 0), (.invokevirtual 39, 35, 0), (.ifCond .ne 8, 38, 43), (.aload_n 0, 39, 0), (.getfield 18, 42, 0), (.ireturn, 43, 0)]
def iX2_read_0 : List (Instr × Nat × Nat) := aX2_read_0 ++ iX2_read_43
theorem kX2_read_0 : sr_is cX2_read 0 iX2_read_0 = true := by decide +kernel
theorem lX2_read_0 {d : Nat} {L : sr_L} {st : List Value} {b : Nat × Nat} {h : sr_H} {P : Option Value → sr_H → Prop} (w : sr_wp mX2_read d iX2_read_0 0 L st b h P) : sr_Go mX2_read d 0 L st b h P := sr_wp_go kX2_read_0 w
theorem kX2_read_43 : sr_is cX2_read 43 iX2_read_43 = true := sr_is_suf (as := aX2_read_0) kX2_read_0
theorem lX2_read_43 {d : Nat} {L : sr_L} {st : List Value} {b : Nat × Nat} {h : sr_H} {P : Option Value → sr_H → Prop} (w : sr_wp mX2_read d iX2_read_43 43 L st b h P) : sr_Go mX2_read d 43 L st b h P := sr_wp_go kX2_read_43 w
theorem kX2_read_49 : sr_is cX2_read 49 iX2_read_49 = true := sr_is_suf (as := aX2_read_43) kX2_read_43
theorem lX2_read_49 {d : Nat} {L : sr_L} {st : List Value} {b : Nat × Nat} {h : sr_H} {P : Option Value → sr_H → Prop} (w : sr_wp mX2_read d iX2_read_49 49 L st b h P) : sr_Go mX2_read d 49 L st b h P := sr_wp_go kX2_read_49 w
theorem kX2_read_81 : sr_is cX2_read 81 iX2_read_81 = true := sr_is_suf (as := aX2_read_49) kX2_read_49
theorem lX2_read_81 {d : Nat} {L : sr_L} {st : List Value} {b : Nat × Nat} {h : sr_H} {P : Option Value → sr_H → Prop} (w : sr_wp mX2_read d iX2_read_81 81 L st b h P) : sr_Go mX2_read d 81 L st b h P := sr_wp_go kX2_read_81 w
theorem kX2_read_91 : sr_is cX2_read 91 iX2_read_91 = true := sr_is_suf (as := aX2_read_81) kX2_read_81
theorem lX2_read_91 {d : Nat} {L : sr_L} {st : List Value} {b : Nat × Nat} {h : sr_H} {P : Option Value → sr_H → Prop} (w : sr_wp mX2_read d iX2_read_91 91 L st b h P) : sr_Go mX2_read d 91 L st b h P := sr_wp_go kX2_read_91 w
theorem kX2_read_105 : sr_is cX2_read 105 iX2_read_105 = true := sr_is_suf (as := aX2_read_91) kX2_read_91
theorem lX2_read_105 {d : Nat} {L : sr_L} {st : List Value} {b : Nat × Nat} {h : sr_H} {P : Option Value → sr_H → Prop} (w : sr_wp mX2_read d iX2_read_105 105 L st b h P) : sr_Go mX2_read d 105 L st b h P := sr_wp_go kX2_read_105 w
theorem kX2_read_107 : sr_is cX2_read 107 iX2_read_107 = true := sr_is_suf (as := aX2_read_105) kX2_read_105
theorem lX2_read_107 {d : Nat} {L : sr_L} {st : List Value} {b : Nat × Nat} {h : sr_H} {P : Option Value → sr_H → Prop} (w : sr_wp mX2_read d iX2_read_107 107 L st b h P) : sr_Go mX2_read d 107 L st b h P := sr_wp_go kX2_read_107 w
def iX2_here_30 : List (Instr × Nat × Nat) := [(.ireturn, 31, 0)]
def aX2_here_29 : List (Instr × Nat × Nat) := [(.iconst (-1), 30, 0)]
def iX2_here_29 : List (Instr × Nat × Nat) := aX2_here_29 ++ iX2_here_30
def aX2_here_0 : List (Instr × Nat × Nat) := [(.aload_n 0, 1, 0), (.getfield 18, 4, 0), (.aload_n 0, 5, 0), (.getfield 15, 8, 0), (.if_icmp .ge 21, 11, 29), (.aload_n 0, 12, 0), (.getfield 21, 15, 0), (.aload_n 0, 16, 0), (.getfield 9, 19, 0), (.aload_n 0, 20, 0), (.getfield 18, 23, 0), (.invokevirtual 49, 26, 0), (.goto 4, 29, 30)]
def iX2_here_0 : List (Instr × Nat × Nat) := aX2_here_0 ++ iX2_here_29
theorem kX2_here_0 : sr_is cX2_here 0 iX2_here_0 = true := by decide +kernel
theorem lX2_here_0 {d : Nat} {L : sr_L} {st : List Value} {b : Nat × Nat} {h : sr_H} {P : Option Value → sr_H → Prop} (w : sr_wp mX2_here d iX2_here_0 0 L st b h P) : sr_Go mX2_here d 0 L st b h P := sr_wp_go kX2_here_0 w
theorem kX2_here_29 : sr_is cX2_here 29 iX2_here_29 = true := sr_is_suf (as := aX2_here_0) kX2_here_0
theorem lX2_here_29 {d : Nat} {L : sr_L} {st : List Value} {b : Nat × Nat} {h : sr_H} {P : Option Value → sr_H → Prop} (w : sr_wp mX2_here d iX2_here_29 29 L st b h P) : sr_Go mX2_here d 29 L st b h P := sr_wp_go kX2_here_29 w
theorem kX2_here_30 : sr_is cX2_here 30 iX2_here_30 = true := sr_is_suf (as := aX2_here_29) kX2_here_29
theorem lX2_here_30 {d : Nat} {L : sr_L} {st : List Value} {b : Nat × Nat} {h : sr_H} {P : Option Value → sr_H → Prop} (w : sr_wp mX2_here d iX2_here_30 30 L st b h P) : sr_Go mX2_here d 30 L st b h P := sr_wp_go kX2_here_30 w
def iX2_skipBlanks_35 : List (Instr × Nat × Nat) := [(.return_, 36, 0)]
def aX2_skipBlanks_2 : List (Instr × Nat × Nat) := [(.iload_n 1, 3, 0), (.aload_n 0, 4, 0), (.getfield 15, 7, 0), (.if_icmp .ge 28, 10, 35), (.aload_n 0, 11, 0), (.invokevirtual 53, 14, 0), (.bipush 32, 16, 0), (.if_icmp .ne 19, 19, 35), (.aload_n 0, 20, 0), (.dup, 21, 0), (.getfield 18, 24, 0), (.iconst 1, 25, 0), (.iadd, 26, 0), (.putfield 18, 29, 0), (.iinc 1 1, 32, 0), (.goto (-30), 35, 2)]
def iX2_skipBlanks_2 : List (Instr × Nat × Nat) := aX2_skipBlanks_2 ++ iX2_skipBlanks_35
def aX2_skipBlanks_0 : List (Instr × Nat × Nat) := [(.iconst 0, 1, 0), (.istore_n 1, 2, 0)]
def iX2_skipBlanks_0 : List (Instr × Nat × Nat) := aX2_skipBlanks_0 ++ iX2_skipBlanks_2
theorem kX2_skipBlanks_0 : sr_is cX2_skipBlanks 0 iX2_skipBlanks_0 = true := by decide +kernel
theorem lX2_skipBlanks_0 {d : Nat} {L : sr_L} {st : List Value} {b : Nat × Nat} {h : sr_H} {P : Option Value → sr_H → Prop} (w : sr_wp mX2_skipBlanks d iX2_skipBlanks_0 0 L st b h P) : sr_Go mX2_skipBlanks d 0 L st b h P := sr_wp_go kX2_skipBlanks_0 w
theorem kX2_skipBlanks_2 : sr_is cX2_skipBlanks 2 iX2_skipBlanks_2 = true := sr_is_suf (as := aX2_skipBlanks_0) kX2_skipBlanks_0
theorem lX2_skipBlanks_2 {d : Nat} {L : sr_L} {st : List Value} {b : Nat × Nat} {h : sr_H} {P : Option Value → sr_H → Prop} (w : sr_wp mX2_skipBlanks d iX2_skipBlanks_2 2 L st b h P) : sr_Go mX2_skipBlanks d 2 L st b h P := sr_wp_go kX2_skipBlanks_2 w
theorem kX2_skipBlanks_35 : sr_is cX2_skipBlanks 35 iX2_skipBlanks_35 = true := sr_is_suf (as := aX2_skipBlanks_2) kX2_skipBlanks_2
theorem lX2_skipBlanks_35 {d : Nat} {L : sr_L} {st : List Value} {b : Nat × Nat} {h : sr_H} {P : Option Value → sr_H → Prop} (w : sr_wp mX2_skipBlanks d iX2_skipBlanks_35 35 L st b h P) : sr_Go mX2_skipBlanks d 35 L st b h P := sr_wp_go kX2_skipBlanks_35 w
def iX2_figure_20 : List (Instr × Nat × Nat) := [(.aload_n 0, 21, 0), (.dup, 22, 0), (.getfield 18, 25, 0), (.iconst 1, 26, 0), (.iadd, 27, 0), (.putfield 18, 30, 0), (.iload_n 3, 31, 0), (.ireturn, 32, 0)]
def aX2_figure_18 : List (Instr × Nat × Nat) := [(.iconst (-1), 19, 0), (.ireturn, 20, 0)]
def iX2_figure_18 : List (Instr × Nat × Nat) := aX2_figure_18 ++ iX2_figure_20
def aX2_figure_0 : List (Instr × Nat × Nat) := [(.aload_n 0, 1, 0), (.invokevirtual 53, 4, 0), (.bipush 48, 6, 0), (.isub, 7, 0), (.istore_n 3, 8, 0), (.iload_n 3, 9, 0), (.iload_n 1, 10, 0), (.if_icmp .lt 8, 13, 18), (.iload_n 3, 14, 0), (.iload_n 2, 15, 0), (.if_icmp .le 5, 18, 20)]
def iX2_figure_0 : List (Instr × Nat × Nat) := aX2_figure_0 ++ iX2_figure_18
theorem kX2_figure_0 : sr_is cX2_figure 0 iX2_figure_0 = true := by decide +kernel
theorem lX2_figure_0 {d : Nat} {L : sr_L} {st : List Value} {b : Nat × Nat} {h : sr_H} {P : Option Value → sr_H → Prop} (w : sr_wp mX2_figure d iX2_figure_0 0 L st b h P) : sr_Go mX2_figure d 0 L st b h P := sr_wp_go kX2_figure_0 w
theorem kX2_figure_18 : sr_is cX2_figure 18 iX2_figure_18 = true := sr_is_suf (as := aX2_figure_0) kX2_figure_0
theorem lX2_figure_18 {d : Nat} {L : sr_L} {st : List Value} {b : Nat × Nat} {h : sr_H} {P : Option Value → sr_H → Prop} (w : sr_wp mX2_figure d iX2_figure_18 18 L st b h P) : sr_Go mX2_figure d 18 L st b h P := sr_wp_go kX2_figure_18 w
theorem kX2_figure_20 : sr_is cX2_figure 20 iX2_figure_20 = true := sr_is_suf (as := aX2_figure_18) kX2_figure_18
theorem lX2_figure_20 {d : Nat} {L : sr_L} {st : List Value} {b : Nat × Nat} {h : sr_H} {P : Option Value → sr_H → Prop} (w : sr_wp mX2_figure d iX2_figure_20 20 L st b h P) : sr_Go mX2_figure d 20 L st b h P := sr_wp_go kX2_figure_20 w
def iX2_readTurns_35 : List (Instr × Nat × Nat) := [(.aload_n 1, 36, 0), (.iload_n 2, 37, 0), (.putfield 60, 40, 0), (.iconst 1, 41, 0), (.ireturn, 42, 0)]
def aX2_readTurns_11 : List (Instr × Nat × Nat) := [(.aload_n 0, 12, 0), (.dup, 13, 0), (.getfield 18, 16, 0), (.iconst 1, 17, 0), (.iadd, 18, 0), (.putfield 18, 21, 0), (.aload_n 0, 22, 0), (.iconst 2, 23, 0), (.bipush 6, 25, 0), (.invokevirtual 57, 28, 0), (.istore_n 2, 29, 0), (.iload_n 2, 30, 0), (.ifCond .ge 5, 33, 35), (.iconst 0, 34, 0), (.ireturn, 35, 0)]
def iX2_readTurns_11 : List (Instr × Nat × Nat) := aX2_readTurns_11 ++ iX2_readTurns_35
def aX2_readTurns_0 : List (Instr × Nat × Nat) := [(.aload_n 0, 1, 0), (.invokevirtual 53, 4, 0), (.bipush 110, 6, 0), (.if_icmp .eq 5, 9, 11), (.iconst 0, 10, 0), (.ireturn, 11, 0)]
def iX2_readTurns_0 : List (Instr × Nat × Nat) := aX2_readTurns_0 ++ iX2_readTurns_11
theorem kX2_readTurns_0 : sr_is cX2_readTurns 0 iX2_readTurns_0 = true := by decide +kernel
theorem lX2_readTurns_0 {d : Nat} {L : sr_L} {st : List Value} {b : Nat × Nat} {h : sr_H} {P : Option Value → sr_H → Prop} (w : sr_wp mX2_readTurns d iX2_readTurns_0 0 L st b h P) : sr_Go mX2_readTurns d 0 L st b h P := sr_wp_go kX2_readTurns_0 w
theorem kX2_readTurns_11 : sr_is cX2_readTurns 11 iX2_readTurns_11 = true := sr_is_suf (as := aX2_readTurns_0) kX2_readTurns_0
theorem lX2_readTurns_11 {d : Nat} {L : sr_L} {st : List Value} {b : Nat × Nat} {h : sr_H} {P : Option Value → sr_H → Prop} (w : sr_wp mX2_readTurns d iX2_readTurns_11 11 L st b h P) : sr_Go mX2_readTurns d 11 L st b h P := sr_wp_go kX2_readTurns_11 w
theorem kX2_readTurns_35 : sr_is cX2_readTurns 35 iX2_readTurns_35 = true := sr_is_suf (as := aX2_readTurns_11) kX2_readTurns_11
theorem lX2_readTurns_35 {d : Nat} {L : sr_L} {st : List Value} {b : Nat × Nat} {h : sr_H} {P : Option Value → sr_H → Prop} (w : sr_wp mX2_readTurns d iX2_readTurns_35 35 L st b h P) : sr_Go mX2_readTurns d 35 L st b h P := sr_wp_go kX2_readTurns_35 w
def iX2_readItem_22 : List (Instr × Nat × Nat) := [(.ireturn, 23, 0)]
def aX2_readItem_17 : List (Instr × Nat × Nat) := [(.aload_n 0, 18, 0), (.aload_n 1, 19, 0), (.invokevirtual 66, 22, 0)]
def iX2_readItem_17 : List (Instr × Nat × Nat) := aX2_readItem_17 ++ iX2_readItem_22
def aX2_readItem_0 : List (Instr × Nat × Nat) := [(.aload_n 0, 1, 0), (.invokevirtual 53, 4, 0), (.bipush 111, 6, 0), (.if_icmp .ne 11, 9, 17), (.aload_n 0, 10, 0), (.aload_n 1, 11, 0), (.invokevirtual 63, 14, 0), (.goto 8, 17, 22)]
def iX2_readItem_0 : List (Instr × Nat × Nat) := aX2_readItem_0 ++ iX2_readItem_17
theorem kX2_readItem_0 : sr_is cX2_readItem 0 iX2_readItem_0 = true := by decide +kernel
theorem lX2_readItem_0 {d : Nat} {L : sr_L} {st : List Value} {b : Nat × Nat} {h : sr_H} {P : Option Value → sr_H → Prop} (w : sr_wp mX2_readItem d iX2_readItem_0 0 L st b h P) : sr_Go mX2_readItem d 0 L st b h P := sr_wp_go kX2_readItem_0 w
theorem kX2_readItem_17 : sr_is cX2_readItem 17 iX2_readItem_17 = true := sr_is_suf (as := aX2_readItem_0) kX2_readItem_0
theorem lX2_readItem_17 {d : Nat} {L : sr_L} {st : List Value} {b : Nat × Nat} {h : sr_H} {P : Option Value → sr_H → Prop} (w : sr_wp mX2_readItem d iX2_readItem_17 17 L st b h P) : sr_Go mX2_readItem d 17 L st b h P := sr_wp_go kX2_readItem_17 w
theorem kX2_readItem_22 : sr_is cX2_readItem 22 iX2_readItem_22 = true := sr_is_suf (as := aX2_readItem_17) kX2_readItem_17
theorem lX2_readItem_22 {d : Nat} {L : sr_L} {st : List Value} {b : Nat × Nat} {h : sr_H} {P : Option Value → sr_H → Prop} (w : sr_wp mX2_readItem d iX2_readItem_22 22 L st b h P) : sr_Go mX2_readItem d 22 L st b h P := sr_wp_go kX2_readItem_22 w
def iX2_readGuest_102 : List (Instr × Nat × Nat) := [(.aload_n 1, 103, 0), (.iload_n 2, 104, 0), (.iload_n 3, 105, 0), (.iload 4, 107, 0), (.invokevirtual 75, 110, 0), (.iconst 1, 111, 0), (.ireturn, 112, 0)]
def aX2_readGuest_82 : List (Instr × Nat × Nat) := [(.aload_n 0, 83, 0), (.iconst 0, 84, 0), (.aload_n 1, 85, 0), (.getfield 60, 88, 0), (.iconst 1, 89, 0), (.isub, 90, 0), (.invokevirtual 57, 93, 0), (.istore 4, 95, 0), (.iload 4, 97, 0), (.ifCond .ge 5, 100, 102), (.iconst 0, 101, 0), (.ireturn, 102, 0)]
def iX2_readGuest_82 : List (Instr × Nat × Nat) := aX2_readGuest_82 ++ iX2_readGuest_102
def aX2_readGuest_68 : List (Instr × Nat × Nat) := [(.iload_n 3, 69, 0), (.iload 5, 71, 0), (.iload 4, 73, 0), (.ishl, 74, 0), (.ior, 75, 0), (.istore_n 3, 76, 0), (.iinc 4 1, 79, 0), (.goto (-35), 82, 44)]
def iX2_readGuest_68 : List (Instr × Nat × Nat) := aX2_readGuest_68 ++ iX2_readGuest_82
def aX2_readGuest_44 : List (Instr × Nat × Nat) := [(.iload 4, 46, 0), (.aload_n 1, 47, 0), (.getfield 60, 50, 0), (.if_icmp .ge 32, 53, 82), (.aload_n 0, 54, 0), (.iconst 0, 55, 0), (.iconst 1, 56, 0), (.invokevirtual 57, 59, 0), (.istore 5, 61, 0), (.iload 5, 63, 0), (.ifCond .ge 5, 66, 68), (.iconst 0, 67, 0), (.ireturn, 68, 0)]
def iX2_readGuest_44 : List (Instr × Nat × Nat) := aX2_readGuest_44 ++ iX2_readGuest_68
def aX2_readGuest_29 : List (Instr × Nat × Nat) := [(.aload_n 0, 30, 0), (.dup, 31, 0), (.getfield 18, 34, 0), (.iconst 1, 35, 0), (.iadd, 36, 0), (.putfield 18, 39, 0), (.iconst 0, 40, 0), (.istore_n 3, 41, 0), (.iconst 0, 42, 0), (.istore 4, 44, 0)]
def iX2_readGuest_29 : List (Instr × Nat × Nat) := aX2_readGuest_29 ++ iX2_readGuest_44
def aX2_readGuest_27 : List (Instr × Nat × Nat) := [(.iconst 0, 28, 0), (.ireturn, 29, 0)]
def iX2_readGuest_27 : List (Instr × Nat × Nat) := aX2_readGuest_27 ++ iX2_readGuest_29
def aX2_readGuest_0 : List (Instr × Nat × Nat) := [(.aload_n 0, 1, 0), (.invokevirtual 53, 4, 0), (.invokestatic 69, 7, 0), (.istore_n 2, 8, 0), (.iload_n 2, 9, 0), (.ifCond .lt 18, 12, 27), (.aload_n 1, 13, 0), (.getfield 46, 16, 0), (.ifCond .gt 11, 19, 27), (.aload_n 1, 20, 0), (.getfield 72, 23, 0), (.iconst 5, 24, 0), (.if_icmp .lt 5, 27, 29)]
def iX2_readGuest_0 : List (Instr × Nat × Nat) := aX2_readGuest_0 ++ iX2_readGuest_27
theorem kX2_readGuest_0 : sr_is cX2_readGuest 0 iX2_readGuest_0 = true := by decide +kernel
theorem lX2_readGuest_0 {d : Nat} {L : sr_L} {st : List Value} {b : Nat × Nat} {h : sr_H} {P : Option Value → sr_H → Prop} (w : sr_wp mX2_readGuest d iX2_readGuest_0 0 L st b h P) : sr_Go mX2_readGuest d 0 L st b h P := sr_wp_go kX2_readGuest_0 w
theorem kX2_readGuest_27 : sr_is cX2_readGuest 27 iX2_readGuest_27 = true := sr_is_suf (as := aX2_readGuest_0) kX2_readGuest_0
theorem lX2_readGuest_27 {d : Nat} {L : sr_L} {st : List Value} {b : Nat × Nat} {h : sr_H} {P : Option Value → sr_H → Prop} (w : sr_wp mX2_readGuest d iX2_readGuest_27 27 L st b h P) : sr_Go mX2_readGuest d 27 L st b h P := sr_wp_go kX2_readGuest_27 w
theorem kX2_readGuest_29 : sr_is cX2_readGuest 29 iX2_readGuest_29 = true := sr_is_suf (as := aX2_readGuest_27) kX2_readGuest_27
theorem lX2_readGuest_29 {d : Nat} {L : sr_L} {st : List Value} {b : Nat × Nat} {h : sr_H} {P : Option Value → sr_H → Prop} (w : sr_wp mX2_readGuest d iX2_readGuest_29 29 L st b h P) : sr_Go mX2_readGuest d 29 L st b h P := sr_wp_go kX2_readGuest_29 w
theorem kX2_readGuest_44 : sr_is cX2_readGuest 44 iX2_readGuest_44 = true := sr_is_suf (as := aX2_readGuest_29) kX2_readGuest_29
theorem lX2_readGuest_44 {d : Nat} {L : sr_L} {st : List Value} {b : Nat × Nat} {h : sr_H} {P : Option Value → sr_H → Prop} (w : sr_wp mX2_readGuest d iX2_readGuest_44 44 L st b h P) : sr_Go mX2_readGuest d 44 L st b h P := sr_wp_go kX2_readGuest_44 w
theorem kX2_readGuest_68 : sr_is cX2_readGuest 68 iX2_readGuest_68 = true := sr_is_suf (as := aX2_readGuest_44) kX2_readGuest_44
theorem lX2_readGuest_68 {d : Nat} {L : sr_L} {st : List Value} {b : Nat × Nat} {h : sr_H} {P : Option Value → sr_H → Prop} (w : sr_wp mX2_readGuest d iX2_readGuest_68 68 L st b h P) : sr_Go mX2_readGuest d 68 L st b h P := sr_wp_go kX2_readGuest_68 w
theorem kX2_readGuest_82 : sr_is cX2_readGuest 82 iX2_readGuest_82 = true := sr_is_suf (as := aX2_readGuest_68) kX2_readGuest_68
theorem lX2_readGuest_82 {d : Nat} {L : sr_L} {st : List Value} {b : Nat × Nat} {h : sr_H} {P : Option Value → sr_H → Prop} (w : sr_wp mX2_readGuest d iX2_readGuest_82 82 L st b h P) : sr_Go mX2_readGuest d 82 L st b h P := sr_wp_go kX2_readGuest_82 w
theorem kX2_readGuest_102 : sr_is cX2_readGuest 102 iX2_readGuest_102 = true := sr_is_suf (as := aX2_readGuest_82) kX2_readGuest_82
theorem lX2_readGuest_102 {d : Nat} {L : sr_L} {st : List Value} {b : Nat × Nat} {h : sr_H} {P : Option Value → sr_H → Prop} (w : sr_wp mX2_readGuest d iX2_readGuest_102 102 L st b h P) : sr_Go mX2_readGuest d 102 L st b h P := sr_wp_go kX2_readGuest_102 w
def iX2_readThing_100 : List (Instr × Nat × Nat) := [(.aload_n 1, 101, 0), (.iload_n 2, 102, 0), (.iload_n 3, 103, 0), (.invokevirtual 79, 106, 0), (.iconst 1, 107, 0), (.ireturn, 108, 0)]
def aX2_readThing_76 : List (Instr × Nat × Nat) := [(.iload_n 2, 77, 0), (.iload 6, 79, 0), (.iload 5, 81, 0), (.ishl, 82, 0), (.ior, 83, 0), (.istore_n 2, 84, 0), (.iload_n 3, 85, 0), (.iconst 1, 86, 0), (.iload 6, 88, 0), (.isub, 89, 0), (.iload 5, 91, 0), (.ishl, 92, 0), (.ior, 93, 0), (.istore_n 3, 94, 0), (.iinc 4 1, 97, 0), (.goto (-62), 100, 35)]
def iX2_readThing_76 : List (Instr × Nat × Nat) := aX2_readThing_76 ++ iX2_readThing_100
def aX2_readThing_61 : List (Instr × Nat × Nat) := [(.aload_n 0, 62, 0), (.iconst 0, 63, 0), (.iconst 1, 64, 0), (.invokevirtual 57, 67, 0), (.istore 6, 69, 0), (.iload 6, 71, 0), (.ifCond .ge 5, 74, 76), (.iconst 0, 75, 0), (.ireturn, 76, 0)]
def iX2_readThing_61 : List (Instr × Nat × Nat) := aX2_readThing_61 ++ iX2_readThing_76
def aX2_readThing_35 : List (Instr × Nat × Nat) := [(.iload 4, 37, 0), (.iconst 2, 38, 0), (.if_icmp .ge 62, 41, 100), (.aload_n 0, 42, 0), (.iconst 0, 43, 0), (.aload_n 1, 44, 0), (.getfield 60, 47, 0), (.iconst 1, 48, 0), (.isub, 49, 0), (.invokevirtual 57, 52, 0), (.istore 5, 54, 0), (.iload 5, 56, 0), (.ifCond .ge 5, 59, 61), (.iconst 0, 60, 0), (.ireturn, 61, 0)]
def iX2_readThing_35 : List (Instr × Nat × Nat) := aX2_readThing_35 ++ iX2_readThing_61
def aX2_readThing_18 : List (Instr × Nat × Nat) := [(.aload_n 0, 19, 0), (.dup, 20, 0), (.getfield 18, 23, 0), (.iconst 1, 24, 0), (.iadd, 25, 0), (.putfield 18, 28, 0), (.iconst 0, 29, 0), (.istore_n 2, 30, 0), (.iconst 0, 31, 0), (.istore_n 3, 32, 0), (.iconst 0, 33, 0), (.istore 4, 35, 0)]
def iX2_readThing_18 : List (Instr × Nat × Nat) := aX2_readThing_18 ++ iX2_readThing_35
def aX2_readThing_16 : List (Instr × Nat × Nat) := [(.iconst 0, 17, 0), (.ireturn, 18, 0)]
def iX2_readThing_16 : List (Instr × Nat × Nat) := aX2_readThing_16 ++ iX2_readThing_18
def aX2_readThing_0 : List (Instr × Nat × Nat) := [(.aload_n 1, 1, 0), (.getfield 72, 4, 0), (.ifCond .eq 12, 7, 16), (.aload_n 1, 8, 0), (.getfield 46, 11, 0), (.bipush 8, 13, 0), (.if_icmp .lt 5, 16, 18)]
def iX2_readThing_0 : List (Instr × Nat × Nat) := aX2_readThing_0 ++ iX2_readThing_16
theorem kX2_readThing_0 : sr_is cX2_readThing 0 iX2_readThing_0 = true := by decide +kernel
theorem lX2_readThing_0 {d : Nat} {L : sr_L} {st : List Value} {b : Nat × Nat} {h : sr_H} {P : Option Value → sr_H → Prop} (w : sr_wp mX2_readThing d iX2_readThing_0 0 L st b h P) : sr_Go mX2_readThing d 0 L st b h P := sr_wp_go kX2_readThing_0 w
theorem kX2_readThing_16 : sr_is cX2_readThing 16 iX2_readThing_16 = true := sr_is_suf (as := aX2_readThing_0) kX2_readThing_0
theorem lX2_readThing_16 {d : Nat} {L : sr_L} {st : List Value} {b : Nat × Nat} {h : sr_H} {P : Option Value → sr_H → Prop} (w : sr_wp mX2_readThing d iX2_readThing_16 16 L st b h P) : sr_Go mX2_readThing d 16 L st b h P := sr_wp_go kX2_readThing_16 w
theorem kX2_readThing_18 : sr_is cX2_readThing 18 iX2_readThing_18 = true := sr_is_suf (as := aX2_readThing_16) kX2_readThing_16
theorem lX2_readThing_18 {d : Nat} {L : sr_L} {st : List Value} {b : Nat × Nat} {h : sr_H} {P : Option Value → sr_H → Prop} (w : sr_wp mX2_readThing d iX2_readThing_18 18 L st b h P) : sr_Go mX2_readThing d 18 L st b h P := sr_wp_go kX2_readThing_18 w
theorem kX2_readThing_35 : sr_is cX2_readThing 35 iX2_readThing_35 = true := sr_is_suf (as := aX2_readThing_18) kX2_readThing_18
theorem lX2_readThing_35 {d : Nat} {L : sr_L} {st : List Value} {b : Nat × Nat} {h : sr_H} {P : Option Value → sr_H → Prop} (w : sr_wp mX2_readThing d iX2_readThing_35 35 L st b h P) : sr_Go mX2_readThing d 35 L st b h P := sr_wp_go kX2_readThing_35 w
theorem kX2_readThing_61 : sr_is cX2_readThing 61 iX2_readThing_61 = true := sr_is_suf (as := aX2_readThing_35) kX2_readThing_35
theorem lX2_readThing_61 {d : Nat} {L : sr_L} {st : List Value} {b : Nat × Nat} {h : sr_H} {P : Option Value → sr_H → Prop} (w : sr_wp mX2_readThing d iX2_readThing_61 61 L st b h P) : sr_Go mX2_readThing d 61 L st b h P := sr_wp_go kX2_readThing_61 w
theorem kX2_readThing_76 : sr_is cX2_readThing 76 iX2_readThing_76 = true := sr_is_suf (as := aX2_readThing_61) kX2_readThing_61
theorem lX2_readThing_76 {d : Nat} {L : sr_L} {st : List Value} {b : Nat × Nat} {h : sr_H} {P : Option Value → sr_H → Prop} (w : sr_wp mX2_readThing d iX2_readThing_76 76 L st b h P) : sr_Go mX2_readThing d 76 L st b h P := sr_wp_go kX2_readThing_76 w
theorem kX2_readThing_100 : sr_is cX2_readThing 100 iX2_readThing_100 = true := sr_is_suf (as := aX2_readThing_76) kX2_readThing_76
theorem lX2_readThing_100 {d : Nat} {L : sr_L} {st : List Value} {b : Nat × Nat} {h : sr_H} {P : Option Value → sr_H → Prop} (w : sr_wp mX2_readThing d iX2_readThing_100 100 L st b h P) : sr_Go mX2_readThing d 100 L st b h P := sr_wp_go kX2_readThing_100 w
def iX2_kindByLetter_27 : List (Instr × Nat × Nat) := [(.iconst (-1), 28, 0), (.ireturn, 29, 0)]
def aX2_kindByLetter_21 : List (Instr × Nat × Nat) := [(.iinc 1 1, 24, 0), (.goto (-22), 27, 2)]
def iX2_kindByLetter_21 : List (Instr × Nat × Nat) := aX2_kindByLetter_21 ++ iX2_kindByLetter_27
def aX2_kindByLetter_2 : List (Instr × Nat × Nat) := [(.iload_n 1, 3, 0), (.getstatic 83, 6, 0), (.arraylength, 7, 0), (.if_icmp .ge 20, 10, 27), (.getstatic 83, 13, 0), (.iload_n 1, 14, 0), (.iaload, 15, 0), (.iload_n 0, 16, 0), (.if_icmp .ne 5, 19, 21), (.iload_n 1, 20, 0), (.ireturn, 21, 0)]
def iX2_kindByLetter_2 : List (Instr × Nat × Nat) := aX2_kindByLetter_2 ++ iX2_kindByLetter_21
def aX2_kindByLetter_0 : List (Instr × Nat × Nat) := [(.iconst 0, 1, 0), (.istore_n 1, 2, 0)]
def iX2_kindByLetter_0 : List (Instr × Nat × Nat) := aX2_kindByLetter_0 ++ iX2_kindByLetter_2
theorem kX2_kindByLetter_0 : sr_is cX2_kindByLetter 0 iX2_kindByLetter_0 = true := by decide +kernel
theorem lX2_kindByLetter_0 {d : Nat} {L : sr_L} {st : List Value} {b : Nat × Nat} {h : sr_H} {P : Option Value → sr_H → Prop} (w : sr_wp mX2_kindByLetter d iX2_kindByLetter_0 0 L st b h P) : sr_Go mX2_kindByLetter d 0 L st b h P := sr_wp_go kX2_kindByLetter_0 w
theorem kX2_kindByLetter_2 : sr_is cX2_kindByLetter 2 iX2_kindByLetter_2 = true := sr_is_suf (as := aX2_kindByLetter_0) kX2_kindByLetter_0
theorem lX2_kindByLetter_2 {d : Nat} {L : sr_L} {st : List Value} {b : Nat × Nat} {h : sr_H} {P : Option Value → sr_H → Prop} (w : sr_wp mX2_kindByLetter d iX2_kindByLetter_2 2 L st b h P) : sr_Go mX2_kindByLetter d 2 L st b h P := sr_wp_go kX2_kindByLetter_2 w
theorem kX2_kindByLetter_21 : sr_is cX2_kindByLetter 21 iX2_kindByLetter_21 = true := sr_is_suf (as := aX2_kindByLetter_2) kX2_kindByLetter_2
theorem lX2_kindByLetter_21 {d : Nat} {L : sr_L} {st : List Value} {b : Nat × Nat} {h : sr_H} {P : Option Value → sr_H → Prop} (w : sr_wp mX2_kindByLetter d iX2_kindByLetter_21 21 L st b h P) : sr_Go mX2_kindByLetter d 21 L st b h P := sr_wp_go kX2_kindByLetter_21 w
theorem kX2_kindByLetter_27 : sr_is cX2_kindByLetter 27 iX2_kindByLetter_27 = true := sr_is_suf (as := aX2_kindByLetter_21) kX2_kindByLetter_21
theorem lX2_kindByLetter_27 {d : Nat} {L : sr_L} {st : List Value} {b : Nat × Nat} {h : sr_H} {P : Option Value → sr_H → Prop} (w : sr_wp mX2_kindByLetter d iX2_kindByLetter_27 27 L st b h P) : sr_Go mX2_kindByLetter d 27 L st b h P := sr_wp_go kX2_kindByLetter_27 w
def iX3_init_36 : List (Instr × Nat × Nat) := [(.aload_n 0, 37, 0), (.iload_n 1, 38, 0), (.iload_n 2, 39, 0), (.imul, 40, 0), (.newarray .int, 42, 0), (.putfield 17, 45, 0), (.return_, 46, 0)]
def aX3_init_18 : List (Instr × Nat × Nat) := [(.iload_n 3, 19, 0), (.iload_n 1, 20, 0), (.if_icmp .ge 16, 23, 36), (.aload_n 0, 24, 0), (.getfield 13, 27, 0), (.iload_n 3, 28, 0), (.iconst (-1), 29, 0), (.iastore, 30, 0), (.iinc 3 1, 33, 0), (.goto (-15), 36, 18)]
def iX3_init_18 : List (Instr × Nat × Nat) := aX3_init_18 ++ iX3_init_36
def aX3_init_0 : List (Instr × Nat × Nat) := [(.aload_n 0, 1, 0), (.invokespecial 1, 4, 0), (.aload_n 0, 5, 0), (.iload_n 2, 6, 0), (.putfield 7, 9, 0), (.aload_n 0, 10, 0), (.iload_n 1, 11, 0), (.newarray .int, 13, 0), (.putfield 13, 16, 0), (.iconst 0, 17, 0), (.istore_n 3, 18, 0)]
def iX3_init_0 : List (Instr × Nat × Nat) := aX3_init_0 ++ iX3_init_18
theorem kX3_init_0 : sr_is cX3_init 0 iX3_init_0 = true := by decide +kernel
theorem lX3_init_0 {d : Nat} {L : sr_L} {st : List Value} {b : Nat × Nat} {h : sr_H} {P : Option Value → sr_H → Prop} (w : sr_wp mX3_init d iX3_init_0 0 L st b h P) : sr_Go mX3_init d 0 L st b h P := sr_wp_go kX3_init_0 w
theorem kX3_init_18 : sr_is cX3_init 18 iX3_init_18 = true := sr_is_suf (as := aX3_init_0) kX3_init_0
theorem lX3_init_18 {d : Nat} {L : sr_L} {st : List Value} {b : Nat × Nat} {h : sr_H} {P : Option Value → sr_H → Prop} (w : sr_wp mX3_init d iX3_init_18 18 L st b h P) : sr_Go mX3_init d 18 L st b h P := sr_wp_go kX3_init_18 w
theorem kX3_init_36 : sr_is cX3_init 36 iX3_init_36 = true := sr_is_suf (as := aX3_init_18) kX3_init_18
theorem lX3_init_36 {d : Nat} {L : sr_L} {st : List Value} {b : Nat × Nat} {h : sr_H} {P : Option Value → sr_H → Prop} (w : sr_wp mX3_init d iX3_init_36 36 L st b h P) : sr_Go mX3_init d 36 L st b h P := sr_wp_go kX3_init_36 w
def iX3_isNumber_18 : List (Instr × Nat × Nat) := [(.ireturn, 19, 0)]
def aX3_isNumber_17 : List (Instr × Nat × Nat) := [(.iconst 0, 18, 0)]
def iX3_isNumber_17 : List (Instr × Nat × Nat) := aX3_isNumber_17 ++ iX3_isNumber_18
def aX3_isNumber_0 : List (Instr × Nat × Nat) := [(.iload_n 1, 1, 0), (.ifCond .lt 16, 4, 17), (.iload_n 1, 5, 0), (.aload_n 0, 6, 0), (.getfield 13, 9, 0), (.arraylength, 10, 0), (.if_icmp .ge 7, 13, 17), (.iconst 1, 14, 0), (.goto 4, 17, 18)]
def iX3_isNumber_0 : List (Instr × Nat × Nat) := aX3_isNumber_0 ++ iX3_isNumber_17
theorem kX3_isNumber_0 : sr_is cX3_isNumber 0 iX3_isNumber_0 = true := by decide +kernel
theorem lX3_isNumber_0 {d : Nat} {L : sr_L} {st : List Value} {b : Nat × Nat} {h : sr_H} {P : Option Value → sr_H → Prop} (w : sr_wp mX3_isNumber d iX3_isNumber_0 0 L st b h P) : sr_Go mX3_isNumber d 0 L st b h P := sr_wp_go kX3_isNumber_0 w
theorem kX3_isNumber_17 : sr_is cX3_isNumber 17 iX3_isNumber_17 = true := sr_is_suf (as := aX3_isNumber_0) kX3_isNumber_0
theorem lX3_isNumber_17 {d : Nat} {L : sr_L} {st : List Value} {b : Nat × Nat} {h : sr_H} {P : Option Value → sr_H → Prop} (w : sr_wp mX3_isNumber d iX3_isNumber_17 17 L st b h P) : sr_Go mX3_isNumber d 17 L st b h P := sr_wp_go kX3_isNumber_17 w
theorem kX3_isNumber_18 : sr_is cX3_isNumber 18 iX3_isNumber_18 = true := sr_is_suf (as := aX3_isNumber_17) kX3_isNumber_17
theorem lX3_isNumber_18 {d : Nat} {L : sr_L} {st : List Value} {b : Nat × Nat} {h : sr_H} {P : Option Value → sr_H → Prop} (w : sr_wp mX3_isNumber d iX3_isNumber_18 18 L st b h P) : sr_Go mX3_isNumber d 18 L st b h P := sr_wp_go kX3_isNumber_18 w
def iX3_isMissing_14 : List (Instr × Nat × Nat) := [(.ireturn, 15, 0)]
def aX3_isMissing_13 : List (Instr × Nat × Nat) := [(.iconst 0, 14, 0)]
def iX3_isMissing_13 : List (Instr × Nat × Nat) := aX3_isMissing_13 ++ iX3_isMissing_14
def aX3_isMissing_0 : List (Instr × Nat × Nat) := [(.aload_n 0, 1, 0), (.getfield 13, 4, 0), (.iload_n 1, 5, 0), (.iaload, 6, 0), (.ifCond .ge 7, 9, 13), (.iconst 1, 10, 0), (.goto 4, 13, 14)]
def iX3_isMissing_0 : List (Instr × Nat × Nat) := aX3_isMissing_0 ++ iX3_isMissing_13
theorem kX3_isMissing_0 : sr_is cX3_isMissing 0 iX3_isMissing_0 = true := by decide +kernel
theorem lX3_isMissing_0 {d : Nat} {L : sr_L} {st : List Value} {b : Nat × Nat} {h : sr_H} {P : Option Value → sr_H → Prop} (w : sr_wp mX3_isMissing d iX3_isMissing_0 0 L st b h P) : sr_Go mX3_isMissing d 0 L st b h P := sr_wp_go kX3_isMissing_0 w
theorem kX3_isMissing_13 : sr_is cX3_isMissing 13 iX3_isMissing_13 = true := sr_is_suf (as := aX3_isMissing_0) kX3_isMissing_0
theorem lX3_isMissing_13 {d : Nat} {L : sr_L} {st : List Value} {b : Nat × Nat} {h : sr_H} {P : Option Value → sr_H → Prop} (w : sr_wp mX3_isMissing d iX3_isMissing_13 13 L st b h P) : sr_Go mX3_isMissing d 13 L st b h P := sr_wp_go kX3_isMissing_13 w
theorem kX3_isMissing_14 : sr_is cX3_isMissing 14 iX3_isMissing_14 = true := sr_is_suf (as := aX3_isMissing_13) kX3_isMissing_13
theorem lX3_isMissing_14 {d : Nat} {L : sr_L} {st : List Value} {b : Nat × Nat} {h : sr_H} {P : Option Value → sr_H → Prop} (w : sr_wp mX3_isMissing d iX3_isMissing_14 14 L st b h P) : sr_Go mX3_isMissing d 14 L st b h P := sr_wp_go kX3_isMissing_14 w
def iX3_isPlace_19 : List (Instr × Nat × Nat) := [(.ireturn, 20, 0)]
def aX3_isPlace_18 : List (Instr × Nat × Nat) := [(.iconst 0, 19, 0)]
def iX3_isPlace_18 : List (Instr × Nat × Nat) := aX3_isPlace_18 ++ iX3_isPlace_19
def aX3_isPlace_0 : List (Instr × Nat × Nat) := [(.iload_n 2, 1, 0), (.ifCond .lt 17, 4, 18), (.iload_n 2, 5, 0), (.aload_n 0, 6, 0), (.getfield 13, 9, 0), (.iload_n 1, 10, 0), (.iaload, 11, 0), (.if_icmp .ge 7, 14, 18), (.iconst 1, 15, 0), (.goto 4, 18, 19)]
def iX3_isPlace_0 : List (Instr × Nat × Nat) := aX3_isPlace_0 ++ iX3_isPlace_18
theorem kX3_isPlace_0 : sr_is cX3_isPlace 0 iX3_isPlace_0 = true := by decide +kernel
theorem lX3_isPlace_0 {d : Nat} {L : sr_L} {st : List Value} {b : Nat × Nat} {h : sr_H} {P : Option Value → sr_H → Prop} (w : sr_wp mX3_isPlace d iX3_isPlace_0 0 L st b h P) : sr_Go mX3_isPlace d 0 L st b h P := sr_wp_go kX3_isPlace_0 w
theorem kX3_isPlace_18 : sr_is cX3_isPlace 18 iX3_isPlace_18 = true := sr_is_suf (as := aX3_isPlace_0) kX3_isPlace_0
theorem lX3_isPlace_18 {d : Nat} {L : sr_L} {st : List Value} {b : Nat × Nat} {h : sr_H} {P : Option Value → sr_H → Prop} (w : sr_wp mX3_isPlace d iX3_isPlace_18 18 L st b h P) : sr_Go mX3_isPlace d 18 L st b h P := sr_wp_go kX3_isPlace_18 w
theorem kX3_isPlace_19 : sr_is cX3_isPlace 19 iX3_isPlace_19 = true := sr_is_suf (as := aX3_isPlace_18) kX3_isPlace_18
theorem lX3_isPlace_19 {d : Nat} {L : sr_L} {st : List Value} {b : Nat × Nat} {h : sr_H} {P : Option Value → sr_H → Prop} (w : sr_wp mX3_isPlace d iX3_isPlace_19 19 L st b h P) : sr_Go mX3_isPlace d 19 L st b h P := sr_wp_go kX3_isPlace_19 w
def iX3_arePlaces_31 : List (Instr × Nat × Nat) := [(.ireturn, 32, 0)]
def aX3_arePlaces_30 : List (Instr × Nat × Nat) := [(.iconst 0, 31, 0)]
def iX3_arePlaces_30 : List (Instr × Nat × Nat) := aX3_arePlaces_30 ++ iX3_arePlaces_31
def aX3_arePlaces_0 : List (Instr × Nat × Nat) := [(.iload_n 2, 1, 0), (.ifCond .lt 29, 4, 30), (.iload_n 2, 5, 0), (.aload_n 0, 6, 0), (.getfield 13, 9, 0), (.iload_n 1, 10, 0), (.iaload, 11, 0), (.if_icmp .gt 19, 14, 30), (.iload_n 3, 15, 0), (.aload_n 0, 16, 0), (.getfield 13, 19, 0), (.iload_n 1, 20, 0), (.iaload, 21, 0), (.iload_n 2, 22, 0), (.isub, 23, 0), (.if_icmp .gt 7, 26, 30), (.iconst 1, 27, 0), (.goto 4, 30, 31)]
def iX3_arePlaces_0 : List (Instr × Nat × Nat) := aX3_arePlaces_0 ++ iX3_arePlaces_30
theorem kX3_arePlaces_0 : sr_is cX3_arePlaces 0 iX3_arePlaces_0 = true := by decide +kernel
theorem lX3_arePlaces_0 {d : Nat} {L : sr_L} {st : List Value} {b : Nat × Nat} {h : sr_H} {P : Option Value → sr_H → Prop} (w : sr_wp mX3_arePlaces d iX3_arePlaces_0 0 L st b h P) : sr_Go mX3_arePlaces d 0 L st b h P := sr_wp_go kX3_arePlaces_0 w
theorem kX3_arePlaces_30 : sr_is cX3_arePlaces 30 iX3_arePlaces_30 = true := sr_is_suf (as := aX3_arePlaces_0) kX3_arePlaces_0
theorem lX3_arePlaces_30 {d : Nat} {L : sr_L} {st : List Value} {b : Nat × Nat} {h : sr_H} {P : Option Value → sr_H → Prop} (w : sr_wp mX3_arePlaces d iX3_arePlaces_30 30 L st b h P) : sr_Go mX3_arePlaces d 30 L st b h P := sr_wp_go kX3_arePlaces_30 w
theorem kX3_arePlaces_31 : sr_is cX3_arePlaces 31 iX3_arePlaces_31 = true := sr_is_suf (as := aX3_arePlaces_30) kX3_arePlaces_30
theorem lX3_arePlaces_31 {d : Nat} {L : sr_L} {st : List Value} {b : Nat × Nat} {h : sr_H} {P : Option Value → sr_H → Prop} (w : sr_wp mX3_arePlaces d iX3_arePlaces_31 31 L st b h P) : sr_Go mX3_arePlaces d 31 L st b h P := sr_wp_go kX3_arePlaces_31 w
def iX3_sizeOf_0 : List (Instr × Nat × Nat) := [(.aload_n 0, 1, 0), (.getfield 13, 4, 0), (.iload_n 1, 5, 0), (.iaload, 6, 0), (.ireturn, 7, 0)]
theorem kX3_sizeOf_0 : sr_is cX3_sizeOf 0 iX3_sizeOf_0 = true := by decide +kernel
theorem lX3_sizeOf_0 {d : Nat} {L : sr_L} {st : List Value} {b : Nat × Nat} {h : sr_H} {P : Option Value → sr_H → Prop} (w : sr_wp mX3_sizeOf d iX3_sizeOf_0 0 L st b h P) : sr_Go mX3_sizeOf d 0 L st b h P := sr_wp_go kX3_sizeOf_0 w
def iX3_placeOf_0 : List (Instr × Nat × Nat) := [(.aload_n 0, 1, 0), (.getfield 17, 4, 0), (.iload_n 1, 5, 0), (.aload_n 0, 6, 0), (.getfield 7, 9, 0), (.imul, 10, 0), (.iload_n 2, 11, 0), (.iadd, 12, 0), (.iaload, 13, 0), (.ireturn, 14, 0)]
theorem kX3_placeOf_0 : sr_is cX3_placeOf 0 iX3_placeOf_0 = true := by decide +kernel
theorem lX3_placeOf_0 {d : Nat} {L : sr_L} {st : List Value} {b : Nat × Nat} {h : sr_H} {P : Option Value → sr_H → Prop} (w : sr_wp mX3_placeOf d iX3_placeOf_0 0 L st b h P) : sr_Go mX3_placeOf d 0 L st b h P := sr_wp_go kX3_placeOf_0 w
def iX3_setPlace_0 : List (Instr × Nat × Nat) := [(.aload_n 0, 1, 0), (.getfield 17, 4, 0), (.iload_n 1, 5, 0), (.aload_n 0, 6, 0), (.getfield 7, 9, 0), (.imul, 10, 0), (.iload_n 2, 11, 0), (.iadd, 12, 0), (.iload_n 3, 13, 0), (.iastore, 14, 0), (.return_, 15, 0)]
theorem kX3_setPlace_0 : sr_is cX3_setPlace 0 iX3_setPlace_0 = true := by decide +kernel
theorem lX3_setPlace_0 {d : Nat} {L : sr_L} {st : List Value} {b : Nat × Nat} {h : sr_H} {P : Option Value → sr_H → Prop} (w : sr_wp mX3_setPlace d iX3_setPlace_0 0 L st b h P) : sr_Go mX3_setPlace d 0 L st b h P := sr_wp_go kX3_setPlace_0 w
def iX3_make_30 : List (Instr × Nat × Nat) := [(.return_, 31, 0)]
def aX3_make_10 : List (Instr × Nat × Nat) := [(.iload 4, 12, 0), (.iload_n 2, 13, 0), (.if_icmp .ge 17, 16, 30), (.aload_n 0, 17, 0), (.iload_n 1, 18, 0), (.iload 4, 20, 0), (.iload_n 3, 21, 0), (.invokevirtual 20, 24, 0), (.iinc 4 1, 27, 0), (.goto (-17), 30, 10)]
def iX3_make_10 : List (Instr × Nat × Nat) := aX3_make_10 ++ iX3_make_30
def aX3_make_0 : List (Instr × Nat × Nat) := [(.aload_n 0, 1, 0), (.getfield 13, 4, 0), (.iload_n 1, 5, 0), (.iload_n 2, 6, 0), (.iastore, 7, 0), (.iconst 0, 8, 0), (.istore 4, 10, 0)]
def iX3_make_0 : List (Instr × Nat × Nat) := aX3_make_0 ++ iX3_make_10
theorem kX3_make_0 : sr_is cX3_make 0 iX3_make_0 = true := by decide +kernel
theorem lX3_make_0 {d : Nat} {L : sr_L} {st : List Value} {b : Nat × Nat} {h : sr_H} {P : Option Value → sr_H → Prop} (w : sr_wp mX3_make d iX3_make_0 0 L st b h P) : sr_Go mX3_make d 0 L st b h P := sr_wp_go kX3_make_0 w
theorem kX3_make_10 : sr_is cX3_make 10 iX3_make_10 = true := sr_is_suf (as := aX3_make_0) kX3_make_0
theorem lX3_make_10 {d : Nat} {L : sr_L} {st : List Value} {b : Nat × Nat} {h : sr_H} {P : Option Value → sr_H → Prop} (w : sr_wp mX3_make d iX3_make_10 10 L st b h P) : sr_Go mX3_make d 10 L st b h P := sr_wp_go kX3_make_10 w
theorem kX3_make_30 : sr_is cX3_make 30 iX3_make_30 = true := sr_is_suf (as := aX3_make_10) kX3_make_10
theorem lX3_make_30 {d : Nat} {L : sr_L} {st : List Value} {b : Nat × Nat} {h : sr_H} {P : Option Value → sr_H → Prop} (w : sr_wp mX3_make d iX3_make_30 30 L st b h P) : sr_Go mX3_make d 30 L st b h P := sr_wp_go kX3_make_30 w
def iX3_remove_0 : List (Instr × Nat × Nat) := [(.aload_n 0, 1, 0), (.getfield 13, 4, 0), (.iload_n 1, 5, 0), (.iconst (-1), 6, 0), (.iastore, 7, 0), (.return_, 8, 0)]
theorem kX3_remove_0 : sr_is cX3_remove 0 iX3_remove_0 = true := by decide +kernel
theorem lX3_remove_0 {d : Nat} {L : sr_L} {st : List Value} {b : Nat × Nat} {h : sr_H} {P : Option Value → sr_H → Prop} (w : sr_wp mX3_remove d iX3_remove_0 0 L st b h P) : sr_Go mX3_remove d 0 L st b h P := sr_wp_go kX3_remove_0 w
def iX3_copyPlaces_0 : List (Instr × Nat × Nat) := [(.aload_n 0, 1, 0), (.getfield 17, 4, 0), (.iload_n 1, 5, 0), (.aload_n 0, 6, 0), (.getfield 7, 9, 0), (.imul, 10, 0), (.iload_n 2, 11, 0), (.iadd, 12, 0), (.aload_n 0, 13, 0), (.getfield 17, 16, 0), (.iload_n 3, 17, 0), (.aload_n 0, 18, 0), (.getfield 7, 21, 0), (.imul, 22, 0), (.iload 4, 24, 0), (.iadd, 25, 0), (.iload 5, 27, 0), (.invokestatic 24, 30, 0), (.return_, 31, 0)]
theorem kX3_copyPlaces_0 : sr_is cX3_copyPlaces 0 iX3_copyPlaces_0 = true := by decide +kernel
theorem lX3_copyPlaces_0 {d : Nat} {L : sr_L} {st : List Value} {b : Nat × Nat} {h : sr_H} {P : Option Value → sr_H → Prop} (w : sr_wp mX3_copyPlaces d iX3_copyPlaces_0 0 L st b h P) : sr_Go mX3_copyPlaces d 0 L st b h P := sr_wp_go kX3_copyPlaces_0 w
def iX3_sumOf_33 : List (Instr × Nat × Nat) := [(.lload_n 2, 34, 0), (.lreturn, 35, 0)]
def aX3_sumOf_5 : List (Instr × Nat × Nat) := [(.iload 4, 7, 0), (.aload_n 0, 8, 0), (.getfield 13, 11, 0), (.iload_n 1, 12, 0), (.iaload, 13, 0), (.if_icmp .ge 20, 16, 33), (.lload_n 2, 17, 0), (.aload_n 0, 18, 0), (.iload_n 1, 19, 0), (.iload 4, 21, 0), (.invokevirtual 30, 24, 0), (.i2l, 25, 0), (.ladd, 26, 0), (.lstore_n 2, 27, 0), (.iinc 4 1, 30, 0), (.goto (-25), 33, 5)]
def iX3_sumOf_5 : List (Instr × Nat × Nat) := aX3_sumOf_5 ++ iX3_sumOf_33
def aX3_sumOf_0 : List (Instr × Nat × Nat) := [(.lconst 0, 1, 0), (.lstore_n 2, 2, 0), (.iconst 0, 3, 0), (.istore 4, 5, 0)]
def iX3_sumOf_0 : List (Instr × Nat × Nat) := aX3_sumOf_0 ++ iX3_sumOf_5
theorem kX3_sumOf_0 : sr_is cX3_sumOf 0 iX3_sumOf_0 = true := by decide +kernel
theorem lX3_sumOf_0 {d : Nat} {L : sr_L} {st : List Value} {b : Nat × Nat} {h : sr_H} {P : Option Value → sr_H → Prop} (w : sr_wp mX3_sumOf d iX3_sumOf_0 0 L st b h P) : sr_Go mX3_sumOf d 0 L st b h P := sr_wp_go kX3_sumOf_0 w
theorem kX3_sumOf_5 : sr_is cX3_sumOf 5 iX3_sumOf_5 = true := sr_is_suf (as := aX3_sumOf_0) kX3_sumOf_0
theorem lX3_sumOf_5 {d : Nat} {L : sr_L} {st : List Value} {b : Nat × Nat} {h : sr_H} {P : Option Value → sr_H → Prop} (w : sr_wp mX3_sumOf d iX3_sumOf_5 5 L st b h P) : sr_Go mX3_sumOf d 5 L st b h P := sr_wp_go kX3_sumOf_5 w
theorem kX3_sumOf_33 : sr_is cX3_sumOf 33 iX3_sumOf_33 = true := sr_is_suf (as := aX3_sumOf_5) kX3_sumOf_5
theorem lX3_sumOf_33 {d : Nat} {L : sr_L} {st : List Value} {b : Nat × Nat} {h : sr_H} {P : Option Value → sr_H → Prop} (w : sr_wp mX3_sumOf d iX3_sumOf_33 33 L st b h P) : sr_Go mX3_sumOf d 33 L st b h P := sr_wp_go kX3_sumOf_33 w
def iX3_thereCount_30 : List (Instr × Nat × Nat) := [(.iload_n 1, 31, 0), (.ireturn, 32, 0)]
def aX3_thereCount_24 : List (Instr × Nat × Nat) := [(.iinc 2 1, 27, 0), (.goto (-23), 30, 4)]
def iX3_thereCount_24 : List (Instr × Nat × Nat) := aX3_thereCount_24 ++ iX3_thereCount_30
def aX3_thereCount_4 : List (Instr × Nat × Nat) := [(.iload_n 2, 5, 0), (.aload_n 0, 6, 0), (.getfield 13, 9, 0), (.arraylength, 10, 0), (.if_icmp .ge 20, 13, 30), (.aload_n 0, 14, 0), (.iload_n 2, 15, 0), (.invokevirtual 34, 18, 0), (.ifCond .ne 6, 21, 24), (.iinc 1 1, 24, 0)]
def iX3_thereCount_4 : List (Instr × Nat × Nat) := aX3_thereCount_4 ++ iX3_thereCount_24
def aX3_thereCount_0 : List (Instr × Nat × Nat) := [(.iconst 0, 1, 0), (.istore_n 1, 2, 0), (.iconst 0, 3, 0), (.istore_n 2, 4, 0)]
def iX3_thereCount_0 : List (Instr × Nat × Nat) := aX3_thereCount_0 ++ iX3_thereCount_4
theorem kX3_thereCount_0 : sr_is cX3_thereCount 0 iX3_thereCount_0 = true := by decide +kernel
theorem lX3_thereCount_0 {d : Nat} {L : sr_L} {st : List Value} {b : Nat × Nat} {h : sr_H} {P : Option Value → sr_H → Prop} (w : sr_wp mX3_thereCount d iX3_thereCount_0 0 L st b h P) : sr_Go mX3_thereCount d 0 L st b h P := sr_wp_go kX3_thereCount_0 w
theorem kX3_thereCount_4 : sr_is cX3_thereCount 4 iX3_thereCount_4 = true := sr_is_suf (as := aX3_thereCount_0) kX3_thereCount_0
theorem lX3_thereCount_4 {d : Nat} {L : sr_L} {st : List Value} {b : Nat × Nat} {h : sr_H} {P : Option Value → sr_H → Prop} (w : sr_wp mX3_thereCount d iX3_thereCount_4 4 L st b h P) : sr_Go mX3_thereCount d 4 L st b h P := sr_wp_go kX3_thereCount_4 w
theorem kX3_thereCount_24 : sr_is cX3_thereCount 24 iX3_thereCount_24 = true := sr_is_suf (as := aX3_thereCount_4) kX3_thereCount_4
theorem lX3_thereCount_24 {d : Nat} {L : sr_L} {st : List Value} {b : Nat × Nat} {h : sr_H} {P : Option Value → sr_H → Prop} (w : sr_wp mX3_thereCount d iX3_thereCount_24 24 L st b h P) : sr_Go mX3_thereCount d 24 L st b h P := sr_wp_go kX3_thereCount_24 w
theorem kX3_thereCount_30 : sr_is cX3_thereCount 30 iX3_thereCount_30 = true := sr_is_suf (as := aX3_thereCount_24) kX3_thereCount_24
theorem lX3_thereCount_30 {d : Nat} {L : sr_L} {st : List Value} {b : Nat × Nat} {h : sr_H} {P : Option Value → sr_H → Prop} (w : sr_wp mX3_thereCount d iX3_thereCount_30 30 L st b h P) : sr_Go mX3_thereCount d 30 L st b h P := sr_wp_go kX3_thereCount_30 w
def iX3_digestFrom_73 : List (Instr × Nat × Nat) := [(.lload_n 3, 74, 0), (.lreturn, 75, 0)]
def aX3_digestFrom_67 : List (Instr × Nat × Nat) := [(.iinc 5 1, 70, 0), (.goto (-65), 73, 5)]
def iX3_digestFrom_67 : List (Instr × Nat × Nat) := aX3_digestFrom_67 ++ iX3_digestFrom_73
def aX3_digestFrom_33 : List (Instr × Nat × Nat) := [(.iload 6, 35, 0), (.aload_n 0, 36, 0), (.getfield 13, 39, 0), (.iload 5, 41, 0), (.iaload, 42, 0), (.if_icmp .ge 25, 45, 67), (.ldc2_w 38, 48, 0), (.lload_n 3, 49, 0), (.lmul, 50, 0), (.aload_n 0, 51, 0), (.iload 5, 53, 0), (.iload 6, 55, 0), (.invokevirtual 30, 58, 0), (.i2l, 59, 0), (.ladd, 60, 0), (.lstore_n 3, 61, 0), (.iinc 6 1, 64, 0), (.goto (-31), 67, 33)]
def iX3_digestFrom_33 : List (Instr × Nat × Nat) := aX3_digestFrom_33 ++ iX3_digestFrom_67
def aX3_digestFrom_5 : List (Instr × Nat × Nat) := [(.iload 5, 7, 0), (.aload_n 0, 8, 0), (.getfield 13, 11, 0), (.arraylength, 12, 0), (.if_icmp .ge 61, 15, 73), (.ldc2_w 38, 18, 0), (.lload_n 3, 19, 0), (.lmul, 20, 0), (.aload_n 0, 21, 0), (.getfield 13, 24, 0), (.iload 5, 26, 0), (.iaload, 27, 0), (.i2l, 28, 0), (.ladd, 29, 0), (.lstore_n 3, 30, 0), (.iconst 0, 31, 0), (.istore 6, 33, 0)]
def iX3_digestFrom_5 : List (Instr × Nat × Nat) := aX3_digestFrom_5 ++ iX3_digestFrom_33
def aX3_digestFrom_0 : List (Instr × Nat × Nat) := [(.lload_n 1, 1, 0), (.lstore_n 3, 2, 0), (.iconst 0, 3, 0), (.istore 5, 5, 0)]
def iX3_digestFrom_0 : List (Instr × Nat × Nat) := aX3_digestFrom_0 ++ iX3_digestFrom_5
theorem kX3_digestFrom_0 : sr_is cX3_digestFrom 0 iX3_digestFrom_0 = true := by decide +kernel
theorem lX3_digestFrom_0 {d : Nat} {L : sr_L} {st : List Value} {b : Nat × Nat} {h : sr_H} {P : Option Value → sr_H → Prop} (w : sr_wp mX3_digestFrom d iX3_digestFrom_0 0 L st b h P) : sr_Go mX3_digestFrom d 0 L st b h P := sr_wp_go kX3_digestFrom_0 w
theorem kX3_digestFrom_5 : sr_is cX3_digestFrom 5 iX3_digestFrom_5 = true := sr_is_suf (as := aX3_digestFrom_0) kX3_digestFrom_0
theorem lX3_digestFrom_5 {d : Nat} {L : sr_L} {st : List Value} {b : Nat × Nat} {h : sr_H} {P : Option Value → sr_H → Prop} (w : sr_wp mX3_digestFrom d iX3_digestFrom_5 5 L st b h P) : sr_Go mX3_digestFrom d 5 L st b h P := sr_wp_go kX3_digestFrom_5 w
theorem kX3_digestFrom_33 : sr_is cX3_digestFrom 33 iX3_digestFrom_33 = true := sr_is_suf (as := aX3_digestFrom_5) kX3_digestFrom_5
theorem lX3_digestFrom_33 {d : Nat} {L : sr_L} {st : List Value} {b : Nat × Nat} {h : sr_H} {P : Option Value → sr_H → Prop} (w : sr_wp mX3_digestFrom d iX3_digestFrom_33 33 L st b h P) : sr_Go mX3_digestFrom d 33 L st b h P := sr_wp_go kX3_digestFrom_33 w
theorem kX3_digestFrom_67 : sr_is cX3_digestFrom 67 iX3_digestFrom_67 = true := sr_is_suf (as := aX3_digestFrom_33) kX3_digestFrom_33
theorem lX3_digestFrom_67 {d : Nat} {L : sr_L} {st : List Value} {b : Nat × Nat} {h : sr_H} {P : Option Value → sr_H → Prop} (w : sr_wp mX3_digestFrom d iX3_digestFrom_67 67 L st b h P) : sr_Go mX3_digestFrom d 67 L st b h P := sr_wp_go kX3_digestFrom_67 w
theorem kX3_digestFrom_73 : sr_is cX3_digestFrom 73 iX3_digestFrom_73 = true := sr_is_suf (as := aX3_digestFrom_67) kX3_digestFrom_67
theorem lX3_digestFrom_73 {d : Nat} {L : sr_L} {st : List Value} {b : Nat × Nat} {h : sr_H} {P : Option Value → sr_H → Prop} (w : sr_wp mX3_digestFrom d iX3_digestFrom_73 73 L st b h P) : sr_Go mX3_digestFrom d 73 L st b h P := sr_wp_go kX3_digestFrom_73 w
