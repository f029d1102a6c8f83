def iX5_init_208 : List (Instr × Nat × Nat) := [(.return_, 209, 0)]
def aX5_init_190 : List (Instr × Nat × Nat) := [(.iload_n 1, 191, 0), (.iconst 4, 192, 0), (.if_icmp .ge 16, 195, 208), (.aload_n 0, 196, 0), (.getfield 26, 199, 0), (.iload_n 1, 200, 0), (.iconst (-1), 201, 0), (.iastore, 202, 0), (.iinc 1 1, 205, 0), (.goto (-15), 208, 190)]
def iX5_init_190 : List (Instr × Nat × Nat) := aX5_init_190 ++ iX5_init_208
def aX5_init_188 : List (Instr × Nat × Nat) := [(.iconst 0, 189, 0), (.istore_n 1, 190, 0)]
def iX5_init_188 : List (Instr × Nat × Nat) := aX5_init_188 ++ iX5_init_190
def aX5_init_169 : List (Instr × Nat × Nat) := [(.iload_n 1, 170, 0), (.bipush 6, 172, 0), (.if_icmp .ge 16, 175, 188), (.aload_n 0, 176, 0), (.getfield 17, 179, 0), (.iload_n 1, 180, 0), (.iconst (-1), 181, 0), (.iastore, 182, 0), (.iinc 1 1, 185, 0), (.goto (-16), 188, 169)]
def iX5_init_169 : List (Instr × Nat × Nat) := aX5_init_169 ++ iX5_init_188
def aX5_init_0 : List (Instr × Nat × Nat) := [(.aload_n 0, 1, 0), (.invokespecial 1, 4, 0), (.aload_n 0, 5, 0), (.bipush 6, 7, 0), (.newarray .int, 9, 0), (.putfield 7, 12, 0), (.aload_n 0, 13, 0), (.lconst 1, 14, 0), (.putfield 13, 17, 0), (.aload_n 0, 18, 0), (.bipush 6, 20, 0), (.newarray .int, 22, 0), (.putfield 17, 25, 0), (.aload_n 0, 26, 0), (.sipush 240, 29, 0), (.newarray .int, 31, 0), (.putfield 20, 34, 0), (.aload_n 0, 35, 0), (.bipush 40, 37, 0), (.newarray .int, 39, 0), (.putfield 23, 42, 0), (.aload_n 0, 43, 0), (.iconst 4, 44, 0), (.newarray .int, 46, 0), (.putfield 26, 49, 0), (.aload_n 0, 50, 0), (.sipush 240, 53, 0), (.newarray .byte, 55, 0), (.putfield 29, 58, 0), (.aload_n 0, 59, 0), (.iconst 5, 60, 0), (.newarray .int, 62, 0), (.putfield 33, 65, 0), (.aload_n 0, 66, 0), (.iconst 5, 67, 0), (.newarray .int, 69, 0), (.putfield 36, 72, 0), (.aload_n 0, 73, 0), (.iconst 5, 74, 0), (.newarray .int, 76, 0), (.putfield 39, 79, 0), (.aload_n 0, 80, 0), (.bipush 32, 82, 0), (.newarray .int, 84, 0), (.putfield 42, 87, 0), (.aload_n 0, 88, 0), (.bipush 15, 90, 0), (.newarray .int, 92, 0), (.putfield 45, 95, 0), (.aload_n 0, 96, 0), (.bipush 32, 98, 0), (.newarray .int, 100, 0), (.putfield 48, 103, 0), (.aload_n 0, 104, 0), (.bipush 12, 106, 0), (.newarray .int, 108, 0), (.putfield 51, 111, 0), (.aload_n 0, 112, 0), (.sipush 720, 115, 0), (.newarray .int, 117, 0), (.putfield 54, 120, 0), (.aload_n 0, 121, 0), (.iconst 3, 122, 0), (.newarray .boolean, 124, 0), (.putfield 57, 127, 0), (.aload_n 0, 128, 0), (.iconst 3, 129, 0), (.newarray .int, 131, 0), (.putfield 61, 134, 0), (.aload_n 0, 135, 0), (.bipush 15, 137, 0), (.newarray .int, 139, 0), (.putfield 64, 142, 0), (.aload_n 0, 143, 0), (.bipush 36, 145, 0), (.newarray .int, 147, 0), (.putfield 67, 150, 0), (.aload_n 0, 151, 0), (.sipush 2160, 154, 0), (.newarray .int, 156, 0), (.putfield 70, 159, 0), (.aload_n 0, 160, 0), (.bipush 10, 162, 0), (.newarray .int, 164, 0), (.putfield 73, 167, 0), (.iconst 0, 168, 0), (.istore_n 1, 169, 0)]
def iX5_init_0 : List (Instr × Nat × Nat) := aX5_init_0 ++ iX5_init_169
theorem kX5_init_0 : sr_is cX5_init 0 iX5_init_0 = true := by decide +kernel
theorem lX5_init_0 {d : Nat} {L : sr_L} {st : List Value} {b : Nat × Nat} {h : sr_H} {P : Option Value → sr_H → Prop} (w : sr_wp mX5_init d iX5_init_0 0 L st b h P) : sr_Go mX5_init d 0 L st b h P := sr_wp_go kX5_init_0 w
theorem kX5_init_169 : sr_is cX5_init 169 iX5_init_169 = true := sr_is_suf (as := aX5_init_0) kX5_init_0
theorem lX5_init_169 {d : Nat} {L : sr_L} {st : List Value} {b : Nat × Nat} {h : sr_H} {P : Option Value → sr_H → Prop} (w : sr_wp mX5_init d iX5_init_169 169 L st b h P) : sr_Go mX5_init d 169 L st b h P := sr_wp_go kX5_init_169 w
theorem kX5_init_188 : sr_is cX5_init 188 iX5_init_188 = true := sr_is_suf (as := aX5_init_169) kX5_init_169
theorem lX5_init_188 {d : Nat} {L : sr_L} {st : List Value} {b : Nat × Nat} {h : sr_H} {P : Option Value → sr_H → Prop} (w : sr_wp mX5_init d iX5_init_188 188 L st b h P) : sr_Go mX5_init d 188 L st b h P := sr_wp_go kX5_init_188 w
theorem kX5_init_190 : sr_is cX5_init 190 iX5_init_190 = true := sr_is_suf (as := aX5_init_188) kX5_init_188
theorem lX5_init_190 {d : Nat} {L : sr_L} {st : List Value} {b : Nat × Nat} {h : sr_H} {P : Option Value → sr_H → Prop} (w : sr_wp mX5_init d iX5_init_190 190 L st b h P) : sr_Go mX5_init d 190 L st b h P := sr_wp_go kX5_init_190 w
theorem kX5_init_208 : sr_is cX5_init 208 iX5_init_208 = true := sr_is_suf (as := aX5_init_190) kX5_init_190
theorem lX5_init_208 {d : Nat} {L : sr_L} {st : List Value} {b : Nat × Nat} {h : sr_H} {P : Option Value → sr_H → Prop} (w : sr_wp mX5_init d iX5_init_208 208 L st b h P) : sr_Go mX5_init d 208 L st b h P := sr_wp_go kX5_init_208 w
def iX5_in_15 : List (Instr × Nat × Nat) := [(.ireturn, 16, 0)]
def aX5_in_14 : List (Instr × Nat × Nat) := [(.iconst 0, 15, 0)]
def iX5_in_14 : List (Instr × Nat × Nat) := aX5_in_14 ++ iX5_in_15
def aX5_in_0 : List (Instr × Nat × Nat) := [(.iload_n 0, 1, 0), (.iload_n 1, 2, 0), (.if_icmp .lt 12, 5, 14), (.iload_n 0, 6, 0), (.iload_n 2, 7, 0), (.if_icmp .gt 7, 10, 14), (.iconst 1, 11, 0), (.goto 4, 14, 15)]
def iX5_in_0 : List (Instr × Nat × Nat) := aX5_in_0 ++ iX5_in_14
theorem kX5_in_0 : sr_is cX5_in 0 iX5_in_0 = true := by decide +kernel
theorem lX5_in_0 {d : Nat} {L : sr_L} {st : List Value} {b : Nat × Nat} {h : sr_H} {P : Option Value → sr_H → Prop} (w : sr_wp mX5_in d iX5_in_0 0 L st b h P) : sr_Go mX5_in d 0 L st b h P := sr_wp_go kX5_in_0 w
theorem kX5_in_14 : sr_is cX5_in 14 iX5_in_14 = true := sr_is_suf (as := aX5_in_0) kX5_in_0
theorem lX5_in_14 {d : Nat} {L : sr_L} {st : List Value} {b : Nat × Nat} {h : sr_H} {P : Option Value → sr_H → Prop} (w : sr_wp mX5_in d iX5_in_14 14 L st b h P) : sr_Go mX5_in d 14 L st b h P := sr_wp_go kX5_in_14 w
theorem kX5_in_15 : sr_is cX5_in 15 iX5_in_15 = true := sr_is_suf (as := aX5_in_14) kX5_in_14
theorem lX5_in_15 {d : Nat} {L : sr_L} {st : List Value} {b : Nat × Nat} {h : sr_H} {P : Option Value → sr_H → Prop} (w : sr_wp mX5_in d iX5_in_15 15 L st b h P) : sr_Go mX5_in d 15 L st b h P := sr_wp_go kX5_in_15 w
def iX5_holds_14 : List (Instr × Nat × Nat) := [(.ireturn, 15, 0)]
def aX5_holds_13 : List (Instr × Nat × Nat) := [(.iconst 0, 14, 0)]
def iX5_holds_13 : List (Instr × Nat × Nat) := aX5_holds_13 ++ iX5_holds_14
def aX5_holds_0 : List (Instr × Nat × Nat) := [(.iload_n 0, 1, 0), (.iload_n 1, 2, 0), (.ishr, 3, 0), (.iconst 1, 4, 0), (.iand, 5, 0), (.iconst 1, 6, 0), (.if_icmp .ne 7, 9, 13), (.iconst 1, 10, 0), (.goto 4, 13, 14)]
def iX5_holds_0 : List (Instr × Nat × Nat) := aX5_holds_0 ++ iX5_holds_13
theorem kX5_holds_0 : sr_is cX5_holds 0 iX5_holds_0 = true := by decide +kernel
theorem lX5_holds_0 {d : Nat} {L : sr_L} {st : List Value} {b : Nat × Nat} {h : sr_H} {P : Option Value → sr_H → Prop} (w : sr_wp mX5_holds d iX5_holds_0 0 L st b h P) : sr_Go mX5_holds d 0 L st b h P := sr_wp_go kX5_holds_0 w
theorem kX5_holds_13 : sr_is cX5_holds 13 iX5_holds_13 = true := sr_is_suf (as := aX5_holds_0) kX5_holds_0
theorem lX5_holds_13 {d : Nat} {L : sr_L} {st : List Value} {b : Nat × Nat} {h : sr_H} {P : Option Value → sr_H → Prop} (w : sr_wp mX5_holds d iX5_holds_13 13 L st b h P) : sr_Go mX5_holds d 13 L st b h P := sr_wp_go kX5_holds_13 w
theorem kX5_holds_14 : sr_is cX5_holds 14 iX5_holds_14 = true := sr_is_suf (as := aX5_holds_13) kX5_holds_13
theorem lX5_holds_14 {d : Nat} {L : sr_L} {st : List Value} {b : Nat × Nat} {h : sr_H} {P : Option Value → sr_H → Prop} (w : sr_wp mX5_holds d iX5_holds_14 14 L st b h P) : sr_Go mX5_holds d 14 L st b h P := sr_wp_go kX5_holds_14 w
def iX5_bits_20 : List (Instr × Nat × Nat) := [(.iload_n 1, 21, 0), (.ireturn, 22, 0)]
def aX5_bits_4 : List (Instr × Nat × Nat) := [(.iload_n 2, 5, 0), (.ifCond .eq 15, 8, 20), (.iinc 1 1, 11, 0), (.iload_n 2, 12, 0), (.iload_n 2, 13, 0), (.iconst 1, 14, 0), (.isub, 15, 0), (.iand, 16, 0), (.istore_n 2, 17, 0), (.goto (-13), 20, 4)]
def iX5_bits_4 : List (Instr × Nat × Nat) := aX5_bits_4 ++ iX5_bits_20
def aX5_bits_0 : List (Instr × Nat × Nat) := [(.iconst 0, 1, 0), (.istore_n 1, 2, 0), (.iload_n 0, 3, 0), (.istore_n 2, 4, 0)]
def iX5_bits_0 : List (Instr × Nat × Nat) := aX5_bits_0 ++ iX5_bits_4
theorem kX5_bits_0 : sr_is cX5_bits 0 iX5_bits_0 = true := by decide +kernel
theorem lX5_bits_0 {d : Nat} {L : sr_L} {st : List Value} {b : Nat × Nat} {h : sr_H} {P : Option Value → sr_H → Prop} (w : sr_wp mX5_bits d iX5_bits_0 0 L st b h P) : sr_Go mX5_bits d 0 L st b h P := sr_wp_go kX5_bits_0 w
theorem kX5_bits_4 : sr_is cX5_bits 4 iX5_bits_4 = true := sr_is_suf (as := aX5_bits_0) kX5_bits_0
theorem lX5_bits_4 {d : Nat} {L : sr_L} {st : List Value} {b : Nat × Nat} {h : sr_H} {P : Option Value → sr_H → Prop} (w : sr_wp mX5_bits d iX5_bits_4 4 L st b h P) : sr_Go mX5_bits d 4 L st b h P := sr_wp_go kX5_bits_4 w
theorem kX5_bits_20 : sr_is cX5_bits 20 iX5_bits_20 = true := sr_is_suf (as := aX5_bits_4) kX5_bits_4
theorem lX5_bits_20 {d : Nat} {L : sr_L} {st : List Value} {b : Nat × Nat} {h : sr_H} {P : Option Value → sr_H → Prop} (w : sr_wp mX5_bits d iX5_bits_20 20 L st b h P) : sr_Go mX5_bits d 20 L st b h P := sr_wp_go kX5_bits_20 w
def iX5_meets_0 : List (Instr × Nat × Nat) := [(.aload_n 0, 1, 0), (.iload_n 1, 2, 0), (.putfield 76, 5, 0), (.aload_n 0, 6, 0), (.getfield 7, 9, 0), (.iload_n 1, 10, 0), (.dup2, 11, 0), (.iaload, 12, 0), (.iconst 1, 13, 0), (.iadd, 14, 0), (.iastore, 15, 0), (.bipush (-3), 17, 0), (.ireturn, 18, 0)]
theorem kX5_meets_0 : sr_is cX5_meets 0 iX5_meets_0 = true := by decide +kernel
theorem lX5_meets_0 {d : Nat} {L : sr_L} {st : List Value} {b : Nat × Nat} {h : sr_H} {P : Option Value → sr_H → Prop} (w : sr_wp mX5_meets d iX5_meets_0 0 L st b h P) : sr_Go mX5_meets d 0 L st b h P := sr_wp_go kX5_meets_0 w
def iX5_finding_0 : List (Instr × Nat × Nat) := [(.aload_n 0, 1, 0), (.getfield 76, 4, 0), (.ireturn, 5, 0)]
theorem kX5_finding_0 : sr_is cX5_finding 0 iX5_finding_0 = true := by decide +kernel
theorem lX5_finding_0 {d : Nat} {L : sr_L} {st : List Value} {b : Nat × Nat} {h : sr_H} {P : Option Value → sr_H → Prop} (w : sr_wp mX5_finding d iX5_finding_0 0 L st b h P) : sr_Go mX5_finding d 0 L st b h P := sr_wp_go kX5_finding_0 w
def iX5_findings_19 : List (Instr × Nat × Nat) := [(.ireturn, 20, 0)]
def aX5_findings_18 : List (Instr × Nat × Nat) := [(.iconst (-1), 19, 0)]
def iX5_findings_18 : List (Instr × Nat × Nat) := aX5_findings_18 ++ iX5_findings_19
def aX5_findings_0 : List (Instr × Nat × Nat) := [(.iload_n 1, 1, 0), (.iconst 1, 2, 0), (.iconst 5, 3, 0), (.invokestatic 80, 6, 0), (.ifCond .eq 12, 9, 18), (.aload_n 0, 10, 0), (.getfield 7, 13, 0), (.iload_n 1, 14, 0), (.iaload, 15, 0), (.goto 4, 18, 19)]
def iX5_findings_0 : List (Instr × Nat × Nat) := aX5_findings_0 ++ iX5_findings_18
theorem kX5_findings_0 : sr_is cX5_findings 0 iX5_findings_0 = true := by decide +kernel
theorem lX5_findings_0 {d : Nat} {L : sr_L} {st : List Value} {b : Nat × Nat} {h : sr_H} {P : Option Value → sr_H → Prop} (w : sr_wp mX5_findings d iX5_findings_0 0 L st b h P) : sr_Go mX5_findings d 0 L st b h P := sr_wp_go kX5_findings_0 w
theorem kX5_findings_18 : sr_is cX5_findings 18 iX5_findings_18 = true := sr_is_suf (as := aX5_findings_0) kX5_findings_0
theorem lX5_findings_18 {d : Nat} {L : sr_L} {st : List Value} {b : Nat × Nat} {h : sr_H} {P : Option Value → sr_H → Prop} (w : sr_wp mX5_findings d iX5_findings_18 18 L st b h P) : sr_Go mX5_findings d 18 L st b h P := sr_wp_go kX5_findings_18 w
theorem kX5_findings_19 : sr_is cX5_findings 19 iX5_findings_19 = true := sr_is_suf (as := aX5_findings_18) kX5_findings_18
theorem lX5_findings_19 {d : Nat} {L : sr_L} {st : List Value} {b : Nat × Nat} {h : sr_H} {P : Option Value → sr_H → Prop} (w : sr_wp mX5_findings d iX5_findings_19 19 L st b h P) : sr_Go mX5_findings d 19 L st b h P := sr_wp_go kX5_findings_19 w
def iX5_tells_0 : List (Instr × Nat × Nat) := [(.aload_n 0, 1, 0), (.iload_n 1, 2, 0), (.putfield 84, 5, 0), (.iload_n 2, 6, 0), (.ireturn, 7, 0)]
theorem kX5_tells_0 : sr_is cX5_tells 0 iX5_tells_0 = true := by decide +kernel
theorem lX5_tells_0 {d : Nat} {L : sr_L} {st : List Value} {b : Nat × Nat} {h : sr_H} {P : Option Value → sr_H → Prop} (w : sr_wp mX5_tells d iX5_tells_0 0 L st b h P) : sr_Go mX5_tells d 0 L st b h P := sr_wp_go kX5_tells_0 w
def iX5_asked_0 : List (Instr × Nat × Nat) := [(.aload_n 0, 1, 0), (.getfield 84, 4, 0), (.ireturn, 5, 0)]
theorem kX5_asked_0 : sr_is cX5_asked 0 iX5_asked_0 = true := by decide +kernel
theorem lX5_asked_0 {d : Nat} {L : sr_L} {st : List Value} {b : Nat × Nat} {h : sr_H} {P : Option Value → sr_H → Prop} (w : sr_wp mX5_asked d iX5_asked_0 0 L st b h P) : sr_Go mX5_asked d 0 L st b h P := sr_wp_go kX5_asked_0 w
def iX5_fraction_26 : List (Instr × Nat × Nat) := [(.aload_n 0, 27, 0), (.iload_n 1, 28, 0), (.iload_n 3, 29, 0), (.idiv, 30, 0), (.i2l, 31, 0), (.putfield 87, 34, 0), (.aload_n 0, 35, 0), (.iload_n 2, 36, 0), (.iload_n 3, 37, 0), (.idiv, 38, 0), (.i2l, 39, 0), (.putfield 13, 42, 0), (.iconst 1, 43, 0), (.ireturn, 44, 0)]
def aX5_fraction_5 : List (Instr × Nat × Nat) := [(.iload 4, 7, 0), (.ifCond .eq 19, 10, 26), (.iload_n 3, 11, 0), (.iload 4, 13, 0), (.irem, 14, 0), (.istore 5, 16, 0), (.iload 4, 18, 0), (.istore_n 3, 19, 0), (.iload 5, 21, 0), (.istore 4, 23, 0), (.goto (-18), 26, 5)]
def iX5_fraction_5 : List (Instr × Nat × Nat) := aX5_fraction_5 ++ iX5_fraction_26
def aX5_fraction_0 : List (Instr × Nat × Nat) := [(.iload_n 1, 1, 0), (.istore_n 3, 2, 0), (.iload_n 2, 3, 0), (.istore 4, 5, 0)]
def iX5_fraction_0 : List (Instr × Nat × Nat) := aX5_fraction_0 ++ iX5_fraction_5
theorem kX5_fraction_0 : sr_is cX5_fraction 0 iX5_fraction_0 = true := by decide +kernel
theorem lX5_fraction_0 {d : Nat} {L : sr_L} {st : List Value} {b : Nat × Nat} {h : sr_H} {P : Option Value → sr_H → Prop} (w : sr_wp mX5_fraction d iX5_fraction_0 0 L st b h P) : sr_Go mX5_fraction d 0 L st b h P := sr_wp_go kX5_fraction_0 w
theorem kX5_fraction_5 : sr_is cX5_fraction 5 iX5_fraction_5 = true := sr_is_suf (as := aX5_fraction_0) kX5_fraction_0
theorem lX5_fraction_5 {d : Nat} {L : sr_L} {st : List Value} {b : Nat × Nat} {h : sr_H} {P : Option Value → sr_H → Prop} (w : sr_wp mX5_fraction d iX5_fraction_5 5 L st b h P) : sr_Go mX5_fraction d 5 L st b h P := sr_wp_go kX5_fraction_5 w
theorem kX5_fraction_26 : sr_is cX5_fraction 26 iX5_fraction_26 = true := sr_is_suf (as := aX5_fraction_5) kX5_fraction_5
theorem lX5_fraction_26 {d : Nat} {L : sr_L} {st : List Value} {b : Nat × Nat} {h : sr_H} {P : Option Value → sr_H → Prop} (w : sr_wp mX5_fraction d iX5_fraction_26 26 L st b h P) : sr_Go mX5_fraction d 26 L st b h P := sr_wp_go kX5_fraction_26 w
def iX5_upper_0 : List (Instr × Nat × Nat) := [(.aload_n 0, 1, 0), (.getfield 87, 4, 0), (.lreturn, 5, 0)]
theorem kX5_upper_0 : sr_is cX5_upper 0 iX5_upper_0 = true := by decide +kernel
theorem lX5_upper_0 {d : Nat} {L : sr_L} {st : List Value} {b : Nat × Nat} {h : sr_H} {P : Option Value → sr_H → Prop} (w : sr_wp mX5_upper d iX5_upper_0 0 L st b h P) : sr_Go mX5_upper d 0 L st b h P := sr_wp_go kX5_upper_0 w
def iX5_lower_0 : List (Instr × Nat × Nat) := [(.aload_n 0, 1, 0), (.getfield 13, 4, 0), (.lreturn, 5, 0)]
theorem kX5_lower_0 : sr_is cX5_lower 0 iX5_lower_0 = true := by decide +kernel
theorem lX5_lower_0 {d : Nat} {L : sr_L} {st : List Value} {b : Nat × Nat} {h : sr_H} {P : Option Value → sr_H → Prop} (w : sr_wp mX5_lower d iX5_lower_0 0 L st b h P) : sr_Go mX5_lower d 0 L st b h P := sr_wp_go kX5_lower_0 w
def iX5_isRow_0 : List (Instr × Nat × Nat) := [(.iload_n 0, 1, 0), (.iconst 0, 2, 0), (.iconst 5, 3, 0), (.invokestatic 80, 6, 0), (.ireturn, 7, 0)]
theorem kX5_isRow_0 : sr_is cX5_isRow 0 iX5_isRow_0 = true := by decide +kernel
theorem lX5_isRow_0 {d : Nat} {L : sr_L} {st : List Value} {b : Nat × Nat} {h : sr_H} {P : Option Value → sr_H → Prop} (w : sr_wp mX5_isRow d iX5_isRow_0 0 L st b h P) : sr_Go mX5_isRow d 0 L st b h P := sr_wp_go kX5_isRow_0 w
def iX5_rowAt_0 : List (Instr × Nat × Nat) := [(.aload_n 0, 1, 0), (.getfield 20, 4, 0), (.bipush 40, 6, 0), (.iload_n 1, 7, 0), (.imul, 8, 0), (.iload_n 2, 9, 0), (.iadd, 10, 0), (.iaload, 11, 0), (.ireturn, 12, 0)]
theorem kX5_rowAt_0 : sr_is cX5_rowAt 0 iX5_rowAt_0 = true := by decide +kernel
theorem lX5_rowAt_0 {d : Nat} {L : sr_L} {st : List Value} {b : Nat × Nat} {h : sr_H} {P : Option Value → sr_H → Prop} (w : sr_wp mX5_rowAt d iX5_rowAt_0 0 L st b h P) : sr_Go mX5_rowAt d 0 L st b h P := sr_wp_go kX5_rowAt_0 w
def iX5_row_58 : List (Instr × Nat × Nat) := [(.iload_n 2, 59, 0), (.ireturn, 60, 0)]
def aX5_row_34 : List (Instr × Nat × Nat) := [(.iload_n 3, 35, 0), (.bipush 40, 37, 0), (.if_icmp .ge 21, 40, 58), (.aload_n 0, 41, 0), (.getfield 20, 44, 0), (.bipush 40, 46, 0), (.iload_n 1, 47, 0), (.imul, 48, 0), (.iload_n 3, 49, 0), (.iadd, 50, 0), (.iconst 0, 51, 0), (.iastore, 52, 0), (.iinc 3 1, 55, 0), (.goto (-21), 58, 34)]
def iX5_row_34 : List (Instr × Nat × Nat) := aX5_row_34 ++ iX5_row_58
def aX5_row_25 : List (Instr × Nat × Nat) := [(.aload_n 0, 26, 0), (.getfield 17, 29, 0), (.iload_n 1, 30, 0), (.iload_n 2, 31, 0), (.iastore, 32, 0), (.iconst 0, 33, 0), (.istore_n 3, 34, 0)]
def iX5_row_25 : List (Instr × Nat × Nat) := aX5_row_25 ++ iX5_row_34
def aX5_row_15 : List (Instr × Nat × Nat) := [(.iload_n 2, 16, 0), (.ifCond .ge 9, 19, 25), (.aload_n 0, 20, 0), (.iconst 5, 21, 0), (.invokevirtual 94, 24, 0), (.ireturn, 25, 0)]
def iX5_row_15 : List (Instr × Nat × Nat) := aX5_row_15 ++ iX5_row_25
def aX5_row_13 : List (Instr × Nat × Nat) := [(.iconst (-1), 14, 0), (.ireturn, 15, 0)]
def iX5_row_13 : List (Instr × Nat × Nat) := aX5_row_13 ++ iX5_row_15
def aX5_row_0 : List (Instr × Nat × Nat) := [(.iload_n 1, 1, 0), (.invokestatic 90, 4, 0), (.ifCond .eq 9, 7, 13), (.iload_n 2, 8, 0), (.bipush 40, 10, 0), (.if_icmp .le 5, 13, 15)]
def iX5_row_0 : List (Instr × Nat × Nat) := aX5_row_0 ++ iX5_row_13
theorem kX5_row_0 : sr_is cX5_row 0 iX5_row_0 = true := by decide +kernel
theorem lX5_row_0 {d : Nat} {L : sr_L} {st : List Value} {b : Nat × Nat} {h : sr_H} {P : Option Value → sr_H → Prop} (w : sr_wp mX5_row d iX5_row_0 0 L st b h P) : sr_Go mX5_row d 0 L st b h P := sr_wp_go kX5_row_0 w
theorem kX5_row_13 : sr_is cX5_row 13 iX5_row_13 = true := sr_is_suf (as := aX5_row_0) kX5_row_0
theorem lX5_row_13 {d : Nat} {L : sr_L} {st : List Value} {b : Nat × Nat} {h : sr_H} {P : Option Value → sr_H → Prop} (w : sr_wp mX5_row d iX5_row_13 13 L st b h P) : sr_Go mX5_row d 13 L st b h P := sr_wp_go kX5_row_13 w
theorem kX5_row_15 : sr_is cX5_row 15 iX5_row_15 = true := sr_is_suf (as := aX5_row_13) kX5_row_13
theorem lX5_row_15 {d : Nat} {L : sr_L} {st : List Value} {b : Nat × Nat} {h : sr_H} {P : Option Value → sr_H → Prop} (w : sr_wp mX5_row d iX5_row_15 15 L st b h P) : sr_Go mX5_row d 15 L st b h P := sr_wp_go kX5_row_15 w
theorem kX5_row_25 : sr_is cX5_row 25 iX5_row_25 = true := sr_is_suf (as := aX5_row_15) kX5_row_15
theorem lX5_row_25 {d : Nat} {L : sr_L} {st : List Value} {b : Nat × Nat} {h : sr_H} {P : Option Value → sr_H → Prop} (w : sr_wp mX5_row d iX5_row_25 25 L st b h P) : sr_Go mX5_row d 25 L st b h P := sr_wp_go kX5_row_25 w
theorem kX5_row_34 : sr_is cX5_row 34 iX5_row_34 = true := sr_is_suf (as := aX5_row_25) kX5_row_25
theorem lX5_row_34 {d : Nat} {L : sr_L} {st : List Value} {b : Nat × Nat} {h : sr_H} {P : Option Value → sr_H → Prop} (w : sr_wp mX5_row d iX5_row_34 34 L st b h P) : sr_Go mX5_row d 34 L st b h P := sr_wp_go kX5_row_34 w
theorem kX5_row_58 : sr_is cX5_row 58 iX5_row_58 = true := sr_is_suf (as := aX5_row_34) kX5_row_34
theorem lX5_row_58 {d : Nat} {L : sr_L} {st : List Value} {b : Nat × Nat} {h : sr_H} {P : Option Value → sr_H → Prop} (w : sr_wp mX5_row d iX5_row_58 58 L st b h P) : sr_Go mX5_row d 58 L st b h P := sr_wp_go kX5_row_58 w
def iX5_lay_46 : List (Instr × Nat × Nat) := [(.aload_n 0, 47, 0), (.iload_n 1, 48, 0), (.iload_n 2, 49, 0), (.invokevirtual 98, 52, 0), (.istore 4, 54, 0), (.aload_n 0, 55, 0), (.getfield 20, 58, 0), (.bipush 40, 60, 0), (.iload_n 1, 61, 0), (.imul, 62, 0), (.iload_n 2, 63, 0), (.iadd, 64, 0), (.iload_n 3, 65, 0), (.iastore, 66, 0), (.aload_n 0, 67, 0), (.iload 4, 69, 0), (.iconst 1, 70, 0), (.invokevirtual 102, 73, 0), (.ireturn, 74, 0)]
def aX5_lay_24 : List (Instr × Nat × Nat) := [(.iload_n 2, 25, 0), (.iconst 0, 26, 0), (.aload_n 0, 27, 0), (.getfield 17, 30, 0), (.iload_n 1, 31, 0), (.iaload, 32, 0), (.iconst 1, 33, 0), (.isub, 34, 0), (.invokestatic 80, 37, 0), (.ifCond .ne 9, 40, 46), (.aload_n 0, 41, 0), (.iconst 2, 42, 0), (.invokevirtual 94, 45, 0), (.ireturn, 46, 0)]
def iX5_lay_24 : List (Instr × Nat × Nat) := aX5_lay_24 ++ iX5_lay_46
def aX5_lay_9 : List (Instr × Nat × Nat) := [(.aload_n 0, 10, 0), (.getfield 17, 13, 0), (.iload_n 1, 14, 0), (.iaload, 15, 0), (.ifCond .ge 9, 18, 24), (.aload_n 0, 19, 0), (.iconst 1, 20, 0), (.invokevirtual 94, 23, 0), (.ireturn, 24, 0)]
def iX5_lay_9 : List (Instr × Nat × Nat) := aX5_lay_9 ++ iX5_lay_24
def aX5_lay_0 : List (Instr × Nat × Nat) := [(.iload_n 1, 1, 0), (.invokestatic 90, 4, 0), (.ifCond .ne 5, 7, 9), (.iconst (-1), 8, 0), (.ireturn, 9, 0)]
def iX5_lay_0 : List (Instr × Nat × Nat) := aX5_lay_0 ++ iX5_lay_9
theorem kX5_lay_0 : sr_is cX5_lay 0 iX5_lay_0 = true := by decide +kernel
theorem lX5_lay_0 {d : Nat} {L : sr_L} {st : List Value} {b : Nat × Nat} {h : sr_H} {P : Option Value → sr_H → Prop} (w : sr_wp mX5_lay d iX5_lay_0 0 L st b h P) : sr_Go mX5_lay d 0 L st b h P := sr_wp_go kX5_lay_0 w
theorem kX5_lay_9 : sr_is cX5_lay 9 iX5_lay_9 = true := sr_is_suf (as := aX5_lay_0) kX5_lay_0
theorem lX5_lay_9 {d : Nat} {L : sr_L} {st : List Value} {b : Nat × Nat} {h : sr_H} {P : Option Value → sr_H → Prop} (w : sr_wp mX5_lay d iX5_lay_9 9 L st b h P) : sr_Go mX5_lay d 9 L st b h P := sr_wp_go kX5_lay_9 w
theorem kX5_lay_24 : sr_is cX5_lay 24 iX5_lay_24 = true := sr_is_suf (as := aX5_lay_9) kX5_lay_9
theorem lX5_lay_24 {d : Nat} {L : sr_L} {st : List Value} {b : Nat × Nat} {h : sr_H} {P : Option Value → sr_H → Prop} (w : sr_wp mX5_lay d iX5_lay_24 24 L st b h P) : sr_Go mX5_lay d 24 L st b h P := sr_wp_go kX5_lay_24 w
theorem kX5_lay_46 : sr_is cX5_lay 46 iX5_lay_46 = true := sr_is_suf (as := aX5_lay_24) kX5_lay_24
theorem lX5_lay_46 {d : Nat} {L : sr_L} {st : List Value} {b : Nat × Nat} {h : sr_H} {P : Option Value → sr_H → Prop} (w : sr_wp mX5_lay d iX5_lay_46 46 L st b h P) : sr_Go mX5_lay d 46 L st b h P := sr_wp_go kX5_lay_46 w
def iX5_at_59 : List (Instr × Nat × Nat) := [(.ireturn, 60, 0)]
def aX5_at_54 : List (Instr × Nat × Nat) := [(.aload_n 0, 55, 0), (.iconst 2, 56, 0), (.invokevirtual 94, 59, 0)]
def iX5_at_54 : List (Instr × Nat × Nat) := aX5_at_54 ++ iX5_at_59
def aX5_at_24 : List (Instr × Nat × Nat) := [(.iload_n 2, 25, 0), (.iconst 0, 26, 0), (.aload_n 0, 27, 0), (.getfield 17, 30, 0), (.iload_n 1, 31, 0), (.iaload, 32, 0), (.iconst 1, 33, 0), (.isub, 34, 0), (.invokestatic 80, 37, 0), (.ifCond .eq 17, 40, 54), (.aload_n 0, 41, 0), (.aload_n 0, 42, 0), (.iload_n 1, 43, 0), (.iload_n 2, 44, 0), (.invokevirtual 98, 47, 0), (.iconst 1, 48, 0), (.invokevirtual 102, 51, 0), (.goto 8, 54, 59)]
def iX5_at_24 : List (Instr × Nat × Nat) := aX5_at_24 ++ iX5_at_54
def aX5_at_9 : List (Instr × Nat × Nat) := [(.aload_n 0, 10, 0), (.getfield 17, 13, 0), (.iload_n 1, 14, 0), (.iaload, 15, 0), (.ifCond .ge 9, 18, 24), (.aload_n 0, 19, 0), (.iconst 1, 20, 0), (.invokevirtual 94, 23, 0), (.ireturn, 24, 0)]
def iX5_at_9 : List (Instr × Nat × Nat) := aX5_at_9 ++ iX5_at_24
def aX5_at_0 : List (Instr × Nat × Nat) := [(.iload_n 1, 1, 0), (.invokestatic 90, 4, 0), (.ifCond .ne 5, 7, 9), (.iconst (-1), 8, 0), (.ireturn, 9, 0)]
def iX5_at_0 : List (Instr × Nat × Nat) := aX5_at_0 ++ iX5_at_9
theorem kX5_at_0 : sr_is cX5_at 0 iX5_at_0 = true := by decide +kernel
theorem lX5_at_0 {d : Nat} {L : sr_L} {st : List Value} {b : Nat × Nat} {h : sr_H} {P : Option Value → sr_H → Prop} (w : sr_wp mX5_at d iX5_at_0 0 L st b h P) : sr_Go mX5_at d 0 L st b h P := sr_wp_go kX5_at_0 w
theorem kX5_at_9 : sr_is cX5_at 9 iX5_at_9 = true := sr_is_suf (as := aX5_at_0) kX5_at_0
theorem lX5_at_9 {d : Nat} {L : sr_L} {st : List Value} {b : Nat × Nat} {h : sr_H} {P : Option Value → sr_H → Prop} (w : sr_wp mX5_at d iX5_at_9 9 L st b h P) : sr_Go mX5_at d 9 L st b h P := sr_wp_go kX5_at_9 w
theorem kX5_at_24 : sr_is cX5_at 24 iX5_at_24 = true := sr_is_suf (as := aX5_at_9) kX5_at_9
theorem lX5_at_24 {d : Nat} {L : sr_L} {st : List Value} {b : Nat × Nat} {h : sr_H} {P : Option Value → sr_H → Prop} (w : sr_wp mX5_at d iX5_at_24 24 L st b h P) : sr_Go mX5_at d 24 L st b h P := sr_wp_go kX5_at_24 w
theorem kX5_at_54 : sr_is cX5_at 54 iX5_at_54 = true := sr_is_suf (as := aX5_at_24) kX5_at_24
theorem lX5_at_54 {d : Nat} {L : sr_L} {st : List Value} {b : Nat × Nat} {h : sr_H} {P : Option Value → sr_H → Prop} (w : sr_wp mX5_at d iX5_at_54 54 L st b h P) : sr_Go mX5_at d 54 L st b h P := sr_wp_go kX5_at_54 w
theorem kX5_at_59 : sr_is cX5_at 59 iX5_at_59 = true := sr_is_suf (as := aX5_at_54) kX5_at_54
theorem lX5_at_59 {d : Nat} {L : sr_L} {st : List Value} {b : Nat × Nat} {h : sr_H} {P : Option Value → sr_H → Prop} (w : sr_wp mX5_at d iX5_at_59 59 L st b h P) : sr_Go mX5_at d 59 L st b h P := sr_wp_go kX5_at_59 w
def iX5_tear_24 : List (Instr × Nat × Nat) := [(.aload_n 0, 25, 0), (.getfield 17, 28, 0), (.iload_n 1, 29, 0), (.iconst (-1), 30, 0), (.iastore, 31, 0), (.iconst 1, 32, 0), (.ireturn, 33, 0)]
def aX5_tear_9 : List (Instr × Nat × Nat) := [(.aload_n 0, 10, 0), (.getfield 17, 13, 0), (.iload_n 1, 14, 0), (.iaload, 15, 0), (.ifCond .ge 9, 18, 24), (.aload_n 0, 19, 0), (.iconst 1, 20, 0), (.invokevirtual 94, 23, 0), (.ireturn, 24, 0)]
def iX5_tear_9 : List (Instr × Nat × Nat) := aX5_tear_9 ++ iX5_tear_24
def aX5_tear_0 : List (Instr × Nat × Nat) := [(.iload_n 1, 1, 0), (.invokestatic 90, 4, 0), (.ifCond .ne 5, 7, 9), (.iconst (-1), 8, 0), (.ireturn, 9, 0)]
def iX5_tear_0 : List (Instr × Nat × Nat) := aX5_tear_0 ++ iX5_tear_9
theorem kX5_tear_0 : sr_is cX5_tear 0 iX5_tear_0 = true := by decide +kernel
theorem lX5_tear_0 {d : Nat} {L : sr_L} {st : List Value} {b : Nat × Nat} {h : sr_H} {P : Option Value → sr_H → Prop} (w : sr_wp mX5_tear d iX5_tear_0 0 L st b h P) : sr_Go mX5_tear d 0 L st b h P := sr_wp_go kX5_tear_0 w
theorem kX5_tear_9 : sr_is cX5_tear 9 iX5_tear_9 = true := sr_is_suf (as := aX5_tear_0) kX5_tear_0
theorem lX5_tear_9 {d : Nat} {L : sr_L} {st : List Value} {b : Nat × Nat} {h : sr_H} {P : Option Value → sr_H → Prop} (w : sr_wp mX5_tear d iX5_tear_9 9 L st b h P) : sr_Go mX5_tear d 9 L st b h P := sr_wp_go kX5_tear_9 w
theorem kX5_tear_24 : sr_is cX5_tear 24 iX5_tear_24 = true := sr_is_suf (as := aX5_tear_9) kX5_tear_9
theorem lX5_tear_24 {d : Nat} {L : sr_L} {st : List Value} {b : Nat × Nat} {h : sr_H} {P : Option Value → sr_H → Prop} (w : sr_wp mX5_tear d iX5_tear_24 24 L st b h P) : sr_Go mX5_tear d 24 L st b h P := sr_wp_go kX5_tear_24 w
def iX5_copy_171 : List (Instr × Nat × Nat) := [(.iconst 1, 172, 0), (.ireturn, 173, 0)]
def aX5_copy_136 : List (Instr × Nat × Nat) := [(.iload 6, 138, 0), (.iload 5, 140, 0), (.if_icmp .ge 31, 143, 171), (.aload_n 0, 144, 0), (.getfield 20, 147, 0), (.bipush 40, 149, 0), (.iload_n 3, 150, 0), (.imul, 151, 0), (.iload 4, 153, 0), (.iadd, 154, 0), (.iload 6, 156, 0), (.iadd, 157, 0), (.aload_n 0, 158, 0), (.getfield 23, 161, 0), (.iload 6, 163, 0), (.iaload, 164, 0), (.iastore, 165, 0), (.iinc 6 1, 168, 0), (.goto (-32), 171, 136)]
def iX5_copy_136 : List (Instr × Nat × Nat) := aX5_copy_136 ++ iX5_copy_171
def aX5_copy_133 : List (Instr × Nat × Nat) := [(.iconst 0, 134, 0), (.istore 6, 136, 0)]
def iX5_copy_133 : List (Instr × Nat × Nat) := aX5_copy_133 ++ iX5_copy_136
def aX5_copy_104 : List (Instr × Nat × Nat) := [(.iload 6, 106, 0), (.iload 5, 108, 0), (.if_icmp .ge 25, 111, 133), (.aload_n 0, 112, 0), (.getfield 23, 115, 0), (.iload 6, 117, 0), (.aload_n 0, 118, 0), (.iload_n 1, 119, 0), (.iload_n 2, 120, 0), (.iload 6, 122, 0), (.iadd, 123, 0), (.invokevirtual 98, 126, 0), (.iastore, 127, 0), (.iinc 6 1, 130, 0), (.goto (-26), 133, 104)]
def iX5_copy_104 : List (Instr × Nat × Nat) := aX5_copy_104 ++ iX5_copy_133
def aX5_copy_101 : List (Instr × Nat × Nat) := [(.iconst 0, 102, 0), (.istore 6, 104, 0)]
def iX5_copy_101 : List (Instr × Nat × Nat) := aX5_copy_101 ++ iX5_copy_104
def aX5_copy_95 : List (Instr × Nat × Nat) := [(.aload_n 0, 96, 0), (.iconst 2, 97, 0), (.invokevirtual 94, 100, 0), (.ireturn, 101, 0)]
def iX5_copy_95 : List (Instr × Nat × Nat) := aX5_copy_95 ++ iX5_copy_101
def aX5_copy_51 : List (Instr × Nat × Nat) := [(.iload_n 2, 52, 0), (.ifCond .lt 43, 55, 95), (.iload 4, 57, 0), (.ifCond .lt 38, 60, 95), (.iload_n 2, 61, 0), (.i2l, 62, 0), (.iload 5, 64, 0), (.i2l, 65, 0), (.ladd, 66, 0), (.aload_n 0, 67, 0), (.getfield 17, 70, 0), (.iload_n 1, 71, 0), (.iaload, 72, 0), (.i2l, 73, 0), (.lcmp, 74, 0), (.ifCond .gt 21, 77, 95), (.iload 4, 79, 0), (.i2l, 80, 0), (.iload 5, 82, 0), (.i2l, 83, 0), (.ladd, 84, 0), (.aload_n 0, 85, 0), (.getfield 17, 88, 0), (.iload_n 3, 89, 0), (.iaload, 90, 0), (.i2l, 91, 0), (.lcmp, 92, 0), (.ifCond .le 9, 95, 101)]
def iX5_copy_51 : List (Instr × Nat × Nat) := aX5_copy_51 ++ iX5_copy_95
def aX5_copy_45 : List (Instr × Nat × Nat) := [(.aload_n 0, 46, 0), (.iconst 1, 47, 0), (.invokevirtual 94, 50, 0), (.ireturn, 51, 0)]
def iX5_copy_45 : List (Instr × Nat × Nat) := aX5_copy_45 ++ iX5_copy_51
def aX5_copy_27 : List (Instr × Nat × Nat) := [(.aload_n 0, 28, 0), (.getfield 17, 31, 0), (.iload_n 1, 32, 0), (.iaload, 33, 0), (.ifCond .lt 12, 36, 45), (.aload_n 0, 37, 0), (.getfield 17, 40, 0), (.iload_n 3, 41, 0), (.iaload, 42, 0), (.ifCond .ge 9, 45, 51)]
def iX5_copy_27 : List (Instr × Nat × Nat) := aX5_copy_27 ++ iX5_copy_45
def aX5_copy_16 : List (Instr × Nat × Nat) := [(.iload 5, 18, 0), (.ifCond .ge 9, 21, 27), (.aload_n 0, 22, 0), (.iconst 5, 23, 0), (.invokevirtual 94, 26, 0), (.ireturn, 27, 0)]
def iX5_copy_16 : List (Instr × Nat × Nat) := aX5_copy_16 ++ iX5_copy_27
def aX5_copy_14 : List (Instr × Nat × Nat) := [(.iconst (-1), 15, 0), (.ireturn, 16, 0)]
def iX5_copy_14 : List (Instr × Nat × Nat) := aX5_copy_14 ++ iX5_copy_16
def aX5_copy_0 : List (Instr × Nat × Nat) := [(.iload_n 1, 1, 0), (.invokestatic 90, 4, 0), (.ifCond .eq 10, 7, 14), (.iload_n 3, 8, 0), (.invokestatic 90, 11, 0), (.ifCond .ne 5, 14, 16)]
def iX5_copy_0 : List (Instr × Nat × Nat) := aX5_copy_0 ++ iX5_copy_14
theorem kX5_copy_0 : sr_is cX5_copy 0 iX5_copy_0 = true := by decide +kernel
theorem lX5_copy_0 {d : Nat} {L : sr_L} {st : List Value} {b : Nat × Nat} {h : sr_H} {P : Option Value → sr_H → Prop} (w : sr_wp mX5_copy d iX5_copy_0 0 L st b h P) : sr_Go mX5_copy d 0 L st b h P := sr_wp_go kX5_copy_0 w
theorem kX5_copy_14 : sr_is cX5_copy 14 iX5_copy_14 = true := sr_is_suf (as := aX5_copy_0) kX5_copy_0
theorem lX5_copy_14 {d : Nat} {L : sr_L} {st : List Value} {b : Nat × Nat} {h : sr_H} {P : Option Value → sr_H → Prop} (w : sr_wp mX5_copy d iX5_copy_14 14 L st b h P) : sr_Go mX5_copy d 14 L st b h P := sr_wp_go kX5_copy_14 w
theorem kX5_copy_16 : sr_is cX5_copy 16 iX5_copy_16 = true := sr_is_suf (as := aX5_copy_14) kX5_copy_14
theorem lX5_copy_16 {d : Nat} {L : sr_L} {st : List Value} {b : Nat × Nat} {h : sr_H} {P : Option Value → sr_H → Prop} (w : sr_wp mX5_copy d iX5_copy_16 16 L st b h P) : sr_Go mX5_copy d 16 L st b h P := sr_wp_go kX5_copy_16 w
theorem kX5_copy_27 : sr_is cX5_copy 27 iX5_copy_27 = true := sr_is_suf (as := aX5_copy_16) kX5_copy_16
theorem lX5_copy_27 {d : Nat} {L : sr_L} {st : List Value} {b : Nat × Nat} {h : sr_H} {P : Option Value → sr_H → Prop} (w : sr_wp mX5_copy d iX5_copy_27 27 L st b h P) : sr_Go mX5_copy d 27 L st b h P := sr_wp_go kX5_copy_27 w
theorem kX5_copy_45 : sr_is cX5_copy 45 iX5_copy_45 = true := sr_is_suf (as := aX5_copy_27) kX5_copy_27
theorem lX5_copy_45 {d : Nat} {L : sr_L} {st : List Value} {b : Nat × Nat} {h : sr_H} {P : Option Value → sr_H → Prop} (w : sr_wp mX5_copy d iX5_copy_45 45 L st b h P) : sr_Go mX5_copy d 45 L st b h P := sr_wp_go kX5_copy_45 w
theorem kX5_copy_51 : sr_is cX5_copy 51 iX5_copy_51 = true := sr_is_suf (as := aX5_copy_45) kX5_copy_45
theorem lX5_copy_51 {d : Nat} {L : sr_L} {st : List Value} {b : Nat × Nat} {h : sr_H} {P : Option Value → sr_H → Prop} (w : sr_wp mX5_copy d iX5_copy_51 51 L st b h P) : sr_Go mX5_copy d 51 L st b h P := sr_wp_go kX5_copy_51 w
theorem kX5_copy_95 : sr_is cX5_copy 95 iX5_copy_95 = true := sr_is_suf (as := aX5_copy_51) kX5_copy_51
theorem lX5_copy_95 {d : Nat} {L : sr_L} {st : List Value} {b : Nat × Nat} {h : sr_H} {P : Option Value → sr_H → Prop} (w : sr_wp mX5_copy d iX5_copy_95 95 L st b h P) : sr_Go mX5_copy d 95 L st b h P := sr_wp_go kX5_copy_95 w
theorem kX5_copy_101 : sr_is cX5_copy 101 iX5_copy_101 = true := sr_is_suf (as := aX5_copy_95) kX5_copy_95
theorem lX5_copy_101 {d : Nat} {L : sr_L} {st : List Value} {b : Nat × Nat} {h : sr_H} {P : Option Value → sr_H → Prop} (w : sr_wp mX5_copy d iX5_copy_101 101 L st b h P) : sr_Go mX5_copy d 101 L st b h P := sr_wp_go kX5_copy_101 w
theorem kX5_copy_104 : sr_is cX5_copy 104 iX5_copy_104 = true := sr_is_suf (as := aX5_copy_101) kX5_copy_101
theorem lX5_copy_104 {d : Nat} {L : sr_L} {st : List Value} {b : Nat × Nat} {h : sr_H} {P : Option Value → sr_H → Prop} (w : sr_wp mX5_copy d iX5_copy_104 104 L st b h P) : sr_Go mX5_copy d 104 L st b h P := sr_wp_go kX5_copy_104 w
theorem kX5_copy_133 : sr_is cX5_copy 133 iX5_copy_133 = true := sr_is_suf (as := aX5_copy_104) kX5_copy_104
theorem lX5_copy_133 {d : Nat} {L : sr_L} {st : List Value} {b : Nat × Nat} {h : sr_H} {P : Option Value → sr_H → Prop} (w : sr_wp mX5_copy d iX5_copy_133 133 L st b h P) : sr_Go mX5_copy d 133 L st b h P := sr_wp_go kX5_copy_133 w
theorem kX5_copy_136 : sr_is cX5_copy 136 iX5_copy_136 = true := sr_is_suf (as := aX5_copy_133) kX5_copy_133
theorem lX5_copy_136 {d : Nat} {L : sr_L} {st : List Value} {b : Nat × Nat} {h : sr_H} {P : Option Value → sr_H → Prop} (w : sr_wp mX5_copy d iX5_copy_136 136 L st b h P) : sr_Go mX5_copy d 136 L st b h P := sr_wp_go kX5_copy_136 w
theorem kX5_copy_171 : sr_is cX5_copy 171 iX5_copy_171 = true := sr_is_suf (as := aX5_copy_136) kX5_copy_136
theorem lX5_copy_171 {d : Nat} {L : sr_L} {st : List Value} {b : Nat × Nat} {h : sr_H} {P : Option Value → sr_H → Prop} (w : sr_wp mX5_copy d iX5_copy_171 171 L st b h P) : sr_Go mX5_copy d 171 L st b h P := sr_wp_go kX5_copy_171 w
def iX5_mean_72 : List (Instr × Nat × Nat) := [(.aload_n 0, 73, 0), (.lload_n 2, 74, 0), (.aload_n 0, 75, 0), (.getfield 17, 78, 0), (.iload_n 1, 79, 0), (.iaload, 80, 0), (.i2l, 81, 0), (.ldiv, 82, 0), (.l2i, 83, 0), (.iconst 1, 84, 0), (.invokevirtual 102, 87, 0), (.ireturn, 88, 0)]
def aX5_mean_44 : List (Instr × Nat × Nat) := [(.iload 4, 46, 0), (.aload_n 0, 47, 0), (.getfield 17, 50, 0), (.iload_n 1, 51, 0), (.iaload, 52, 0), (.if_icmp .ge 20, 55, 72), (.lload_n 2, 56, 0), (.aload_n 0, 57, 0), (.iload_n 1, 58, 0), (.iload 4, 60, 0), (.invokevirtual 98, 63, 0), (.i2l, 64, 0), (.ladd, 65, 0), (.lstore_n 2, 66, 0), (.iinc 4 1, 69, 0), (.goto (-25), 72, 44)]
def iX5_mean_44 : List (Instr × Nat × Nat) := aX5_mean_44 ++ iX5_mean_72
def aX5_mean_39 : List (Instr × Nat × Nat) := [(.lconst 0, 40, 0), (.lstore_n 2, 41, 0), (.iconst 0, 42, 0), (.istore 4, 44, 0)]
def iX5_mean_39 : List (Instr × Nat × Nat) := aX5_mean_39 ++ iX5_mean_44
def aX5_mean_24 : List (Instr × Nat × Nat) := [(.aload_n 0, 25, 0), (.getfield 17, 28, 0), (.iload_n 1, 29, 0), (.iaload, 30, 0), (.ifCond .ne 9, 33, 39), (.aload_n 0, 34, 0), (.iconst 4, 35, 0), (.invokevirtual 94, 38, 0), (.ireturn, 39, 0)]
def iX5_mean_24 : List (Instr × Nat × Nat) := aX5_mean_24 ++ iX5_mean_39
def aX5_mean_9 : List (Instr × Nat × Nat) := [(.aload_n 0, 10, 0), (.getfield 17, 13, 0), (.iload_n 1, 14, 0), (.iaload, 15, 0), (.ifCond .ge 9, 18, 24), (.aload_n 0, 19, 0), (.iconst 1, 20, 0), (.invokevirtual 94, 23, 0), (.ireturn, 24, 0)]
def iX5_mean_9 : List (Instr × Nat × Nat) := aX5_mean_9 ++ iX5_mean_24
def aX5_mean_0 : List (Instr × Nat × Nat) := [(.iload_n 1, 1, 0), (.invokestatic 90, 4, 0), (.ifCond .ne 5, 7, 9), (.iconst (-1), 8, 0), (.ireturn, 9, 0)]
def iX5_mean_0 : List (Instr × Nat × Nat) := aX5_mean_0 ++ iX5_mean_9
theorem kX5_mean_0 : sr_is cX5_mean 0 iX5_mean_0 = true := by decide +kernel
theorem lX5_mean_0 {d : Nat} {L : sr_L} {st : List Value} {b : Nat × Nat} {h : sr_H} {P : Option Value → sr_H → Prop} (w : sr_wp mX5_mean d iX5_mean_0 0 L st b h P) : sr_Go mX5_mean d 0 L st b h P := sr_wp_go kX5_mean_0 w
theorem kX5_mean_9 : sr_is cX5_mean 9 iX5_mean_9 = true := sr_is_suf (as := aX5_mean_0) kX5_mean_0
theorem lX5_mean_9 {d : Nat} {L : sr_L} {st : List Value} {b : Nat × Nat} {h : sr_H} {P : Option Value → sr_H → Prop} (w : sr_wp mX5_mean d iX5_mean_9 9 L st b h P) : sr_Go mX5_mean d 9 L st b h P := sr_wp_go kX5_mean_9 w
theorem kX5_mean_24 : sr_is cX5_mean 24 iX5_mean_24 = true := sr_is_suf (as := aX5_mean_9) kX5_mean_9
theorem lX5_mean_24 {d : Nat} {L : sr_L} {st : List Value} {b : Nat × Nat} {h : sr_H} {P : Option Value → sr_H → Prop} (w : sr_wp mX5_mean d iX5_mean_24 24 L st b h P) : sr_Go mX5_mean d 24 L st b h P := sr_wp_go kX5_mean_24 w
theorem kX5_mean_39 : sr_is cX5_mean 39 iX5_mean_39 = true := sr_is_suf (as := aX5_mean_24) kX5_mean_24
theorem lX5_mean_39 {d : Nat} {L : sr_L} {st : List Value} {b : Nat × Nat} {h : sr_H} {P : Option Value → sr_H → Prop} (w : sr_wp mX5_mean d iX5_mean_39 39 L st b h P) : sr_Go mX5_mean d 39 L st b h P := sr_wp_go kX5_mean_39 w
theorem kX5_mean_44 : sr_is cX5_mean 44 iX5_mean_44 = true := sr_is_suf (as := aX5_mean_39) kX5_mean_39
theorem lX5_mean_44 {d : Nat} {L : sr_L} {st : List Value} {b : Nat × Nat} {h : sr_H} {P : Option Value → sr_H → Prop} (w : sr_wp mX5_mean d iX5_mean_44 44 L st b h P) : sr_Go mX5_mean d 44 L st b h P := sr_wp_go kX5_mean_44 w
theorem kX5_mean_72 : sr_is cX5_mean 72 iX5_mean_72 = true := sr_is_suf (as := aX5_mean_44) kX5_mean_44
theorem lX5_mean_72 {d : Nat} {L : sr_L} {st : List Value} {b : Nat × Nat} {h : sr_H} {P : Option Value → sr_H → Prop} (w : sr_wp mX5_mean d iX5_mean_72 72 L st b h P) : sr_Go mX5_mean d 72 L st b h P := sr_wp_go kX5_mean_72 w
def iX5_isText_0 : List (Instr × Nat × Nat) := [(.iload_n 0, 1, 0), (.iconst 0, 2, 0), (.iconst 3, 3, 0), (.invokestatic 80, 6, 0), (.ireturn, 7, 0)]
theorem kX5_isText_0 : sr_is cX5_isText 0 iX5_isText_0 = true := by decide +kernel
theorem lX5_isText_0 {d : Nat} {L : sr_L} {st : List Value} {b : Nat × Nat} {h : sr_H} {P : Option Value → sr_H → Prop} (w : sr_wp mX5_isText d iX5_isText_0 0 L st b h P) : sr_Go mX5_isText d 0 L st b h P := sr_wp_go kX5_isText_0 w
def iX5_text_59 : List (Instr × Nat × Nat) := [(.iload_n 2, 60, 0), (.ireturn, 61, 0)]
def aX5_text_34 : List (Instr × Nat × Nat) := [(.iload_n 3, 35, 0), (.bipush 60, 37, 0), (.if_icmp .ge 22, 40, 59), (.aload_n 0, 41, 0), (.getfield 29, 44, 0), (.bipush 60, 46, 0), (.iload_n 1, 47, 0), (.imul, 48, 0), (.iload_n 3, 49, 0), (.iadd, 50, 0), (.bipush 32, 52, 0), (.bastore, 53, 0), (.iinc 3 1, 56, 0), (.goto (-22), 59, 34)]
def iX5_text_34 : List (Instr × Nat × Nat) := aX5_text_34 ++ iX5_text_59
def aX5_text_25 : List (Instr × Nat × Nat) := [(.aload_n 0, 26, 0), (.getfield 26, 29, 0), (.iload_n 1, 30, 0), (.iload_n 2, 31, 0), (.iastore, 32, 0), (.iconst 0, 33, 0), (.istore_n 3, 34, 0)]
def iX5_text_25 : List (Instr × Nat × Nat) := aX5_text_25 ++ iX5_text_34
def aX5_text_15 : List (Instr × Nat × Nat) := [(.iload_n 2, 16, 0), (.ifCond .ge 9, 19, 25), (.aload_n 0, 20, 0), (.iconst 5, 21, 0), (.invokevirtual 94, 24, 0), (.ireturn, 25, 0)]
def iX5_text_15 : List (Instr × Nat × Nat) := aX5_text_15 ++ iX5_text_25
def aX5_text_13 : List (Instr × Nat × Nat) := [(.iconst (-1), 14, 0), (.ireturn, 15, 0)]
def iX5_text_13 : List (Instr × Nat × Nat) := aX5_text_13 ++ iX5_text_15
def aX5_text_0 : List (Instr × Nat × Nat) := [(.iload_n 1, 1, 0), (.invokestatic 105, 4, 0), (.ifCond .eq 9, 7, 13), (.iload_n 2, 8, 0), (.bipush 60, 10, 0), (.if_icmp .le 5, 13, 15)]
def iX5_text_0 : List (Instr × Nat × Nat) := aX5_text_0 ++ iX5_text_13
theorem kX5_text_0 : sr_is cX5_text 0 iX5_text_0 = true := by decide +kernel
theorem lX5_text_0 {d : Nat} {L : sr_L} {st : List Value} {b : Nat × Nat} {h : sr_H} {P : Option Value → sr_H → Prop} (w : sr_wp mX5_text d iX5_text_0 0 L st b h P) : sr_Go mX5_text d 0 L st b h P := sr_wp_go kX5_text_0 w
theorem kX5_text_13 : sr_is cX5_text 13 iX5_text_13 = true := sr_is_suf (as := aX5_text_0) kX5_text_0
theorem lX5_text_13 {d : Nat} {L : sr_L} {st : List Value} {b : Nat × Nat} {h : sr_H} {P : Option Value → sr_H → Prop} (w : sr_wp mX5_text d iX5_text_13 13 L st b h P) : sr_Go mX5_text d 13 L st b h P := sr_wp_go kX5_text_13 w
theorem kX5_text_15 : sr_is cX5_text 15 iX5_text_15 = true := sr_is_suf (as := aX5_text_13) kX5_text_13
theorem lX5_text_15 {d : Nat} {L : sr_L} {st : List Value} {b : Nat × Nat} {h : sr_H} {P : Option Value → sr_H → Prop} (w : sr_wp mX5_text d iX5_text_15 15 L st b h P) : sr_Go mX5_text d 15 L st b h P := sr_wp_go kX5_text_15 w
theorem kX5_text_25 : sr_is cX5_text 25 iX5_text_25 = true := sr_is_suf (as := aX5_text_15) kX5_text_15
theorem lX5_text_25 {d : Nat} {L : sr_L} {st : List Value} {b : Nat × Nat} {h : sr_H} {P : Option Value → sr_H → Prop} (w : sr_wp mX5_text d iX5_text_25 25 L st b h P) : sr_Go mX5_text d 25 L st b h P := sr_wp_go kX5_text_25 w
theorem kX5_text_34 : sr_is cX5_text 34 iX5_text_34 = true := sr_is_suf (as := aX5_text_25) kX5_text_25
theorem lX5_text_34 {d : Nat} {L : sr_L} {st : List Value} {b : Nat × Nat} {h : sr_H} {P : Option Value → sr_H → Prop} (w : sr_wp mX5_text d iX5_text_34 34 L st b h P) : sr_Go mX5_text d 34 L st b h P := sr_wp_go kX5_text_34 w
theorem kX5_text_59 : sr_is cX5_text 59 iX5_text_59 = true := sr_is_suf (as := aX5_text_34) kX5_text_34
theorem lX5_text_59 {d : Nat} {L : sr_L} {st : List Value} {b : Nat × Nat} {h : sr_H} {P : Option Value → sr_H → Prop} (w : sr_wp mX5_text d iX5_text_59 59 L st b h P) : sr_Go mX5_text d 59 L st b h P := sr_wp_go kX5_text_59 w
def iX5_put_46 : List (Instr × Nat × Nat) := [(.aload_n 0, 47, 0), (.getfield 29, 50, 0), (.bipush 60, 52, 0), (.iload_n 1, 53, 0), (.imul, 54, 0), (.iload_n 2, 55, 0), (.iadd, 56, 0), (.baload, 57, 0), (.istore 4, 59, 0), (.aload_n 0, 60, 0), (.getfield 29, 63, 0), (.bipush 60, 65, 0), (.iload_n 1, 66, 0), (.imul, 67, 0), (.iload_n 2, 68, 0), (.iadd, 69, 0), (.iload_n 3, 70, 0), (.i2b, 71, 0), (.bastore, 72, 0), (.sipush 1000, 75, 0), (.iload 4, 77, 0), (.iadd, 78, 0), (.ireturn, 79, 0)]
def aX5_put_24 : List (Instr × Nat × Nat) := [(.iload_n 2, 25, 0), (.iconst 0, 26, 0), (.aload_n 0, 27, 0), (.getfield 26, 30, 0), (.iload_n 1, 31, 0), (.iaload, 32, 0), (.iconst 1, 33, 0), (.isub, 34, 0), (.invokestatic 80, 37, 0), (.ifCond .ne 9, 40, 46), (.aload_n 0, 41, 0), (.iconst 2, 42, 0), (.invokevirtual 94, 45, 0), (.ireturn, 46, 0)]
def iX5_put_24 : List (Instr × Nat × Nat) := aX5_put_24 ++ iX5_put_46
def aX5_put_9 : List (Instr × Nat × Nat) := [(.aload_n 0, 10, 0), (.getfield 26, 13, 0), (.iload_n 1, 14, 0), (.iaload, 15, 0), (.ifCond .ge 9, 18, 24), (.aload_n 0, 19, 0), (.iconst 1, 20, 0), (.invokevirtual 94, 23, 0), (.ireturn, 24, 0)]
def iX5_put_9 : List (Instr × Nat × Nat) := aX5_put_9 ++ iX5_put_24
def aX5_put_0 : List (Instr × Nat × Nat) := [(.iload_n 1, 1, 0), (.invokestatic 105, 4, 0), (.ifCond .ne 5, 7, 9), (.iconst (-1), 8, 0), (.ireturn, 9, 0)]
def iX5_put_0 : List (Instr × Nat × Nat) := aX5_put_0 ++ iX5_put_9
theorem kX5_put_0 : sr_is cX5_put 0 iX5_put_0 = true := by decide +kernel
theorem lX5_put_0 {d : Nat} {L : sr_L} {st : List Value} {b : Nat × Nat} {h : sr_H} {P : Option Value → sr_H → Prop} (w : sr_wp mX5_put d iX5_put_0 0 L st b h P) : sr_Go mX5_put d 0 L st b h P := sr_wp_go kX5_put_0 w
theorem kX5_put_9 : sr_is cX5_put 9 iX5_put_9 = true := sr_is_suf (as := aX5_put_0) kX5_put_0
theorem lX5_put_9 {d : Nat} {L : sr_L} {st : List Value} {b : Nat × Nat} {h : sr_H} {P : Option Value → sr_H → Prop} (w : sr_wp mX5_put d iX5_put_9 9 L st b h P) : sr_Go mX5_put d 9 L st b h P := sr_wp_go kX5_put_9 w
theorem kX5_put_24 : sr_is cX5_put 24 iX5_put_24 = true := sr_is_suf (as := aX5_put_9) kX5_put_9
theorem lX5_put_24 {d : Nat} {L : sr_L} {st : List Value} {b : Nat × Nat} {h : sr_H} {P : Option Value → sr_H → Prop} (w : sr_wp mX5_put d iX5_put_24 24 L st b h P) : sr_Go mX5_put d 24 L st b h P := sr_wp_go kX5_put_24 w
theorem kX5_put_46 : sr_is cX5_put 46 iX5_put_46 = true := sr_is_suf (as := aX5_put_24) kX5_put_24
theorem lX5_put_46 {d : Nat} {L : sr_L} {st : List Value} {b : Nat × Nat} {h : sr_H} {P : Option Value → sr_H → Prop} (w : sr_wp mX5_put d iX5_put_46 46 L st b h P) : sr_Go mX5_put d 46 L st b h P := sr_wp_go kX5_put_46 w
def iX5_byteAt_25 : List (Instr × Nat × Nat) := [(.ireturn, 26, 0)]
def aX5_byteAt_24 : List (Instr × Nat × Nat) := [(.iconst 0, 25, 0)]
def iX5_byteAt_24 : List (Instr × Nat × Nat) := aX5_byteAt_24 ++ iX5_byteAt_25
def aX5_byteAt_0 : List (Instr × Nat × Nat) := [(.iload_n 2, 1, 0), (.aload_n 0, 2, 0), (.getfield 26, 5, 0), (.iload_n 1, 6, 0), (.iaload, 7, 0), (.if_icmp .ge 17, 10, 24), (.aload_n 0, 11, 0), (.getfield 29, 14, 0), (.bipush 60, 16, 0), (.iload_n 1, 17, 0), (.imul, 18, 0), (.iload_n 2, 19, 0), (.iadd, 20, 0), (.baload, 21, 0), (.goto 4, 24, 25)]
def iX5_byteAt_0 : List (Instr × Nat × Nat) := aX5_byteAt_0 ++ iX5_byteAt_24
theorem kX5_byteAt_0 : sr_is cX5_byteAt 0 iX5_byteAt_0 = true := by decide +kernel
theorem lX5_byteAt_0 {d : Nat} {L : sr_L} {st : List Value} {b : Nat × Nat} {h : sr_H} {P : Option Value → sr_H → Prop} (w : sr_wp mX5_byteAt d iX5_byteAt_0 0 L st b h P) : sr_Go mX5_byteAt d 0 L st b h P := sr_wp_go kX5_byteAt_0 w
theorem kX5_byteAt_24 : sr_is cX5_byteAt 24 iX5_byteAt_24 = true := sr_is_suf (as := aX5_byteAt_0) kX5_byteAt_0
theorem lX5_byteAt_24 {d : Nat} {L : sr_L} {st : List Value} {b : Nat × Nat} {h : sr_H} {P : Option Value → sr_H → Prop} (w : sr_wp mX5_byteAt d iX5_byteAt_24 24 L st b h P) : sr_Go mX5_byteAt d 24 L st b h P := sr_wp_go kX5_byteAt_24 w
theorem kX5_byteAt_25 : sr_is cX5_byteAt 25 iX5_byteAt_25 = true := sr_is_suf (as := aX5_byteAt_24) kX5_byteAt_24
theorem lX5_byteAt_25 {d : Nat} {L : sr_L} {st : List Value} {b : Nat × Nat} {h : sr_H} {P : Option Value → sr_H → Prop} (w : sr_wp mX5_byteAt d iX5_byteAt_25 25 L st b h P) : sr_Go mX5_byteAt d 25 L st b h P := sr_wp_go kX5_byteAt_25 w
def iX5_kindOf_104 : List (Instr × Nat × Nat) := [(.bipush (-9), 106, 0), (.ireturn, 107, 0)]
def aX5_kindOf_102 : List (Instr × Nat × Nat) := [(.iconst 5, 103, 0), (.ireturn, 104, 0)]
def iX5_kindOf_102 : List (Instr × Nat × Nat) := aX5_kindOf_102 ++ iX5_kindOf_104
def aX5_kindOf_100 : List (Instr × Nat × Nat) := [(.iconst 4, 101, 0), (.ireturn, 102, 0)]
def iX5_kindOf_100 : List (Instr × Nat × Nat) := aX5_kindOf_100 ++ iX5_kindOf_102
def aX5_kindOf_98 : List (Instr × Nat × Nat) := [(.iconst 3, 99, 0), (.ireturn, 100, 0)]
def iX5_kindOf_98 : List (Instr × Nat × Nat) := aX5_kindOf_98 ++ iX5_kindOf_100
def aX5_kindOf_96 : List (Instr × Nat × Nat) := [(.iconst 2, 97, 0), (.ireturn, 98, 0)]
def iX5_kindOf_96 : List (Instr × Nat × Nat) := aX5_kindOf_96 ++ iX5_kindOf_98
def aX5_kindOf_94 : List (Instr × Nat × Nat) := [(.iconst 1, 95, 0), (.ireturn, 96, 0)]
def iX5_kindOf_94 : List (Instr × Nat × Nat) := aX5_kindOf_94 ++ iX5_kindOf_96
def aX5_kindOf_92 : List (Instr × Nat × Nat) := [(.iconst 0, 93, 0), (.ireturn, 94, 0)]
def iX5_kindOf_92 : List (Instr × Nat × Nat) := aX5_kindOf_92 ++ iX5_kindOf_94
def aX5_kindOf_0 : List (Instr × Nat × Nat) := [(.iload_n 0, 1, 0), (.tableswitch 103 99 117 #[95, 103, 103, 103, 91, 103, 103, 103, 103, 99, 103, 103, 103, 97, 103, 103, 93, 103, 101], 92, 0)]
def iX5_kindOf_0 : List (Instr × Nat × Nat) := aX5_kindOf_0 ++ iX5_kindOf_92
theorem kX5_kindOf_0 : sr_is cX5_kindOf 0 iX5_kindOf_0 = true := by decide +kernel
theorem lX5_kindOf_0 {d : Nat} {L : sr_L} {st : List Value} {b : Nat × Nat} {h : sr_H} {P : Option Value → sr_H → Prop} (w : sr_wp mX5_kindOf d iX5_kindOf_0 0 L st b h P) : sr_Go mX5_kindOf d 0 L st b h P := sr_wp_go kX5_kindOf_0 w
theorem kX5_kindOf_92 : sr_is cX5_kindOf 92 iX5_kindOf_92 = true := sr_is_suf (as := aX5_kindOf_0) kX5_kindOf_0
theorem lX5_kindOf_92 {d : Nat} {L : sr_L} {st : List Value} {b : Nat × Nat} {h : sr_H} {P : Option Value → sr_H → Prop} (w : sr_wp mX5_kindOf d iX5_kindOf_92 92 L st b h P) : sr_Go mX5_kindOf d 92 L st b h P := sr_wp_go kX5_kindOf_92 w
theorem kX5_kindOf_94 : sr_is cX5_kindOf 94 iX5_kindOf_94 = true := sr_is_suf (as := aX5_kindOf_92) kX5_kindOf_92
theorem lX5_kindOf_94 {d : Nat} {L : sr_L} {st : List Value} {b : Nat × Nat} {h : sr_H} {P : Option Value → sr_H → Prop} (w : sr_wp mX5_kindOf d iX5_kindOf_94 94 L st b h P) : sr_Go mX5_kindOf d 94 L st b h P := sr_wp_go kX5_kindOf_94 w
theorem kX5_kindOf_96 : sr_is cX5_kindOf 96 iX5_kindOf_96 = true := sr_is_suf (as := aX5_kindOf_94) kX5_kindOf_94
theorem lX5_kindOf_96 {d : Nat} {L : sr_L} {st : List Value} {b : Nat × Nat} {h : sr_H} {P : Option Value → sr_H → Prop} (w : sr_wp mX5_kindOf d iX5_kindOf_96 96 L st b h P) : sr_Go mX5_kindOf d 96 L st b h P := sr_wp_go kX5_kindOf_96 w
theorem kX5_kindOf_98 : sr_is cX5_kindOf 98 iX5_kindOf_98 = true := sr_is_suf (as := aX5_kindOf_96) kX5_kindOf_96
theorem lX5_kindOf_98 {d : Nat} {L : sr_L} {st : List Value} {b : Nat × Nat} {h : sr_H} {P : Option Value → sr_H → Prop} (w : sr_wp mX5_kindOf d iX5_kindOf_98 98 L st b h P) : sr_Go mX5_kindOf d 98 L st b h P := sr_wp_go kX5_kindOf_98 w
theorem kX5_kindOf_100 : sr_is cX5_kindOf 100 iX5_kindOf_100 = true := sr_is_suf (as := aX5_kindOf_98) kX5_kindOf_98
theorem lX5_kindOf_100 {d : Nat} {L : sr_L} {st : List Value} {b : Nat × Nat} {h : sr_H} {P : Option Value → sr_H → Prop} (w : sr_wp mX5_kindOf d iX5_kindOf_100 100 L st b h P) : sr_Go mX5_kindOf d 100 L st b h P := sr_wp_go kX5_kindOf_100 w
theorem kX5_kindOf_102 : sr_is cX5_kindOf 102 iX5_kindOf_102 = true := sr_is_suf (as := aX5_kindOf_100) kX5_kindOf_100
theorem lX5_kindOf_102 {d : Nat} {L : sr_L} {st : List Value} {b : Nat × Nat} {h : sr_H} {P : Option Value → sr_H → Prop} (w : sr_wp mX5_kindOf d iX5_kindOf_102 102 L st b h P) : sr_Go mX5_kindOf d 102 L st b h P := sr_wp_go kX5_kindOf_102 w
theorem kX5_kindOf_104 : sr_is cX5_kindOf 104 iX5_kindOf_104 = true := sr_is_suf (as := aX5_kindOf_102) kX5_kindOf_102
theorem lX5_kindOf_104 {d : Nat} {L : sr_L} {st : List Value} {b : Nat × Nat} {h : sr_H} {P : Option Value → sr_H → Prop} (w : sr_wp mX5_kindOf d iX5_kindOf_104 104 L st b h P) : sr_Go mX5_kindOf d 104 L st b h P := sr_wp_go kX5_kindOf_104 w
def iX5_figure_27 : List (Instr × Nat × Nat) := [(.aload_n 0, 28, 0), (.dup, 29, 0), (.getfield 108, 32, 0), (.iconst 1, 33, 0), (.iadd, 34, 0), (.putfield 108, 37, 0), (.iload 4, 39, 0), (.ireturn, 40, 0)]
def aX5_figure_0 : List (Instr × Nat × Nat) := [(.aload_n 0, 1, 0), (.iload_n 1, 2, 0), (.aload_n 0, 3, 0), (.getfield 108, 6, 0), (.invokevirtual 111, 9, 0), (.bipush 48, 11, 0), (.isub, 12, 0), (.istore 4, 14, 0), (.iload 4, 16, 0), (.iload_n 2, 17, 0), (.iload_n 3, 18, 0), (.invokestatic 80, 21, 0), (.ifCond .ne 6, 24, 27), (.bipush (-9), 26, 0), (.ireturn, 27, 0)]
def iX5_figure_0 : List (Instr × Nat × Nat) := aX5_figure_0 ++ iX5_figure_27
theorem kX5_figure_0 : sr_is cX5_figure 0 iX5_figure_0 = true := by decide +kernel
theorem lX5_figure_0 {d : Nat} {L : sr_L} {st : List Value} {b : Nat × Nat} {h : sr_H} {P : Option Value → sr_H → Prop} (w : sr_wp mX5_figure d iX5_figure_0 0 L st b h P) : sr_Go mX5_figure d 0 L st b h P := sr_wp_go kX5_figure_0 w
theorem kX5_figure_27 : sr_is cX5_figure 27 iX5_figure_27 = true := sr_is_suf (as := aX5_figure_0) kX5_figure_0
theorem lX5_figure_27 {d : Nat} {L : sr_L} {st : List Value} {b : Nat × Nat} {h : sr_H} {P : Option Value → sr_H → Prop} (w : sr_wp mX5_figure d iX5_figure_27 27 L st b h P) : sr_Go mX5_figure d 27 L st b h P := sr_wp_go kX5_figure_27 w
def iX5_readsTurns_61 : List (Instr × Nat × Nat) := [(.ireturn, 62, 0)]
def aX5_readsTurns_60 : List (Instr × Nat × Nat) := [(.iconst 0, 61, 0)]
def iX5_readsTurns_60 : List (Instr × Nat × Nat) := aX5_readsTurns_60 ++ iX5_readsTurns_61
def aX5_readsTurns_47 : List (Instr × Nat × Nat) := [(.putfield 118, 50, 0), (.iload_n 2, 51, 0), (.bipush (-9), 53, 0), (.if_icmp .eq 7, 56, 60), (.iconst 1, 57, 0), (.goto 4, 60, 61)]
def iX5_readsTurns_47 : List (Instr × Nat × Nat) := aX5_readsTurns_47 ++ iX5_readsTurns_60
def aX5_readsTurns_46 : List (Instr × Nat × Nat) := [(.iload_n 2, 47, 0)]
def iX5_readsTurns_46 : List (Instr × Nat × Nat) := aX5_readsTurns_46 ++ iX5_readsTurns_47
def aX5_readsTurns_16 : List (Instr × Nat × Nat) := [(.aload_n 0, 17, 0), (.dup, 18, 0), (.getfield 108, 21, 0), (.iconst 1, 22, 0), (.iadd, 23, 0), (.putfield 108, 26, 0), (.aload_n 0, 27, 0), (.iload_n 1, 28, 0), (.iconst 2, 29, 0), (.bipush 6, 31, 0), (.invokevirtual 114, 34, 0), (.istore_n 2, 35, 0), (.aload_n 0, 36, 0), (.iload_n 2, 37, 0), (.bipush (-9), 39, 0), (.if_icmp .ne 7, 42, 46), (.iconst 0, 43, 0), (.goto 4, 46, 47)]
def iX5_readsTurns_16 : List (Instr × Nat × Nat) := aX5_readsTurns_16 ++ iX5_readsTurns_46
def aX5_readsTurns_0 : List (Instr × Nat × Nat) := [(.aload_n 0, 1, 0), (.iload_n 1, 2, 0), (.aload_n 0, 3, 0), (.getfield 108, 6, 0), (.invokevirtual 111, 9, 0), (.bipush 110, 11, 0), (.if_icmp .eq 5, 14, 16), (.iconst 0, 15, 0), (.ireturn, 16, 0)]
def iX5_readsTurns_0 : List (Instr × Nat × Nat) := aX5_readsTurns_0 ++ iX5_readsTurns_16
theorem kX5_readsTurns_0 : sr_is cX5_readsTurns 0 iX5_readsTurns_0 = true := by decide +kernel
theorem lX5_readsTurns_0 {d : Nat} {L : sr_L} {st : List Value} {b : Nat × Nat} {h : sr_H} {P : Option Value → sr_H → Prop} (w : sr_wp mX5_readsTurns d iX5_readsTurns_0 0 L st b h P) : sr_Go mX5_readsTurns d 0 L st b h P := sr_wp_go kX5_readsTurns_0 w
theorem kX5_readsTurns_16 : sr_is cX5_readsTurns 16 iX5_readsTurns_16 = true := sr_is_suf (as := aX5_readsTurns_0) kX5_readsTurns_0
theorem lX5_readsTurns_16 {d : Nat} {L : sr_L} {st : List Value} {b : Nat × Nat} {h : sr_H} {P : Option Value → sr_H → Prop} (w : sr_wp mX5_readsTurns d iX5_readsTurns_16 16 L st b h P) : sr_Go mX5_readsTurns d 16 L st b h P := sr_wp_go kX5_readsTurns_16 w
theorem kX5_readsTurns_46 : sr_is cX5_readsTurns 46 iX5_readsTurns_46 = true := sr_is_suf (as := aX5_readsTurns_16) kX5_readsTurns_16
theorem lX5_readsTurns_46 {d : Nat} {L : sr_L} {st : List Value} {b : Nat × Nat} {h : sr_H} {P : Option Value → sr_H → Prop} (w : sr_wp mX5_readsTurns d iX5_readsTurns_46 46 L st b h P) : sr_Go mX5_readsTurns d 46 L st b h P := sr_wp_go kX5_readsTurns_46 w
theorem kX5_readsTurns_47 : sr_is cX5_readsTurns 47 iX5_readsTurns_47 = true := sr_is_suf (as := aX5_readsTurns_46) kX5_readsTurns_46
theorem lX5_readsTurns_47 {d : Nat} {L : sr_L} {st : List Value} {b : Nat × Nat} {h : sr_H} {P : Option Value → sr_H → Prop} (w : sr_wp mX5_readsTurns d iX5_readsTurns_47 47 L st b h P) : sr_Go mX5_readsTurns d 47 L st b h P := sr_wp_go kX5_readsTurns_47 w
theorem kX5_readsTurns_60 : sr_is cX5_readsTurns 60 iX5_readsTurns_60 = true := sr_is_suf (as := aX5_readsTurns_47) kX5_readsTurns_47
theorem lX5_readsTurns_60 {d : Nat} {L : sr_L} {st : List Value} {b : Nat × Nat} {h : sr_H} {P : Option Value → sr_H → Prop} (w : sr_wp mX5_readsTurns d iX5_readsTurns_60 60 L st b h P) : sr_Go mX5_readsTurns d 60 L st b h P := sr_wp_go kX5_readsTurns_60 w
theorem kX5_readsTurns_61 : sr_is cX5_readsTurns 61 iX5_readsTurns_61 = true := sr_is_suf (as := aX5_readsTurns_60) kX5_readsTurns_60
theorem lX5_readsTurns_61 {d : Nat} {L : sr_L} {st : List Value} {b : Nat × Nat} {h : sr_H} {P : Option Value → sr_H → Prop} (w : sr_wp mX5_readsTurns d iX5_readsTurns_61 61 L st b h P) : sr_Go mX5_readsTurns d 61 L st b h P := sr_wp_go kX5_readsTurns_61 w
def iX5_readsThing_86 : List (Instr × Nat × Nat) := [(.aload_n 0, 87, 0), (.dup, 88, 0), (.getfield 124, 91, 0), (.iconst 1, 92, 0), (.iadd, 93, 0), (.putfield 124, 96, 0), (.iconst 1, 97, 0), (.ireturn, 98, 0)]
def aX5_readsThing_66 : List (Instr × Nat × Nat) := [(.aload_n 0, 67, 0), (.getfield 48, 70, 0), (.iconst 4, 71, 0), (.aload_n 0, 72, 0), (.getfield 124, 75, 0), (.imul, 76, 0), (.iload_n 2, 77, 0), (.iadd, 78, 0), (.iload_n 3, 79, 0), (.iastore, 80, 0), (.iinc 2 1, 83, 0), (.goto (-53), 86, 30)]
def iX5_readsThing_66 : List (Instr × Nat × Nat) := aX5_readsThing_66 ++ iX5_readsThing_86
def aX5_readsThing_54 : List (Instr × Nat × Nat) := [(.invokevirtual 114, 57, 0), (.istore_n 3, 58, 0), (.iload_n 3, 59, 0), (.bipush (-9), 61, 0), (.if_icmp .ne 5, 64, 66), (.iconst 0, 65, 0), (.ireturn, 66, 0)]
def iX5_readsThing_54 : List (Instr × Nat × Nat) := aX5_readsThing_54 ++ iX5_readsThing_66
def aX5_readsThing_53 : List (Instr × Nat × Nat) := [(.iconst 1, 54, 0)]
def iX5_readsThing_53 : List (Instr × Nat × Nat) := aX5_readsThing_53 ++ iX5_readsThing_54
def aX5_readsThing_30 : List (Instr × Nat × Nat) := [(.iload_n 2, 31, 0), (.iconst 4, 32, 0), (.if_icmp .ge 54, 35, 86), (.aload_n 0, 36, 0), (.iload_n 1, 37, 0), (.iconst 0, 38, 0), (.iload_n 2, 39, 0), (.iconst 2, 40, 0), (.irem, 41, 0), (.ifCond .ne 12, 44, 53), (.aload_n 0, 45, 0), (.getfield 118, 48, 0), (.iconst 1, 49, 0), (.isub, 50, 0), (.goto 4, 53, 54)]
def iX5_readsThing_30 : List (Instr × Nat × Nat) := aX5_readsThing_30 ++ iX5_readsThing_53
def aX5_readsThing_18 : List (Instr × Nat × Nat) := [(.aload_n 0, 19, 0), (.dup, 20, 0), (.getfield 108, 23, 0), (.iconst 1, 24, 0), (.iadd, 25, 0), (.putfield 108, 28, 0), (.iconst 0, 29, 0), (.istore_n 2, 30, 0)]
def iX5_readsThing_18 : List (Instr × Nat × Nat) := aX5_readsThing_18 ++ iX5_readsThing_30
def aX5_readsThing_16 : List (Instr × Nat × Nat) := [(.iconst 0, 17, 0), (.ireturn, 18, 0)]
def iX5_readsThing_16 : List (Instr × Nat × Nat) := aX5_readsThing_16 ++ iX5_readsThing_18
def aX5_readsThing_0 : List (Instr × Nat × Nat) := [(.aload_n 0, 1, 0), (.getfield 121, 4, 0), (.ifCond .eq 12, 7, 16), (.aload_n 0, 8, 0), (.getfield 124, 11, 0), (.bipush 8, 13, 0), (.if_icmp .ne 5, 16, 18)]
def iX5_readsThing_0 : List (Instr × Nat × Nat) := aX5_readsThing_0 ++ iX5_readsThing_16
theorem kX5_readsThing_0 : sr_is cX5_readsThing 0 iX5_readsThing_0 = true := by decide +kernel
theorem lX5_readsThing_0 {d : Nat} {L : sr_L} {st : List Value} {b : Nat × Nat} {h : sr_H} {P : Option Value → sr_H → Prop} (w : sr_wp mX5_readsThing d iX5_readsThing_0 0 L st b h P) : sr_Go mX5_readsThing d 0 L st b h P := sr_wp_go kX5_readsThing_0 w
theorem kX5_readsThing_16 : sr_is cX5_readsThing 16 iX5_readsThing_16 = true := sr_is_suf (as := aX5_readsThing_0) kX5_readsThing_0
theorem lX5_readsThing_16 {d : Nat} {L : sr_L} {st : List Value} {b : Nat × Nat} {h : sr_H} {P : Option Value → sr_H → Prop} (w : sr_wp mX5_readsThing d iX5_readsThing_16 16 L st b h P) : sr_Go mX5_readsThing d 16 L st b h P := sr_wp_go kX5_readsThing_16 w
theorem kX5_readsThing_18 : sr_is cX5_readsThing 18 iX5_readsThing_18 = true := sr_is_suf (as := aX5_readsThing_16) kX5_readsThing_16
theorem lX5_readsThing_18 {d : Nat} {L : sr_L} {st : List Value} {b : Nat × Nat} {h : sr_H} {P : Option Value → sr_H → Prop} (w : sr_wp mX5_readsThing d iX5_readsThing_18 18 L st b h P) : sr_Go mX5_readsThing d 18 L st b h P := sr_wp_go kX5_readsThing_18 w
theorem kX5_readsThing_30 : sr_is cX5_readsThing 30 iX5_readsThing_30 = true := sr_is_suf (as := aX5_readsThing_18) kX5_readsThing_18
theorem lX5_readsThing_30 {d : Nat} {L : sr_L} {st : List Value} {b : Nat × Nat} {h : sr_H} {P : Option Value → sr_H → Prop} (w : sr_wp mX5_readsThing d iX5_readsThing_30 30 L st b h P) : sr_Go mX5_readsThing d 30 L st b h P := sr_wp_go kX5_readsThing_30 w
theorem kX5_readsThing_53 : sr_is cX5_readsThing 53 iX5_readsThing_53 = true := sr_is_suf (as := aX5_readsThing_30) kX5_readsThing_30
theorem lX5_readsThing_53 {d : Nat} {L : sr_L} {st : List Value} {b : Nat × Nat} {h : sr_H} {P : Option Value → sr_H → Prop} (w : sr_wp mX5_readsThing d iX5_readsThing_53 53 L st b h P) : sr_Go mX5_readsThing d 53 L st b h P := sr_wp_go kX5_readsThing_53 w
theorem kX5_readsThing_54 : sr_is cX5_readsThing 54 iX5_readsThing_54 = true := sr_is_suf (as := aX5_readsThing_53) kX5_readsThing_53
theorem lX5_readsThing_54 {d : Nat} {L : sr_L} {st : List Value} {b : Nat × Nat} {h : sr_H} {P : Option Value → sr_H → Prop} (w : sr_wp mX5_readsThing d iX5_readsThing_54 54 L st b h P) : sr_Go mX5_readsThing d 54 L st b h P := sr_wp_go kX5_readsThing_54 w
theorem kX5_readsThing_66 : sr_is cX5_readsThing 66 iX5_readsThing_66 = true := sr_is_suf (as := aX5_readsThing_54) kX5_readsThing_54
theorem lX5_readsThing_66 {d : Nat} {L : sr_L} {st : List Value} {b : Nat × Nat} {h : sr_H} {P : Option Value → sr_H → Prop} (w : sr_wp mX5_readsThing d iX5_readsThing_66 66 L st b h P) : sr_Go mX5_readsThing d 66 L st b h P := sr_wp_go kX5_readsThing_66 w
theorem kX5_readsThing_86 : sr_is cX5_readsThing 86 iX5_readsThing_86 = true := sr_is_suf (as := aX5_readsThing_66) kX5_readsThing_66
theorem lX5_readsThing_86 {d : Nat} {L : sr_L} {st : List Value} {b : Nat × Nat} {h : sr_H} {P : Option Value → sr_H → Prop} (w : sr_wp mX5_readsThing d iX5_readsThing_86 86 L st b h P) : sr_Go mX5_readsThing d 86 L st b h P := sr_wp_go kX5_readsThing_86 w
def iX5_readsGuest_115 : List (Instr × Nat × Nat) := [(.aload_n 0, 116, 0), (.getfield 45, 119, 0), (.iconst 3, 120, 0), (.aload_n 0, 121, 0), (.getfield 121, 124, 0), (.imul, 125, 0), (.iload_n 2, 126, 0), (.iastore, 127, 0), (.aload_n 0, 128, 0), (.getfield 45, 131, 0), (.iconst 3, 132, 0), (.aload_n 0, 133, 0), (.getfield 121, 136, 0), (.imul, 137, 0), (.iconst 1, 138, 0), (.iadd, 139, 0), (.iload_n 3, 140, 0), (.iastore, 141, 0), (.aload_n 0, 142, 0), (.getfield 45, 145, 0), (.iconst 3, 146, 0), (.aload_n 0, 147, 0), (.getfield 121, 150, 0), (.imul, 151, 0), (.iconst 2, 152, 0), (.iadd, 153, 0), (.iload 4, 155, 0), (.iastore, 156, 0), (.aload_n 0, 157, 0), (.dup, 158, 0), (.getfield 121, 161, 0), (.iconst 1, 162, 0), (.iadd, 163, 0), (.putfield 121, 166, 0), (.iconst 1, 167, 0), (.ireturn, 168, 0)]
def aX5_readsGuest_92 : List (Instr × Nat × Nat) := [(.aload_n 0, 93, 0), (.iload_n 1, 94, 0), (.iconst 0, 95, 0), (.aload_n 0, 96, 0), (.getfield 118, 99, 0), (.iconst 1, 100, 0), (.isub, 101, 0), (.invokevirtual 114, 104, 0), (.istore 4, 106, 0), (.iload 4, 108, 0), (.bipush (-9), 110, 0), (.if_icmp .ne 5, 113, 115), (.iconst 0, 114, 0), (.ireturn, 115, 0)]
def iX5_readsGuest_92 : List (Instr × Nat × Nat) := aX5_readsGuest_92 ++ iX5_readsGuest_115
def aX5_readsGuest_78 : List (Instr × Nat × Nat) := [(.iload_n 3, 79, 0), (.iload 5, 81, 0), (.iload 4, 83, 0), (.ishl, 84, 0), (.ior, 85, 0), (.istore_n 3, 86, 0), (.iinc 4 1, 89, 0), (.goto (-38), 92, 51)]
def iX5_readsGuest_78 : List (Instr × Nat × Nat) := aX5_readsGuest_78 ++ iX5_readsGuest_92
def aX5_readsGuest_51 : List (Instr × Nat × Nat) := [(.iload 4, 53, 0), (.aload_n 0, 54, 0), (.getfield 118, 57, 0), (.if_icmp .ge 35, 60, 92), (.aload_n 0, 61, 0), (.iload_n 1, 62, 0), (.iconst 0, 63, 0), (.iconst 1, 64, 0), (.invokevirtual 114, 67, 0), (.istore 5, 69, 0), (.iload 5, 71, 0), (.bipush (-9), 73, 0), (.if_icmp .ne 5, 76, 78), (.iconst 0, 77, 0), (.ireturn, 78, 0)]
def iX5_readsGuest_51 : List (Instr × Nat × Nat) := aX5_readsGuest_51 ++ iX5_readsGuest_78
def aX5_readsGuest_36 : List (Instr × Nat × Nat) := [(.aload_n 0, 37, 0), (.dup, 38, 0), (.getfield 108, 41, 0), (.iconst 1, 42, 0), (.iadd, 43, 0), (.putfield 108, 46, 0), (.iconst 0, 47, 0), (.istore_n 3, 48, 0), (.iconst 0, 49, 0), (.istore 4, 51, 0)]
def iX5_readsGuest_36 : List (Instr × Nat × Nat) := aX5_readsGuest_36 ++ iX5_readsGuest_51
def aX5_readsGuest_34 : List (Instr × Nat × Nat) := [(.iconst 0, 35, 0), (.ireturn, 36, 0)]
def iX5_readsGuest_34 : List (Instr × Nat × Nat) := aX5_readsGuest_34 ++ iX5_readsGuest_36
def aX5_readsGuest_0 : List (Instr × Nat × Nat) := [(.aload_n 0, 1, 0), (.iload_n 1, 2, 0), (.aload_n 0, 3, 0), (.getfield 108, 6, 0), (.invokevirtual 111, 9, 0), (.invokestatic 127, 12, 0), (.istore_n 2, 13, 0), (.iload_n 2, 14, 0), (.bipush (-9), 16, 0), (.if_icmp .eq 18, 19, 34), (.aload_n 0, 20, 0), (.getfield 124, 23, 0), (.ifCond .gt 11, 26, 34), (.aload_n 0, 27, 0), (.getfield 121, 30, 0), (.iconst 5, 31, 0), (.if_icmp .ne 5, 34, 36)]
def iX5_readsGuest_0 : List (Instr × Nat × Nat) := aX5_readsGuest_0 ++ iX5_readsGuest_34
theorem kX5_readsGuest_0 : sr_is cX5_readsGuest 0 iX5_readsGuest_0 = true := by decide +kernel
theorem lX5_readsGuest_0 {d : Nat} {L : sr_L} {st : List Value} {b : Nat × Nat} {h : sr_H} {P : Option Value → sr_H → Prop} (w : sr_wp mX5_readsGuest d iX5_readsGuest_0 0 L st b h P) : sr_Go mX5_readsGuest d 0 L st b h P := sr_wp_go kX5_readsGuest_0 w
theorem kX5_readsGuest_34 : sr_is cX5_readsGuest 34 iX5_readsGuest_34 = true := sr_is_suf (as := aX5_readsGuest_0) kX5_readsGuest_0
theorem lX5_readsGuest_34 {d : Nat} {L : sr_L} {st : List Value} {b : Nat × Nat} {h : sr_H} {P : Option Value → sr_H → Prop} (w : sr_wp mX5_readsGuest d iX5_readsGuest_34 34 L st b h P) : sr_Go mX5_readsGuest d 34 L st b h P := sr_wp_go kX5_readsGuest_34 w
theorem kX5_readsGuest_36 : sr_is cX5_readsGuest 36 iX5_readsGuest_36 = true := sr_is_suf (as := aX5_readsGuest_34) kX5_readsGuest_34
theorem lX5_readsGuest_36 {d : Nat} {L : sr_L} {st : List Value} {b : Nat × Nat} {h : sr_H} {P : Option Value → sr_H → Prop} (w : sr_wp mX5_readsGuest d iX5_readsGuest_36 36 L st b h P) : sr_Go mX5_readsGuest d 36 L st b h P := sr_wp_go kX5_readsGuest_36 w
theorem kX5_readsGuest_51 : sr_is cX5_readsGuest 51 iX5_readsGuest_51 = true := sr_is_suf (as := aX5_readsGuest_36) kX5_readsGuest_36
theorem lX5_readsGuest_51 {d : Nat} {L : sr_L} {st : List Value} {b : Nat × Nat} {h : sr_H} {P : Option Value → sr_H → Prop} (w : sr_wp mX5_readsGuest d iX5_readsGuest_51 51 L st b h P) : sr_Go mX5_readsGuest d 51 L st b h P := sr_wp_go kX5_readsGuest_51 w
theorem kX5_readsGuest_78 : sr_is cX5_readsGuest 78 iX5_readsGuest_78 = true := sr_is_suf (as := aX5_readsGuest_51) kX5_readsGuest_51
theorem lX5_readsGuest_78 {d : Nat} {L : sr_L} {st : List Value} {b : Nat × Nat} {h : sr_H} {P : Option Value → sr_H → Prop} (w : sr_wp mX5_readsGuest d iX5_readsGuest_78 78 L st b h P) : sr_Go mX5_readsGuest d 78 L st b h P := sr_wp_go kX5_readsGuest_78 w
theorem kX5_readsGuest_92 : sr_is cX5_readsGuest 92 iX5_readsGuest_92 = true := sr_is_suf (as := aX5_readsGuest_78) kX5_readsGuest_78
theorem lX5_readsGuest_92 {d : Nat} {L : sr_L} {st : List Value} {b : Nat × Nat} {h : sr_H} {P : Option Value → sr_H → Prop} (w : sr_wp mX5_readsGuest d iX5_readsGuest_92 92 L st b h P) : sr_Go mX5_readsGuest d 92 L st b h P := sr_wp_go kX5_readsGuest_92 w
theorem kX5_readsGuest_115 : sr_is cX5_readsGuest 115 iX5_readsGuest_115 = true := sr_is_suf (as := aX5_readsGuest_92) kX5_readsGuest_92
theorem lX5_readsGuest_115 {d : Nat} {L : sr_L} {st : List Value} {b : Nat × Nat} {h : sr_H} {P : Option Value → sr_H → Prop} (w : sr_wp mX5_readsGuest d iX5_readsGuest_115 115 L st b h P) : sr_Go mX5_readsGuest d 115 L st b h P := sr_wp_go kX5_readsGuest_115 w
def iX5_readsItem_42 : List (Instr × Nat × Nat) := [(.ireturn, 43, 0)]
def aX5_readsItem_37 : List (Instr × Nat × Nat) := [(.aload_n 0, 38, 0), (.iload_n 1, 39, 0), (.invokevirtual 136, 42, 0)]
def iX5_readsItem_37 : List (Instr × Nat × Nat) := aX5_readsItem_37 ++ iX5_readsItem_42
def aX5_readsItem_15 : List (Instr × Nat × Nat) := [(.aload_n 0, 16, 0), (.iload_n 1, 17, 0), (.aload_n 0, 18, 0), (.getfield 108, 21, 0), (.invokevirtual 111, 24, 0), (.bipush 111, 26, 0), (.if_icmp .ne 11, 29, 37), (.aload_n 0, 30, 0), (.iload_n 1, 31, 0), (.invokevirtual 133, 34, 0), (.goto 8, 37, 42)]
def iX5_readsItem_15 : List (Instr × Nat × Nat) := aX5_readsItem_15 ++ iX5_readsItem_37
def aX5_readsItem_0 : List (Instr × Nat × Nat) := [(.aload_n 0, 1, 0), (.getfield 118, 4, 0), (.ifCond .ne 11, 7, 15), (.aload_n 0, 8, 0), (.iload_n 1, 9, 0), (.invokevirtual 130, 12, 0), (.goto 30, 15, 42)]
def iX5_readsItem_0 : List (Instr × Nat × Nat) := aX5_readsItem_0 ++ iX5_readsItem_15
theorem kX5_readsItem_0 : sr_is cX5_readsItem 0 iX5_readsItem_0 = true := by decide +kernel
theorem lX5_readsItem_0 {d : Nat} {L : sr_L} {st : List Value} {b : Nat × Nat} {h : sr_H} {P : Option Value → sr_H → Prop} (w : sr_wp mX5_readsItem d iX5_readsItem_0 0 L st b h P) : sr_Go mX5_readsItem d 0 L st b h P := sr_wp_go kX5_readsItem_0 w
theorem kX5_readsItem_15 : sr_is cX5_readsItem 15 iX5_readsItem_15 = true := sr_is_suf (as := aX5_readsItem_0) kX5_readsItem_0
theorem lX5_readsItem_15 {d : Nat} {L : sr_L} {st : List Value} {b : Nat × Nat} {h : sr_H} {P : Option Value → sr_H → Prop} (w : sr_wp mX5_readsItem d iX5_readsItem_15 15 L st b h P) : sr_Go mX5_readsItem d 15 L st b h P := sr_wp_go kX5_readsItem_15 w
theorem kX5_readsItem_37 : sr_is cX5_readsItem 37 iX5_readsItem_37 = true := sr_is_suf (as := aX5_readsItem_15) kX5_readsItem_15
theorem lX5_readsItem_37 {d : Nat} {L : sr_L} {st : List Value} {b : Nat × Nat} {h : sr_H} {P : Option Value → sr_H → Prop} (w : sr_wp mX5_readsItem d iX5_readsItem_37 37 L st b h P) : sr_Go mX5_readsItem d 37 L st b h P := sr_wp_go kX5_readsItem_37 w
theorem kX5_readsItem_42 : sr_is cX5_readsItem 42 iX5_readsItem_42 = true := sr_is_suf (as := aX5_readsItem_37) kX5_readsItem_37
theorem lX5_readsItem_42 {d : Nat} {L : sr_L} {st : List Value} {b : Nat × Nat} {h : sr_H} {P : Option Value → sr_H → Prop} (w : sr_wp mX5_readsItem d iX5_readsItem_42 42 L st b h P) : sr_Go mX5_readsItem d 42 L st b h P := sr_wp_go kX5_readsItem_42 w
def iX5_faultOf_91 : List (Instr × Nat × Nat) := [(.ireturn, 92, 0)]
def aX5_faultOf_89 : List (Instr × Nat × Nat) := [(.bipush (-9), 91, 0)]
def iX5_faultOf_89 : List (Instr × Nat × Nat) := aX5_faultOf_89 ++ iX5_faultOf_91
def aX5_faultOf_73 : List (Instr × Nat × Nat) := [(.aload_n 0, 74, 0), (.getfield 124, 77, 0), (.ifCond .ne 12, 80, 89), (.aload_n 0, 81, 0), (.getfield 26, 84, 0), (.iload_n 1, 85, 0), (.iaload, 86, 0), (.goto 5, 89, 91)]
def iX5_faultOf_73 : List (Instr × Nat × Nat) := aX5_faultOf_73 ++ iX5_faultOf_89
def aX5_faultOf_60 : List (Instr × Nat × Nat) := [(.aload_n 0, 61, 0), (.iload_n 1, 62, 0), (.invokevirtual 139, 65, 0), (.ifCond .ne (-45), 68, 20), (.aload_n 0, 69, 0), (.getfield 108, 72, 0), (.ireturn, 73, 0)]
def iX5_faultOf_60 : List (Instr × Nat × Nat) := aX5_faultOf_60 ++ iX5_faultOf_73
def aX5_faultOf_20 : List (Instr × Nat × Nat) := [(.aload_n 0, 21, 0), (.getfield 108, 24, 0), (.aload_n 0, 25, 0), (.getfield 26, 28, 0), (.iload_n 1, 29, 0), (.iaload, 30, 0), (.if_icmp .ge 43, 33, 73), (.aload_n 0, 34, 0), (.iload_n 1, 35, 0), (.aload_n 0, 36, 0), (.getfield 108, 39, 0), (.invokevirtual 111, 42, 0), (.bipush 32, 44, 0), (.if_icmp .ne 16, 47, 60), (.aload_n 0, 48, 0), (.dup, 49, 0), (.getfield 108, 52, 0), (.iconst 1, 53, 0), (.iadd, 54, 0), (.putfield 108, 57, 0), (.goto (-37), 60, 20)]
def iX5_faultOf_20 : List (Instr × Nat × Nat) := aX5_faultOf_20 ++ iX5_faultOf_60
def aX5_faultOf_0 : List (Instr × Nat × Nat) := [(.aload_n 0, 1, 0), (.iconst 0, 2, 0), (.putfield 108, 5, 0), (.aload_n 0, 6, 0), (.iconst 0, 7, 0), (.putfield 121, 10, 0), (.aload_n 0, 11, 0), (.iconst 0, 12, 0), (.putfield 118, 15, 0), (.aload_n 0, 16, 0), (.iconst 0, 17, 0), (.putfield 124, 20, 0)]
def iX5_faultOf_0 : List (Instr × Nat × Nat) := aX5_faultOf_0 ++ iX5_faultOf_20
theorem kX5_faultOf_0 : sr_is cX5_faultOf 0 iX5_faultOf_0 = true := by decide +kernel
theorem lX5_faultOf_0 {d : Nat} {L : sr_L} {st : List Value} {b : Nat × Nat} {h : sr_H} {P : Option Value → sr_H → Prop} (w : sr_wp mX5_faultOf d iX5_faultOf_0 0 L st b h P) : sr_Go mX5_faultOf d 0 L st b h P := sr_wp_go kX5_faultOf_0 w
theorem kX5_faultOf_20 : sr_is cX5_faultOf 20 iX5_faultOf_20 = true := sr_is_suf (as := aX5_faultOf_0) kX5_faultOf_0
theorem lX5_faultOf_20 {d : Nat} {L : sr_L} {st : List Value} {b : Nat × Nat} {h : sr_H} {P : Option Value → sr_H → Prop} (w : sr_wp mX5_faultOf d iX5_faultOf_20 20 L st b h P) : sr_Go mX5_faultOf d 20 L st b h P := sr_wp_go kX5_faultOf_20 w
theorem kX5_faultOf_60 : sr_is cX5_faultOf 60 iX5_faultOf_60 = true := sr_is_suf (as := aX5_faultOf_20) kX5_faultOf_20
theorem lX5_faultOf_60 {d : Nat} {L : sr_L} {st : List Value} {b : Nat × Nat} {h : sr_H} {P : Option Value → sr_H → Prop} (w : sr_wp mX5_faultOf d iX5_faultOf_60 60 L st b h P) : sr_Go mX5_faultOf d 60 L st b h P := sr_wp_go kX5_faultOf_60 w
theorem kX5_faultOf_73 : sr_is cX5_faultOf 73 iX5_faultOf_73 = true := sr_is_suf (as := aX5_faultOf_60) kX5_faultOf_60
theorem lX5_faultOf_73 {d : Nat} {L : sr_L} {st : List Value} {b : Nat × Nat} {h : sr_H} {P : Option Value → sr_H → Prop} (w : sr_wp mX5_faultOf d iX5_faultOf_73 73 L st b h P) : sr_Go mX5_faultOf d 73 L st b h P := sr_wp_go kX5_faultOf_73 w
theorem kX5_faultOf_89 : sr_is cX5_faultOf 89 iX5_faultOf_89 = true := sr_is_suf (as := aX5_faultOf_73) kX5_faultOf_73
theorem lX5_faultOf_89 {d : Nat} {L : sr_L} {st : List Value} {b : Nat × Nat} {h : sr_H} {P : Option Value → sr_H → Prop} (w : sr_wp mX5_faultOf d iX5_faultOf_89 89 L st b h P) : sr_Go mX5_faultOf d 89 L st b h P := sr_wp_go kX5_faultOf_89 w
theorem kX5_faultOf_91 : sr_is cX5_faultOf 91 iX5_faultOf_91 = true := sr_is_suf (as := aX5_faultOf_89) kX5_faultOf_89
theorem lX5_faultOf_91 {d : Nat} {L : sr_L} {st : List Value} {b : Nat × Nat} {h : sr_H} {P : Option Value → sr_H → Prop} (w : sr_wp mX5_faultOf d iX5_faultOf_91 91 L st b h P) : sr_Go mX5_faultOf d 91 L st b h P := sr_wp_go kX5_faultOf_91 w
def iX5_fault_31 : List (Instr × Nat × Nat) := [(.ireturn, 32, 0)]
def aX5_fault_26 : List (Instr × Nat × Nat) := [(.aload_n 0, 27, 0), (.iload_n 1, 28, 0), (.invokevirtual 142, 31, 0)]
def iX5_fault_26 : List (Instr × Nat × Nat) := aX5_fault_26 ++ iX5_fault_31
def aX5_fault_9 : List (Instr × Nat × Nat) := [(.aload_n 0, 10, 0), (.getfield 26, 13, 0), (.iload_n 1, 14, 0), (.iaload, 15, 0), (.ifCond .ge 11, 18, 26), (.aload_n 0, 19, 0), (.iconst 1, 20, 0), (.invokevirtual 94, 23, 0), (.goto 8, 26, 31)]
def iX5_fault_9 : List (Instr × Nat × Nat) := aX5_fault_9 ++ iX5_fault_26
def aX5_fault_0 : List (Instr × Nat × Nat) := [(.iload_n 1, 1, 0), (.invokestatic 105, 4, 0), (.ifCond .ne 5, 7, 9), (.iconst (-1), 8, 0), (.ireturn, 9, 0)]
def iX5_fault_0 : List (Instr × Nat × Nat) := aX5_fault_0 ++ iX5_fault_9
theorem kX5_fault_0 : sr_is cX5_fault 0 iX5_fault_0 = true := by decide +kernel
theorem lX5_fault_0 {d : Nat} {L : sr_L} {st : List Value} {b : Nat × Nat} {h : sr_H} {P : Option Value → sr_H → Prop} (w : sr_wp mX5_fault d iX5_fault_0 0 L st b h P) : sr_Go mX5_fault d 0 L st b h P := sr_wp_go kX5_fault_0 w
theorem kX5_fault_9 : sr_is cX5_fault 9 iX5_fault_9 = true := sr_is_suf (as := aX5_fault_0) kX5_fault_0
theorem lX5_fault_9 {d : Nat} {L : sr_L} {st : List Value} {b : Nat × Nat} {h : sr_H} {P : Option Value → sr_H → Prop} (w : sr_wp mX5_fault d iX5_fault_9 9 L st b h P) : sr_Go mX5_fault d 9 L st b h P := sr_wp_go kX5_fault_9 w
theorem kX5_fault_26 : sr_is cX5_fault 26 iX5_fault_26 = true := sr_is_suf (as := aX5_fault_9) kX5_fault_9
theorem lX5_fault_26 {d : Nat} {L : sr_L} {st : List Value} {b : Nat × Nat} {h : sr_H} {P : Option Value → sr_H → Prop} (w : sr_wp mX5_fault d iX5_fault_26 26 L st b h P) : sr_Go mX5_fault d 26 L st b h P := sr_wp_go kX5_fault_26 w
theorem kX5_fault_31 : sr_is cX5_fault 31 iX5_fault_31 = true := sr_is_suf (as := aX5_fault_26) kX5_fault_26
theorem lX5_fault_31 {d : Nat} {L : sr_L} {st : List Value} {b : Nat × Nat} {h : sr_H} {P : Option Value → sr_H → Prop} (w : sr_wp mX5_fault d iX5_fault_31 31 L st b h P) : sr_Go mX5_fault d 31 L st b h P := sr_wp_go kX5_fault_31 w
def iX5_hotel_199 : List (Instr × Nat × Nat) := [(.aload_n 0, 200, 0), (.getfield 145, 203, 0), (.ireturn, 204, 0)]
def aX5_hotel_181 : List (Instr × Nat × Nat) := [(.iload_n 2, 182, 0), (.iconst 3, 183, 0), (.if_icmp .ge 16, 186, 199), (.aload_n 0, 187, 0), (.getfield 57, 190, 0), (.iload_n 2, 191, 0), (.iconst 0, 192, 0), (.bastore, 193, 0), (.iinc 2 1, 196, 0), (.goto (-15), 199, 181)]
def iX5_hotel_181 : List (Instr × Nat × Nat) := aX5_hotel_181 ++ iX5_hotel_199
def aX5_hotel_174 : List (Instr × Nat × Nat) := [(.aload_n 0, 175, 0), (.iconst 0, 176, 0), (.putfield 154, 179, 0), (.iconst 0, 180, 0), (.istore_n 2, 181, 0)]
def iX5_hotel_174 : List (Instr × Nat × Nat) := aX5_hotel_174 ++ iX5_hotel_181
def aX5_hotel_155 : List (Instr × Nat × Nat) := [(.iload_n 2, 156, 0), (.bipush 12, 158, 0), (.if_icmp .ge 16, 161, 174), (.aload_n 0, 162, 0), (.getfield 51, 165, 0), (.iload_n 2, 166, 0), (.iconst 0, 167, 0), (.iastore, 168, 0), (.iinc 2 1, 171, 0), (.goto (-16), 174, 155)]
def iX5_hotel_155 : List (Instr × Nat × Nat) := aX5_hotel_155 ++ iX5_hotel_174
def aX5_hotel_153 : List (Instr × Nat × Nat) := [(.iconst 0, 154, 0), (.istore_n 2, 155, 0)]
def iX5_hotel_153 : List (Instr × Nat × Nat) := aX5_hotel_153 ++ iX5_hotel_155
def aX5_hotel_125 : List (Instr × Nat × Nat) := [(.iload_n 2, 126, 0), (.iconst 4, 127, 0), (.aload_n 0, 128, 0), (.getfield 151, 131, 0), (.imul, 132, 0), (.if_icmp .ge 21, 135, 153), (.aload_n 0, 136, 0), (.getfield 42, 139, 0), (.iload_n 2, 140, 0), (.aload_n 0, 141, 0), (.getfield 48, 144, 0), (.iload_n 2, 145, 0), (.iaload, 146, 0), (.iastore, 147, 0), (.iinc 2 1, 150, 0), (.goto (-25), 153, 125)]
def iX5_hotel_125 : List (Instr × Nat × Nat) := aX5_hotel_125 ++ iX5_hotel_153
def aX5_hotel_123 : List (Instr × Nat × Nat) := [(.iconst 0, 124, 0), (.istore_n 2, 125, 0)]
def iX5_hotel_123 : List (Instr × Nat × Nat) := aX5_hotel_123 ++ iX5_hotel_125
def aX5_hotel_63 : List (Instr × Nat × Nat) := [(.iload_n 2, 64, 0), (.aload_n 0, 65, 0), (.getfield 145, 68, 0), (.if_icmp .ge 55, 71, 123), (.aload_n 0, 72, 0), (.getfield 33, 75, 0), (.iload_n 2, 76, 0), (.aload_n 0, 77, 0), (.getfield 45, 80, 0), (.iconst 3, 81, 0), (.iload_n 2, 82, 0), (.imul, 83, 0), (.iaload, 84, 0), (.iastore, 85, 0), (.aload_n 0, 86, 0), (.getfield 36, 89, 0), (.iload_n 2, 90, 0), (.aload_n 0, 91, 0), (.getfield 45, 94, 0), (.iconst 3, 95, 0), (.iload_n 2, 96, 0), (.imul, 97, 0), (.iconst 1, 98, 0), (.iadd, 99, 0), (.iaload, 100, 0), (.iastore, 101, 0), (.aload_n 0, 102, 0), (.getfield 39, 105, 0), (.iload_n 2, 106, 0), (.aload_n 0, 107, 0), (.getfield 45, 110, 0), (.iconst 3, 111, 0), (.iload_n 2, 112, 0), (.imul, 113, 0), (.iconst 2, 114, 0), (.iadd, 115, 0), (.iaload, 116, 0), (.iastore, 117, 0), (.iinc 2 1, 120, 0), (.goto (-57), 123, 63)]
def iX5_hotel_63 : List (Instr × Nat × Nat) := aX5_hotel_63 ++ iX5_hotel_123
def aX5_hotel_37 : List (Instr × Nat × Nat) := [(.aload_n 0, 38, 0), (.aload_n 0, 39, 0), (.getfield 121, 42, 0), (.putfield 145, 45, 0), (.aload_n 0, 46, 0), (.aload_n 0, 47, 0), (.getfield 118, 50, 0), (.putfield 148, 53, 0), (.aload_n 0, 54, 0), (.aload_n 0, 55, 0), (.getfield 124, 58, 0), (.putfield 151, 61, 0), (.iconst 0, 62, 0), (.istore_n 2, 63, 0)]
def iX5_hotel_37 : List (Instr × Nat × Nat) := aX5_hotel_37 ++ iX5_hotel_63
def aX5_hotel_24 : List (Instr × Nat × Nat) := [(.aload_n 0, 25, 0), (.iload_n 1, 26, 0), (.invokevirtual 142, 29, 0), (.bipush (-9), 31, 0), (.if_icmp .eq 6, 34, 37), (.bipush (-4), 36, 0), (.ireturn, 37, 0)]
def iX5_hotel_24 : List (Instr × Nat × Nat) := aX5_hotel_24 ++ iX5_hotel_37
def aX5_hotel_9 : List (Instr × Nat × Nat) := [(.aload_n 0, 10, 0), (.getfield 26, 13, 0), (.iload_n 1, 14, 0), (.iaload, 15, 0), (.ifCond .ge 9, 18, 24), (.aload_n 0, 19, 0), (.iconst 1, 20, 0), (.invokevirtual 94, 23, 0), (.ireturn, 24, 0)]
def iX5_hotel_9 : List (Instr × Nat × Nat) := aX5_hotel_9 ++ iX5_hotel_24
def aX5_hotel_0 : List (Instr × Nat × Nat) := [(.iload_n 1, 1, 0), (.invokestatic 105, 4, 0), (.ifCond .ne 5, 7, 9), (.iconst (-1), 8, 0), (.ireturn, 9, 0)]
def iX5_hotel_0 : List (Instr × Nat × Nat) := aX5_hotel_0 ++ iX5_hotel_9
theorem kX5_hotel_0 : sr_is cX5_hotel 0 iX5_hotel_0 = true := by decide +kernel
theorem lX5_hotel_0 {d : Nat} {L : sr_L} {st : List Value} {b : Nat × Nat} {h : sr_H} {P : Option Value → sr_H → Prop} (w : sr_wp mX5_hotel d iX5_hotel_0 0 L st b h P) : sr_Go mX5_hotel d 0 L st b h P := sr_wp_go kX5_hotel_0 w
theorem kX5_hotel_9 : sr_is cX5_hotel 9 iX5_hotel_9 = true := sr_is_suf (as := aX5_hotel_0) kX5_hotel_0
theorem lX5_hotel_9 {d : Nat} {L : sr_L} {st : List Value} {b : Nat × Nat} {h : sr_H} {P : Option Value → sr_H → Prop} (w : sr_wp mX5_hotel d iX5_hotel_9 9 L st b h P) : sr_Go mX5_hotel d 9 L st b h P := sr_wp_go kX5_hotel_9 w
theorem kX5_hotel_24 : sr_is cX5_hotel 24 iX5_hotel_24 = true := sr_is_suf (as := aX5_hotel_9) kX5_hotel_9
theorem lX5_hotel_24 {d : Nat} {L : sr_L} {st : List Value} {b : Nat × Nat} {h : sr_H} {P : Option Value → sr_H → Prop} (w : sr_wp mX5_hotel d iX5_hotel_24 24 L st b h P) : sr_Go mX5_hotel d 24 L st b h P := sr_wp_go kX5_hotel_24 w
theorem kX5_hotel_37 : sr_is cX5_hotel 37 iX5_hotel_37 = true := sr_is_suf (as := aX5_hotel_24) kX5_hotel_24
theorem lX5_hotel_37 {d : Nat} {L : sr_L} {st : List Value} {b : Nat × Nat} {h : sr_H} {P : Option Value → sr_H → Prop} (w : sr_wp mX5_hotel d iX5_hotel_37 37 L st b h P) : sr_Go mX5_hotel d 37 L st b h P := sr_wp_go kX5_hotel_37 w
theorem kX5_hotel_63 : sr_is cX5_hotel 63 iX5_hotel_63 = true := sr_is_suf (as := aX5_hotel_37) kX5_hotel_37
theorem lX5_hotel_63 {d : Nat} {L : sr_L} {st : List Value} {b : Nat × Nat} {h : sr_H} {P : Option Value → sr_H → Prop} (w : sr_wp mX5_hotel d iX5_hotel_63 63 L st b h P) : sr_Go mX5_hotel d 63 L st b h P := sr_wp_go kX5_hotel_63 w
theorem kX5_hotel_123 : sr_is cX5_hotel 123 iX5_hotel_123 = true := sr_is_suf (as := aX5_hotel_63) kX5_hotel_63
theorem lX5_hotel_123 {d : Nat} {L : sr_L} {st : List Value} {b : Nat × Nat} {h : sr_H} {P : Option Value → sr_H → Prop} (w : sr_wp mX5_hotel d iX5_hotel_123 123 L st b h P) : sr_Go mX5_hotel d 123 L st b h P := sr_wp_go kX5_hotel_123 w
theorem kX5_hotel_125 : sr_is cX5_hotel 125 iX5_hotel_125 = true := sr_is_suf (as := aX5_hotel_123) kX5_hotel_123
theorem lX5_hotel_125 {d : Nat} {L : sr_L} {st : List Value} {b : Nat × Nat} {h : sr_H} {P : Option Value → sr_H → Prop} (w : sr_wp mX5_hotel d iX5_hotel_125 125 L st b h P) : sr_Go mX5_hotel d 125 L st b h P := sr_wp_go kX5_hotel_125 w
theorem kX5_hotel_153 : sr_is cX5_hotel 153 iX5_hotel_153 = true := sr_is_suf (as := aX5_hotel_125) kX5_hotel_125
theorem lX5_hotel_153 {d : Nat} {L : sr_L} {st : List Value} {b : Nat × Nat} {h : sr_H} {P : Option Value → sr_H → Prop} (w : sr_wp mX5_hotel d iX5_hotel_153 153 L st b h P) : sr_Go mX5_hotel d 153 L st b h P := sr_wp_go kX5_hotel_153 w
theorem kX5_hotel_155 : sr_is cX5_hotel 155 iX5_hotel_155 = true := sr_is_suf (as := aX5_hotel_153) kX5_hotel_153
theorem lX5_hotel_155 {d : Nat} {L : sr_L} {st : List Value} {b : Nat × Nat} {h : sr_H} {P : Option Value → sr_H → Prop} (w : sr_wp mX5_hotel d iX5_hotel_155 155 L st b h P) : sr_Go mX5_hotel d 155 L st b h P := sr_wp_go kX5_hotel_155 w
theorem kX5_hotel_174 : sr_is cX5_hotel 174 iX5_hotel_174 = true := sr_is_suf (as := aX5_hotel_155) kX5_hotel_155
theorem lX5_hotel_174 {d : Nat} {L : sr_L} {st : List Value} {b : Nat × Nat} {h : sr_H} {P : Option Value → sr_H → Prop} (w : sr_wp mX5_hotel d iX5_hotel_174 174 L st b h P) : sr_Go mX5_hotel d 174 L st b h P := sr_wp_go kX5_hotel_174 w
theorem kX5_hotel_181 : sr_is cX5_hotel 181 iX5_hotel_181 = true := sr_is_suf (as := aX5_hotel_174) kX5_hotel_174
theorem lX5_hotel_181 {d : Nat} {L : sr_L} {st : List Value} {b : Nat × Nat} {h : sr_H} {P : Option Value → sr_H → Prop} (w : sr_wp mX5_hotel d iX5_hotel_181 181 L st b h P) : sr_Go mX5_hotel d 181 L st b h P := sr_wp_go kX5_hotel_181 w
theorem kX5_hotel_199 : sr_is cX5_hotel 199 iX5_hotel_199 = true := sr_is_suf (as := aX5_hotel_181) kX5_hotel_181
theorem lX5_hotel_199 {d : Nat} {L : sr_L} {st : List Value} {b : Nat × Nat} {h : sr_H} {P : Option Value → sr_H → Prop} (w : sr_wp mX5_hotel d iX5_hotel_199 199 L st b h P) : sr_Go mX5_hotel d 199 L st b h P := sr_wp_go kX5_hotel_199 w
def iX5_isGuest_0 : List (Instr × Nat × Nat) := [(.iload_n 1, 1, 0), (.iconst 0, 2, 0), (.aload_n 0, 3, 0), (.getfield 145, 6, 0), (.iconst 1, 7, 0), (.isub, 8, 0), (.invokestatic 80, 11, 0), (.ireturn, 12, 0)]
theorem kX5_isGuest_0 : sr_is cX5_isGuest 0 iX5_isGuest_0 = true := by decide +kernel
theorem lX5_isGuest_0 {d : Nat} {L : sr_L} {st : List Value} {b : Nat × Nat} {h : sr_H} {P : Option Value → sr_H → Prop} (w : sr_wp mX5_isGuest d iX5_isGuest_0 0 L st b h P) : sr_Go mX5_isGuest d 0 L st b h P := sr_wp_go kX5_isGuest_0 w
def iX5_isThing_0 : List (Instr × Nat × Nat) := [(.iload_n 1, 1, 0), (.iconst 0, 2, 0), (.aload_n 0, 3, 0), (.getfield 151, 6, 0), (.iconst 1, 7, 0), (.isub, 8, 0), (.invokestatic 80, 11, 0), (.ireturn, 12, 0)]
theorem kX5_isThing_0 : sr_is cX5_isThing 0 iX5_isThing_0 = true := by decide +kernel
theorem lX5_isThing_0 {d : Nat} {L : sr_L} {st : List Value} {b : Nat × Nat} {h : sr_H} {P : Option Value → sr_H → Prop} (w : sr_wp mX5_isThing d iX5_isThing_0 0 L st b h P) : sr_Go mX5_isThing d 0 L st b h P := sr_wp_go kX5_isThing_0 w
def iX5_isThings_0 : List (Instr × Nat × Nat) := [(.iload_n 1, 1, 0), (.iconst 0, 2, 0), (.iconst 1, 3, 0), (.aload_n 0, 4, 0), (.getfield 151, 7, 0), (.ishl, 8, 0), (.iconst 1, 9, 0), (.isub, 10, 0), (.invokestatic 80, 13, 0), (.ireturn, 14, 0)]
theorem kX5_isThings_0 : sr_is cX5_isThings 0 iX5_isThings_0 = true := by decide +kernel
theorem lX5_isThings_0 {d : Nat} {L : sr_L} {st : List Value} {b : Nat × Nat} {h : sr_H} {P : Option Value → sr_H → Prop} (w : sr_wp mX5_isThings d iX5_isThings_0 0 L st b h P) : sr_Go mX5_isThings d 0 L st b h P := sr_wp_go kX5_isThings_0 w
def iX5_allLives_0 : List (Instr × Nat × Nat) := [(.iconst 1, 1, 0), (.aload_n 0, 2, 0), (.getfield 148, 5, 0), (.ishl, 6, 0), (.ireturn, 7, 0)]
theorem kX5_allLives_0 : sr_is cX5_allLives 0 iX5_allLives_0 = true := by decide +kernel
theorem lX5_allLives_0 {d : Nat} {L : sr_L} {st : List Value} {b : Nat × Nat} {h : sr_H} {P : Option Value → sr_H → Prop} (w : sr_wp mX5_allLives d iX5_allLives_0 0 L st b h P) : sr_Go mX5_allLives d 0 L st b h P := sr_wp_go kX5_allLives_0 w
def iX5_withChoice_20 : List (Instr × Nat × Nat) := [(.ireturn, 21, 0)]
def aX5_withChoice_13 : List (Instr × Nat × Nat) := [(.iload_n 0, 14, 0), (.iconst 1, 15, 0), (.iload_n 1, 16, 0), (.ishl, 17, 0), (.iconst (-1), 18, 0), (.ixor, 19, 0), (.iand, 20, 0)]
def iX5_withChoice_13 : List (Instr × Nat × Nat) := aX5_withChoice_13 ++ iX5_withChoice_20
def aX5_withChoice_0 : List (Instr × Nat × Nat) := [(.iload_n 2, 1, 0), (.iconst 1, 2, 0), (.if_icmp .ne 11, 5, 13), (.iload_n 0, 6, 0), (.iconst 1, 7, 0), (.iload_n 1, 8, 0), (.ishl, 9, 0), (.ior, 10, 0), (.goto 10, 13, 20)]
def iX5_withChoice_0 : List (Instr × Nat × Nat) := aX5_withChoice_0 ++ iX5_withChoice_13
theorem kX5_withChoice_0 : sr_is cX5_withChoice 0 iX5_withChoice_0 = true := by decide +kernel
theorem lX5_withChoice_0 {d : Nat} {L : sr_L} {st : List Value} {b : Nat × Nat} {h : sr_H} {P : Option Value → sr_H → Prop} (w : sr_wp mX5_withChoice d iX5_withChoice_0 0 L st b h P) : sr_Go mX5_withChoice d 0 L st b h P := sr_wp_go kX5_withChoice_0 w
theorem kX5_withChoice_13 : sr_is cX5_withChoice 13 iX5_withChoice_13 = true := sr_is_suf (as := aX5_withChoice_0) kX5_withChoice_0
theorem lX5_withChoice_13 {d : Nat} {L : sr_L} {st : List Value} {b : Nat × Nat} {h : sr_H} {P : Option Value → sr_H → Prop} (w : sr_wp mX5_withChoice d iX5_withChoice_13 13 L st b h P) : sr_Go mX5_withChoice d 13 L st b h P := sr_wp_go kX5_withChoice_13 w
theorem kX5_withChoice_20 : sr_is cX5_withChoice 20 iX5_withChoice_20 = true := sr_is_suf (as := aX5_withChoice_13) kX5_withChoice_13
theorem lX5_withChoice_20 {d : Nat} {L : sr_L} {st : List Value} {b : Nat × Nat} {h : sr_H} {P : Option Value → sr_H → Prop} (w : sr_wp mX5_withChoice d iX5_withChoice_20 20 L st b h P) : sr_Go mX5_withChoice d 20 L st b h P := sr_wp_go kX5_withChoice_20 w
def iX5_secondBy_124 : List (Instr × Nat × Nat) := [(.iload 5, 126, 0), (.ireturn, 127, 0)]
def aX5_secondBy_114 : List (Instr × Nat × Nat) := [(.iload 6, 116, 0), (.iconst 0, 117, 0), (.iload_n 3, 118, 0), (.iconst 1, 119, 0), (.iand, 120, 0), (.invokestatic 161, 123, 0), (.ireturn, 124, 0)]
def iX5_secondBy_114 : List (Instr × Nat × Nat) := aX5_secondBy_114 ++ iX5_secondBy_124
def aX5_secondBy_111 : List (Instr × Nat × Nat) := [(.iload 6, 113, 0), (.ireturn, 114, 0)]
def iX5_secondBy_111 : List (Instr × Nat × Nat) := aX5_secondBy_111 ++ iX5_secondBy_114
def aX5_secondBy_100 : List (Instr × Nat × Nat) := [(.iload 5, 102, 0), (.iconst 1, 103, 0), (.iload_n 2, 104, 0), (.iconst 1, 105, 0), (.iadd, 106, 0), (.ishl, 107, 0), (.iconst 1, 108, 0), (.isub, 109, 0), (.iand, 110, 0), (.ireturn, 111, 0)]
def iX5_secondBy_100 : List (Instr × Nat × Nat) := aX5_secondBy_100 ++ iX5_secondBy_111
def aX5_secondBy_93 : List (Instr × Nat × Nat) := [(.iload_n 3, 94, 0), (.iload 4, 96, 0), (.iconst 1, 97, 0), (.ior, 98, 0), (.ixor, 99, 0), (.ireturn, 100, 0)]
def iX5_secondBy_93 : List (Instr × Nat × Nat) := aX5_secondBy_93 ++ iX5_secondBy_100
def aX5_secondBy_88 : List (Instr × Nat × Nat) := [(.iload_n 3, 89, 0), (.iload 4, 91, 0), (.ixor, 92, 0), (.ireturn, 93, 0)]
def iX5_secondBy_88 : List (Instr × Nat × Nat) := aX5_secondBy_88 ++ iX5_secondBy_93
def aX5_secondBy_0 : List (Instr × Nat × Nat) := [(.aload_n 0, 1, 0), (.getfield 36, 4, 0), (.iload_n 1, 5, 0), (.iaload, 6, 0), (.istore_n 3, 7, 0), (.aload_n 0, 8, 0), (.invokevirtual 157, 11, 0), (.iconst 1, 12, 0), (.isub, 13, 0), (.iconst 1, 14, 0), (.iload_n 2, 15, 0), (.ishl, 16, 0), (.iconst 1, 17, 0), (.isub, 18, 0), (.iconst (-1), 19, 0), (.ixor, 20, 0), (.iand, 21, 0), (.istore 4, 23, 0), (.iload_n 3, 24, 0), (.iconst 1, 25, 0), (.iload_n 2, 26, 0), (.ishl, 27, 0), (.ixor, 28, 0), (.istore 5, 30, 0), (.iload 5, 32, 0), (.aload_n 0, 33, 0), (.getfield 148, 36, 0), (.iconst 1, 37, 0), (.isub, 38, 0), (.iload_n 3, 39, 0), (.iconst 1, 40, 0), (.iand, 41, 0), (.invokestatic 161, 44, 0), (.istore 6, 46, 0), (.aload_n 0, 47, 0), (.getfield 33, 50, 0), (.iload_n 1, 51, 0), (.iaload, 52, 0), (.tableswitch 72 1 5 #[36, 48, 59, 41, 62], 88, 0)]
def iX5_secondBy_0 : List (Instr × Nat × Nat) := aX5_secondBy_0 ++ iX5_secondBy_88
theorem kX5_secondBy_0 : sr_is cX5_secondBy 0 iX5_secondBy_0 = true := by decide +kernel
theorem lX5_secondBy_0 {d : Nat} {L : sr_L} {st : List Value} {b : Nat × Nat} {h : sr_H} {P : Option Value → sr_H → Prop} (w : sr_wp mX5_secondBy d iX5_secondBy_0 0 L st b h P) : sr_Go mX5_secondBy d 0 L st b h P := sr_wp_go kX5_secondBy_0 w
theorem kX5_secondBy_88 : sr_is cX5_secondBy 88 iX5_secondBy_88 = true := sr_is_suf (as := aX5_secondBy_0) kX5_secondBy_0
theorem lX5_secondBy_88 {d : Nat} {L : sr_L} {st : List Value} {b : Nat × Nat} {h : sr_H} {P : Option Value → sr_H → Prop} (w : sr_wp mX5_secondBy d iX5_secondBy_88 88 L st b h P) : sr_Go mX5_secondBy d 88 L st b h P := sr_wp_go kX5_secondBy_88 w
theorem kX5_secondBy_93 : sr_is cX5_secondBy 93 iX5_secondBy_93 = true := sr_is_suf (as := aX5_secondBy_88) kX5_secondBy_88
theorem lX5_secondBy_93 {d : Nat} {L : sr_L} {st : List Value} {b : Nat × Nat} {h : sr_H} {P : Option Value → sr_H → Prop} (w : sr_wp mX5_secondBy d iX5_secondBy_93 93 L st b h P) : sr_Go mX5_secondBy d 93 L st b h P := sr_wp_go kX5_secondBy_93 w
theorem kX5_secondBy_100 : sr_is cX5_secondBy 100 iX5_secondBy_100 = true := sr_is_suf (as := aX5_secondBy_93) kX5_secondBy_93
theorem lX5_secondBy_100 {d : Nat} {L : sr_L} {st : List Value} {b : Nat × Nat} {h : sr_H} {P : Option Value → sr_H → Prop} (w : sr_wp mX5_secondBy d iX5_secondBy_100 100 L st b h P) : sr_Go mX5_secondBy d 100 L st b h P := sr_wp_go kX5_secondBy_100 w
theorem kX5_secondBy_111 : sr_is cX5_secondBy 111 iX5_secondBy_111 = true := sr_is_suf (as := aX5_secondBy_100) kX5_secondBy_100
theorem lX5_secondBy_111 {d : Nat} {L : sr_L} {st : List Value} {b : Nat × Nat} {h : sr_H} {P : Option Value → sr_H → Prop} (w : sr_wp mX5_secondBy d iX5_secondBy_111 111 L st b h P) : sr_Go mX5_secondBy d 111 L st b h P := sr_wp_go kX5_secondBy_111 w
theorem kX5_secondBy_114 : sr_is cX5_secondBy 114 iX5_secondBy_114 = true := sr_is_suf (as := aX5_secondBy_111) kX5_secondBy_111
theorem lX5_secondBy_114 {d : Nat} {L : sr_L} {st : List Value} {b : Nat × Nat} {h : sr_H} {P : Option Value → sr_H → Prop} (w : sr_wp mX5_secondBy d iX5_secondBy_114 114 L st b h P) : sr_Go mX5_secondBy d 114 L st b h P := sr_wp_go kX5_secondBy_114 w
theorem kX5_secondBy_124 : sr_is cX5_secondBy 124 iX5_secondBy_124 = true := sr_is_suf (as := aX5_secondBy_114) kX5_secondBy_114
theorem lX5_secondBy_124 {d : Nat} {L : sr_L} {st : List Value} {b : Nat × Nat} {h : sr_H} {P : Option Value → sr_H → Prop} (w : sr_wp mX5_secondBy d iX5_secondBy_124 124 L st b h P) : sr_Go mX5_secondBy d 124 L st b h P := sr_wp_go kX5_secondBy_124 w
def iX5_second_0 : List (Instr × Nat × Nat) := [(.aload_n 0, 1, 0), (.iload_n 1, 2, 0), (.aload_n 0, 3, 0), (.getfield 39, 6, 0), (.iload_n 1, 7, 0), (.iaload, 8, 0), (.invokevirtual 164, 11, 0), (.ireturn, 12, 0)]
theorem kX5_second_0 : sr_is cX5_second 0 iX5_second_0 = true := by decide +kernel
theorem lX5_second_0 {d : Nat} {L : sr_L} {st : List Value} {b : Nat × Nat} {h : sr_H} {P : Option Value → sr_H → Prop} (w : sr_wp mX5_second d iX5_second_0 0 L st b h P) : sr_Go mX5_second d 0 L st b h P := sr_wp_go kX5_second_0 w
def iX5_isHad_53 : List (Instr × Nat × Nat) := [(.ireturn, 54, 0)]
def aX5_isHad_52 : List (Instr × Nat × Nat) := [(.iconst 0, 53, 0)]
def iX5_isHad_52 : List (Instr × Nat × Nat) := aX5_isHad_52 ++ iX5_isHad_53
def aX5_isHad_0 : List (Instr × Nat × Nat) := [(.iconst 4, 1, 0), (.iload_n 2, 2, 0), (.imul, 3, 0), (.istore_n 3, 4, 0), (.iload_n 1, 5, 0), (.aload_n 0, 6, 0), (.getfield 42, 9, 0), (.iload_n 3, 10, 0), (.iaload, 11, 0), (.ishr, 12, 0), (.iconst 1, 13, 0), (.iand, 14, 0), (.aload_n 0, 15, 0), (.getfield 42, 18, 0), (.iload_n 3, 19, 0), (.iconst 1, 20, 0), (.iadd, 21, 0), (.iaload, 22, 0), (.if_icmp .ne 30, 25, 52), (.iload_n 1, 26, 0), (.aload_n 0, 27, 0), (.getfield 42, 30, 0), (.iload_n 3, 31, 0), (.iconst 2, 32, 0), (.iadd, 33, 0), (.iaload, 34, 0), (.ishr, 35, 0), (.iconst 1, 36, 0), (.iand, 37, 0), (.aload_n 0, 38, 0), (.getfield 42, 41, 0), (.iload_n 3, 42, 0), (.iconst 3, 43, 0), (.iadd, 44, 0), (.iaload, 45, 0), (.if_icmp .ne 7, 48, 52), (.iconst 1, 49, 0), (.goto 4, 52, 53)]
def iX5_isHad_0 : List (Instr × Nat × Nat) := aX5_isHad_0 ++ iX5_isHad_52
theorem kX5_isHad_0 : sr_is cX5_isHad 0 iX5_isHad_0 = true := by decide +kernel
theorem lX5_isHad_0 {d : Nat} {L : sr_L} {st : List Value} {b : Nat × Nat} {h : sr_H} {P : Option Value → sr_H → Prop} (w : sr_wp mX5_isHad d iX5_isHad_0 0 L st b h P) : sr_Go mX5_isHad d 0 L st b h P := sr_wp_go kX5_isHad_0 w
theorem kX5_isHad_52 : sr_is cX5_isHad 52 iX5_isHad_52 = true := sr_is_suf (as := aX5_isHad_0) kX5_isHad_0
theorem lX5_isHad_52 {d : Nat} {L : sr_L} {st : List Value} {b : Nat × Nat} {h : sr_H} {P : Option Value → sr_H → Prop} (w : sr_wp mX5_isHad d iX5_isHad_52 52 L st b h P) : sr_Go mX5_isHad d 52 L st b h P := sr_wp_go kX5_isHad_52 w
theorem kX5_isHad_53 : sr_is cX5_isHad 53 iX5_isHad_53 = true := sr_is_suf (as := aX5_isHad_52) kX5_isHad_52
theorem lX5_isHad_53 {d : Nat} {L : sr_L} {st : List Value} {b : Nat × Nat} {h : sr_H} {P : Option Value → sr_H → Prop} (w : sr_wp mX5_isHad d iX5_isHad_53 53 L st b h P) : sr_Go mX5_isHad d 53 L st b h P := sr_wp_go kX5_isHad_53 w
def iX5_thingsOf_37 : List (Instr × Nat × Nat) := [(.iload_n 2, 38, 0), (.ireturn, 39, 0)]
def aX5_thingsOf_29 : List (Instr × Nat × Nat) := [(.ior, 30, 0), (.istore_n 2, 31, 0), (.iinc 3 1, 34, 0), (.goto (-30), 37, 4)]
def iX5_thingsOf_29 : List (Instr × Nat × Nat) := aX5_thingsOf_29 ++ iX5_thingsOf_37
def aX5_thingsOf_28 : List (Instr × Nat × Nat) := [(.iconst 0, 29, 0)]
def iX5_thingsOf_28 : List (Instr × Nat × Nat) := aX5_thingsOf_28 ++ iX5_thingsOf_29
def aX5_thingsOf_4 : List (Instr × Nat × Nat) := [(.iload_n 3, 5, 0), (.aload_n 0, 6, 0), (.getfield 151, 9, 0), (.if_icmp .ge 28, 12, 37), (.iload_n 2, 13, 0), (.aload_n 0, 14, 0), (.iload_n 1, 15, 0), (.iload_n 3, 16, 0), (.invokevirtual 167, 19, 0), (.ifCond .eq 9, 22, 28), (.iconst 1, 23, 0), (.iload_n 3, 24, 0), (.ishl, 25, 0), (.goto 4, 28, 29)]
def iX5_thingsOf_4 : List (Instr × Nat × Nat) := aX5_thingsOf_4 ++ iX5_thingsOf_28
def aX5_thingsOf_0 : List (Instr × Nat × Nat) := [(.iconst 0, 1, 0), (.istore_n 2, 2, 0), (.iconst 0, 3, 0), (.istore_n 3, 4, 0)]
def iX5_thingsOf_0 : List (Instr × Nat × Nat) := aX5_thingsOf_0 ++ iX5_thingsOf_4
theorem kX5_thingsOf_0 : sr_is cX5_thingsOf 0 iX5_thingsOf_0 = true := by decide +kernel
theorem lX5_thingsOf_0 {d : Nat} {L : sr_L} {st : List Value} {b : Nat × Nat} {h : sr_H} {P : Option Value → sr_H → Prop} (w : sr_wp mX5_thingsOf d iX5_thingsOf_0 0 L st b h P) : sr_Go mX5_thingsOf d 0 L st b h P := sr_wp_go kX5_thingsOf_0 w
theorem kX5_thingsOf_4 : sr_is cX5_thingsOf 4 iX5_thingsOf_4 = true := sr_is_suf (as := aX5_thingsOf_0) kX5_thingsOf_0
theorem lX5_thingsOf_4 {d : Nat} {L : sr_L} {st : List Value} {b : Nat × Nat} {h : sr_H} {P : Option Value → sr_H → Prop} (w : sr_wp mX5_thingsOf d iX5_thingsOf_4 4 L st b h P) : sr_Go mX5_thingsOf d 4 L st b h P := sr_wp_go kX5_thingsOf_4 w
theorem kX5_thingsOf_28 : sr_is cX5_thingsOf 28 iX5_thingsOf_28 = true := sr_is_suf (as := aX5_thingsOf_4) kX5_thingsOf_4
theorem lX5_thingsOf_28 {d : Nat} {L : sr_L} {st : List Value} {b : Nat × Nat} {h : sr_H} {P : Option Value → sr_H → Prop} (w : sr_wp mX5_thingsOf d iX5_thingsOf_28 28 L st b h P) : sr_Go mX5_thingsOf d 28 L st b h P := sr_wp_go kX5_thingsOf_28 w
theorem kX5_thingsOf_29 : sr_is cX5_thingsOf 29 iX5_thingsOf_29 = true := sr_is_suf (as := aX5_thingsOf_28) kX5_thingsOf_28
theorem lX5_thingsOf_29 {d : Nat} {L : sr_L} {st : List Value} {b : Nat × Nat} {h : sr_H} {P : Option Value → sr_H → Prop} (w : sr_wp mX5_thingsOf d iX5_thingsOf_29 29 L st b h P) : sr_Go mX5_thingsOf d 29 L st b h P := sr_wp_go kX5_thingsOf_29 w
theorem kX5_thingsOf_37 : sr_is cX5_thingsOf 37 iX5_thingsOf_37 = true := sr_is_suf (as := aX5_thingsOf_29) kX5_thingsOf_29
theorem lX5_thingsOf_37 {d : Nat} {L : sr_L} {st : List Value} {b : Nat × Nat} {h : sr_H} {P : Option Value → sr_H → Prop} (w : sr_wp mX5_thingsOf d iX5_thingsOf_37 37 L st b h P) : sr_Go mX5_thingsOf d 37 L st b h P := sr_wp_go kX5_thingsOf_37 w
def iX5_guestTells_102 : List (Instr × Nat × Nat) := [(.aload_n 0, 103, 0), (.getfield 51, 106, 0), (.bipush 7, 108, 0), (.iload_n 1, 109, 0), (.iadd, 110, 0), (.iaload, 111, 0), (.ireturn, 112, 0)]
def aX5_guestTells_93 : List (Instr × Nat × Nat) := [(.aload_n 0, 94, 0), (.getfield 51, 97, 0), (.iconst 2, 98, 0), (.iload_n 1, 99, 0), (.iadd, 100, 0), (.iaload, 101, 0), (.ireturn, 102, 0)]
def iX5_guestTells_93 : List (Instr × Nat × Nat) := aX5_guestTells_93 ++ iX5_guestTells_102
def aX5_guestTells_82 : List (Instr × Nat × Nat) := [(.aload_n 0, 83, 0), (.getfield 51, 86, 0), (.iconst 1, 87, 0), (.iaload, 88, 0), (.iload_n 1, 89, 0), (.ishr, 90, 0), (.iconst 1, 91, 0), (.iand, 92, 0), (.ireturn, 93, 0)]
def iX5_guestTells_82 : List (Instr × Nat × Nat) := aX5_guestTells_82 ++ iX5_guestTells_93
def aX5_guestTells_71 : List (Instr × Nat × Nat) := [(.aload_n 0, 72, 0), (.getfield 51, 75, 0), (.iconst 0, 76, 0), (.iaload, 77, 0), (.iload_n 1, 78, 0), (.ishr, 79, 0), (.iconst 1, 80, 0), (.iand, 81, 0), (.ireturn, 82, 0)]
def iX5_guestTells_71 : List (Instr × Nat × Nat) := aX5_guestTells_71 ++ iX5_guestTells_82
def aX5_guestTells_65 : List (Instr × Nat × Nat) := [(.aload_n 0, 66, 0), (.iload_n 1, 67, 0), (.invokevirtual 171, 70, 0), (.ireturn, 71, 0)]
def iX5_guestTells_65 : List (Instr × Nat × Nat) := aX5_guestTells_65 ++ iX5_guestTells_71
def aX5_guestTells_58 : List (Instr × Nat × Nat) := [(.aload_n 0, 59, 0), (.getfield 36, 62, 0), (.iload_n 1, 63, 0), (.iaload, 64, 0), (.ireturn, 65, 0)]
def iX5_guestTells_58 : List (Instr × Nat × Nat) := aX5_guestTells_58 ++ iX5_guestTells_65
def aX5_guestTells_51 : List (Instr × Nat × Nat) := [(.aload_n 0, 52, 0), (.getfield 39, 55, 0), (.iload_n 1, 56, 0), (.iaload, 57, 0), (.ireturn, 58, 0)]
def iX5_guestTells_51 : List (Instr × Nat × Nat) := aX5_guestTells_51 ++ iX5_guestTells_58
def aX5_guestTells_44 : List (Instr × Nat × Nat) := [(.aload_n 0, 45, 0), (.getfield 33, 48, 0), (.iload_n 1, 49, 0), (.iaload, 50, 0), (.ireturn, 51, 0)]
def iX5_guestTells_44 : List (Instr × Nat × Nat) := aX5_guestTells_44 ++ iX5_guestTells_51
def aX5_guestTells_0 : List (Instr × Nat × Nat) := [(.iload_n 2, 1, 0), (.tableswitch 101 0 6 #[43, 50, 57, 64, 70, 81, 92], 44, 0)]
def iX5_guestTells_0 : List (Instr × Nat × Nat) := aX5_guestTells_0 ++ iX5_guestTells_44
theorem kX5_guestTells_0 : sr_is cX5_guestTells 0 iX5_guestTells_0 = true := by decide +kernel
theorem lX5_guestTells_0 {d : Nat} {L : sr_L} {st : List Value} {b : Nat × Nat} {h : sr_H} {P : Option Value → sr_H → Prop} (w : sr_wp mX5_guestTells d iX5_guestTells_0 0 L st b h P) : sr_Go mX5_guestTells d 0 L st b h P := sr_wp_go kX5_guestTells_0 w
theorem kX5_guestTells_44 : sr_is cX5_guestTells 44 iX5_guestTells_44 = true := sr_is_suf (as := aX5_guestTells_0) kX5_guestTells_0
theorem lX5_guestTells_44 {d : Nat} {L : sr_L} {st : List Value} {b : Nat × Nat} {h : sr_H} {P : Option Value → sr_H → Prop} (w : sr_wp mX5_guestTells d iX5_guestTells_44 44 L st b h P) : sr_Go mX5_guestTells d 44 L st b h P := sr_wp_go kX5_guestTells_44 w
theorem kX5_guestTells_51 : sr_is cX5_guestTells 51 iX5_guestTells_51 = true := sr_is_suf (as := aX5_guestTells_44) kX5_guestTells_44
theorem lX5_guestTells_51 {d : Nat} {L : sr_L} {st : List Value} {b : Nat × Nat} {h : sr_H} {P : Option Value → sr_H → Prop} (w : sr_wp mX5_guestTells d iX5_guestTells_51 51 L st b h P) : sr_Go mX5_guestTells d 51 L st b h P := sr_wp_go kX5_guestTells_51 w
theorem kX5_guestTells_58 : sr_is cX5_guestTells 58 iX5_guestTells_58 = true := sr_is_suf (as := aX5_guestTells_51) kX5_guestTells_51
theorem lX5_guestTells_58 {d : Nat} {L : sr_L} {st : List Value} {b : Nat × Nat} {h : sr_H} {P : Option Value → sr_H → Prop} (w : sr_wp mX5_guestTells d iX5_guestTells_58 58 L st b h P) : sr_Go mX5_guestTells d 58 L st b h P := sr_wp_go kX5_guestTells_58 w
theorem kX5_guestTells_65 : sr_is cX5_guestTells 65 iX5_guestTells_65 = true := sr_is_suf (as := aX5_guestTells_58) kX5_guestTells_58
theorem lX5_guestTells_65 {d : Nat} {L : sr_L} {st : List Value} {b : Nat × Nat} {h : sr_H} {P : Option Value → sr_H → Prop} (w : sr_wp mX5_guestTells d iX5_guestTells_65 65 L st b h P) : sr_Go mX5_guestTells d 65 L st b h P := sr_wp_go kX5_guestTells_65 w
theorem kX5_guestTells_71 : sr_is cX5_guestTells 71 iX5_guestTells_71 = true := sr_is_suf (as := aX5_guestTells_65) kX5_guestTells_65
theorem lX5_guestTells_71 {d : Nat} {L : sr_L} {st : List Value} {b : Nat × Nat} {h : sr_H} {P : Option Value → sr_H → Prop} (w : sr_wp mX5_guestTells d iX5_guestTells_71 71 L st b h P) : sr_Go mX5_guestTells d 71 L st b h P := sr_wp_go kX5_guestTells_71 w
theorem kX5_guestTells_82 : sr_is cX5_guestTells 82 iX5_guestTells_82 = true := sr_is_suf (as := aX5_guestTells_71) kX5_guestTells_71
theorem lX5_guestTells_82 {d : Nat} {L : sr_L} {st : List Value} {b : Nat × Nat} {h : sr_H} {P : Option Value → sr_H → Prop} (w : sr_wp mX5_guestTells d iX5_guestTells_82 82 L st b h P) : sr_Go mX5_guestTells d 82 L st b h P := sr_wp_go kX5_guestTells_82 w
theorem kX5_guestTells_93 : sr_is cX5_guestTells 93 iX5_guestTells_93 = true := sr_is_suf (as := aX5_guestTells_82) kX5_guestTells_82
theorem lX5_guestTells_93 {d : Nat} {L : sr_L} {st : List Value} {b : Nat × Nat} {h : sr_H} {P : Option Value → sr_H → Prop} (w : sr_wp mX5_guestTells d iX5_guestTells_93 93 L st b h P) : sr_Go mX5_guestTells d 93 L st b h P := sr_wp_go kX5_guestTells_93 w
theorem kX5_guestTells_102 : sr_is cX5_guestTells 102 iX5_guestTells_102 = true := sr_is_suf (as := aX5_guestTells_93) kX5_guestTells_93
theorem lX5_guestTells_102 {d : Nat} {L : sr_L} {st : List Value} {b : Nat × Nat} {h : sr_H} {P : Option Value → sr_H → Prop} (w : sr_wp mX5_guestTells d iX5_guestTells_102 102 L st b h P) : sr_Go mX5_guestTells d 102 L st b h P := sr_wp_go kX5_guestTells_102 w
def iX5_guest_33 : List (Instr × Nat × Nat) := [(.ireturn, 34, 0)]
def aX5_guest_32 : List (Instr × Nat × Nat) := [(.iconst (-1), 33, 0)]
def iX5_guest_32 : List (Instr × Nat × Nat) := aX5_guest_32 ++ iX5_guest_33
def aX5_guest_0 : List (Instr × Nat × Nat) := [(.aload_n 0, 1, 0), (.iload_n 1, 2, 0), (.invokevirtual 174, 5, 0), (.ifCond .eq 27, 8, 32), (.iload_n 2, 9, 0), (.iconst 0, 10, 0), (.bipush 7, 12, 0), (.invokestatic 80, 15, 0), (.ifCond .eq 17, 18, 32), (.aload_n 0, 19, 0), (.aload_n 0, 20, 0), (.iload_n 1, 21, 0), (.iload_n 2, 22, 0), (.invokevirtual 177, 25, 0), (.iconst 1, 26, 0), (.invokevirtual 102, 29, 0), (.goto 4, 32, 33)]
def iX5_guest_0 : List (Instr × Nat × Nat) := aX5_guest_0 ++ iX5_guest_32
theorem kX5_guest_0 : sr_is cX5_guest 0 iX5_guest_0 = true := by decide +kernel
theorem lX5_guest_0 {d : Nat} {L : sr_L} {st : List Value} {b : Nat × Nat} {h : sr_H} {P : Option Value → sr_H → Prop} (w : sr_wp mX5_guest d iX5_guest_0 0 L st b h P) : sr_Go mX5_guest d 0 L st b h P := sr_wp_go kX5_guest_0 w
theorem kX5_guest_32 : sr_is cX5_guest 32 iX5_guest_32 = true := sr_is_suf (as := aX5_guest_0) kX5_guest_0
theorem lX5_guest_32 {d : Nat} {L : sr_L} {st : List Value} {b : Nat × Nat} {h : sr_H} {P : Option Value → sr_H → Prop} (w : sr_wp mX5_guest d iX5_guest_32 32 L st b h P) : sr_Go mX5_guest d 32 L st b h P := sr_wp_go kX5_guest_32 w
theorem kX5_guest_33 : sr_is cX5_guest 33 iX5_guest_33 = true := sr_is_suf (as := aX5_guest_32) kX5_guest_32
theorem lX5_guest_33 {d : Nat} {L : sr_L} {st : List Value} {b : Nat × Nat} {h : sr_H} {P : Option Value → sr_H → Prop} (w : sr_wp mX5_guest d iX5_guest_33 33 L st b h P) : sr_Go mX5_guest d 33 L st b h P := sr_wp_go kX5_guest_33 w
def iX5_isSoldier_25 : List (Instr × Nat × Nat) := [(.ireturn, 26, 0)]
def aX5_isSoldier_24 : List (Instr × Nat × Nat) := [(.iconst 0, 25, 0)]
def iX5_isSoldier_24 : List (Instr × Nat × Nat) := aX5_isSoldier_24 ++ iX5_isSoldier_25
def aX5_isSoldier_20 : List (Instr × Nat × Nat) := [(.iconst 1, 21, 0), (.goto 4, 24, 25)]
def iX5_isSoldier_20 : List (Instr × Nat × Nat) := aX5_isSoldier_20 ++ iX5_isSoldier_24
def aX5_isSoldier_0 : List (Instr × Nat × Nat) := [(.aload_n 0, 1, 0), (.getfield 33, 4, 0), (.iload_n 1, 5, 0), (.iaload, 6, 0), (.iconst 1, 7, 0), (.if_icmp .eq 13, 10, 20), (.aload_n 0, 11, 0), (.getfield 33, 14, 0), (.iload_n 1, 15, 0), (.iaload, 16, 0), (.iconst 4, 17, 0), (.if_icmp .ne 7, 20, 24)]
def iX5_isSoldier_0 : List (Instr × Nat × Nat) := aX5_isSoldier_0 ++ iX5_isSoldier_20
theorem kX5_isSoldier_0 : sr_is cX5_isSoldier 0 iX5_isSoldier_0 = true := by decide +kernel
theorem lX5_isSoldier_0 {d : Nat} {L : sr_L} {st : List Value} {b : Nat × Nat} {h : sr_H} {P : Option Value → sr_H → Prop} (w : sr_wp mX5_isSoldier d iX5_isSoldier_0 0 L st b h P) : sr_Go mX5_isSoldier d 0 L st b h P := sr_wp_go kX5_isSoldier_0 w
theorem kX5_isSoldier_20 : sr_is cX5_isSoldier 20 iX5_isSoldier_20 = true := sr_is_suf (as := aX5_isSoldier_0) kX5_isSoldier_0
theorem lX5_isSoldier_20 {d : Nat} {L : sr_L} {st : List Value} {b : Nat × Nat} {h : sr_H} {P : Option Value → sr_H → Prop} (w : sr_wp mX5_isSoldier d iX5_isSoldier_20 20 L st b h P) : sr_Go mX5_isSoldier d 20 L st b h P := sr_wp_go kX5_isSoldier_20 w
theorem kX5_isSoldier_24 : sr_is cX5_isSoldier 24 iX5_isSoldier_24 = true := sr_is_suf (as := aX5_isSoldier_20) kX5_isSoldier_20
theorem lX5_isSoldier_24 {d : Nat} {L : sr_L} {st : List Value} {b : Nat × Nat} {h : sr_H} {P : Option Value → sr_H → Prop} (w : sr_wp mX5_isSoldier d iX5_isSoldier_24 24 L st b h P) : sr_Go mX5_isSoldier d 24 L st b h P := sr_wp_go kX5_isSoldier_24 w
theorem kX5_isSoldier_25 : sr_is cX5_isSoldier 25 iX5_isSoldier_25 = true := sr_is_suf (as := aX5_isSoldier_24) kX5_isSoldier_24
theorem lX5_isSoldier_25 {d : Nat} {L : sr_L} {st : List Value} {b : Nat × Nat} {h : sr_H} {P : Option Value → sr_H → Prop} (w : sr_wp mX5_isSoldier d iX5_isSoldier_25 25 L st b h P) : sr_Go mX5_isSoldier d 25 L st b h P := sr_wp_go kX5_isSoldier_25 w
def iX5_soldiers_34 : List (Instr × Nat × Nat) := [(.iload_n 1, 35, 0), (.ireturn, 36, 0)]
def aX5_soldiers_26 : List (Instr × Nat × Nat) := [(.iadd, 27, 0), (.istore_n 1, 28, 0), (.iinc 2 1, 31, 0), (.goto (-27), 34, 4)]
def iX5_soldiers_26 : List (Instr × Nat × Nat) := aX5_soldiers_26 ++ iX5_soldiers_34
def aX5_soldiers_25 : List (Instr × Nat × Nat) := [(.iconst 0, 26, 0)]
def iX5_soldiers_25 : List (Instr × Nat × Nat) := aX5_soldiers_25 ++ iX5_soldiers_26
def aX5_soldiers_4 : List (Instr × Nat × Nat) := [(.iload_n 2, 5, 0), (.aload_n 0, 6, 0), (.getfield 145, 9, 0), (.if_icmp .ge 25, 12, 34), (.iload_n 1, 13, 0), (.aload_n 0, 14, 0), (.iload_n 2, 15, 0), (.invokevirtual 180, 18, 0), (.ifCond .eq 7, 21, 25), (.iconst 1, 22, 0), (.goto 4, 25, 26)]
def iX5_soldiers_4 : List (Instr × Nat × Nat) := aX5_soldiers_4 ++ iX5_soldiers_25
def aX5_soldiers_0 : List (Instr × Nat × Nat) := [(.iconst 0, 1, 0), (.istore_n 1, 2, 0), (.iconst 0, 3, 0), (.istore_n 2, 4, 0)]
def iX5_soldiers_0 : List (Instr × Nat × Nat) := aX5_soldiers_0 ++ iX5_soldiers_4
theorem kX5_soldiers_0 : sr_is cX5_soldiers 0 iX5_soldiers_0 = true := by decide +kernel
theorem lX5_soldiers_0 {d : Nat} {L : sr_L} {st : List Value} {b : Nat × Nat} {h : sr_H} {P : Option Value → sr_H → Prop} (w : sr_wp mX5_soldiers d iX5_soldiers_0 0 L st b h P) : sr_Go mX5_soldiers d 0 L st b h P := sr_wp_go kX5_soldiers_0 w
theorem kX5_soldiers_4 : sr_is cX5_soldiers 4 iX5_soldiers_4 = true := sr_is_suf (as := aX5_soldiers_0) kX5_soldiers_0
theorem lX5_soldiers_4 {d : Nat} {L : sr_L} {st : List Value} {b : Nat × Nat} {h : sr_H} {P : Option Value → sr_H → Prop} (w : sr_wp mX5_soldiers d iX5_soldiers_4 4 L st b h P) : sr_Go mX5_soldiers d 4 L st b h P := sr_wp_go kX5_soldiers_4 w
theorem kX5_soldiers_25 : sr_is cX5_soldiers 25 iX5_soldiers_25 = true := sr_is_suf (as := aX5_soldiers_4) kX5_soldiers_4
theorem lX5_soldiers_25 {d : Nat} {L : sr_L} {st : List Value} {b : Nat × Nat} {h : sr_H} {P : Option Value → sr_H → Prop} (w : sr_wp mX5_soldiers d iX5_soldiers_25 25 L st b h P) : sr_Go mX5_soldiers d 25 L st b h P := sr_wp_go kX5_soldiers_25 w
theorem kX5_soldiers_26 : sr_is cX5_soldiers 26 iX5_soldiers_26 = true := sr_is_suf (as := aX5_soldiers_25) kX5_soldiers_25
theorem lX5_soldiers_26 {d : Nat} {L : sr_L} {st : List Value} {b : Nat × Nat} {h : sr_H} {P : Option Value → sr_H → Prop} (w : sr_wp mX5_soldiers d iX5_soldiers_26 26 L st b h P) : sr_Go mX5_soldiers d 26 L st b h P := sr_wp_go kX5_soldiers_26 w
theorem kX5_soldiers_34 : sr_is cX5_soldiers 34 iX5_soldiers_34 = true := sr_is_suf (as := aX5_soldiers_26) kX5_soldiers_26
theorem lX5_soldiers_34 {d : Nat} {L : sr_L} {st : List Value} {b : Nat × Nat} {h : sr_H} {P : Option Value → sr_H → Prop} (w : sr_wp mX5_soldiers d iX5_soldiers_34 34 L st b h P) : sr_Go mX5_soldiers d 34 L st b h P := sr_wp_go kX5_soldiers_34 w
def iX5_mark_141 : List (Instr × Nat × Nat) := [(.aload_n 0, 142, 0), (.aload_n 0, 143, 0), (.getfield 36, 146, 0), (.iload_n 1, 147, 0), (.iaload, 148, 0), (.invokevirtual 189, 151, 0), (.aload_n 0, 152, 0), (.aload_n 0, 153, 0), (.iload_n 1, 154, 0), (.invokevirtual 171, 157, 0), (.invokevirtual 189, 160, 0), (.iand, 161, 0), (.invokestatic 183, 164, 0), (.ireturn, 165, 0)]
def aX5_mark_134 : List (Instr × Nat × Nat) := [(.aload_n 0, 135, 0), (.invokevirtual 186, 138, 0), (.iconst 1, 139, 0), (.isub, 140, 0), (.ireturn, 141, 0)]
def iX5_mark_134 : List (Instr × Nat × Nat) := aX5_mark_134 ++ iX5_mark_141
def aX5_mark_123 : List (Instr × Nat × Nat) := [(.aload_n 0, 124, 0), (.getfield 51, 127, 0), (.iconst 1, 128, 0), (.iaload, 129, 0), (.iload_n 1, 130, 0), (.ishr, 131, 0), (.iconst 1, 132, 0), (.iand, 133, 0), (.ireturn, 134, 0)]
def iX5_mark_123 : List (Instr × Nat × Nat) := aX5_mark_123 ++ iX5_mark_134
def aX5_mark_104 : List (Instr × Nat × Nat) := [(.aload_n 0, 105, 0), (.getfield 36, 108, 0), (.iload_n 1, 109, 0), (.iaload, 110, 0), (.aload_n 0, 111, 0), (.getfield 39, 114, 0), (.iload_n 1, 115, 0), (.iaload, 116, 0), (.iconst 1, 117, 0), (.iadd, 118, 0), (.ishr, 119, 0), (.invokestatic 183, 122, 0), (.ireturn, 123, 0)]
def iX5_mark_104 : List (Instr × Nat × Nat) := aX5_mark_104 ++ iX5_mark_123
def aX5_mark_88 : List (Instr × Nat × Nat) := [(.aload_n 0, 89, 0), (.getfield 36, 92, 0), (.iload_n 1, 93, 0), (.iaload, 94, 0), (.aload_n 0, 95, 0), (.iload_n 1, 96, 0), (.invokevirtual 171, 99, 0), (.ixor, 100, 0), (.invokestatic 183, 103, 0), (.ireturn, 104, 0)]
def iX5_mark_88 : List (Instr × Nat × Nat) := aX5_mark_88 ++ iX5_mark_104
def aX5_mark_57 : List (Instr × Nat × Nat) := [(.iload_n 2, 58, 0), (.tableswitch 83 1 4 #[30, 46, 65, 76], 88, 0)]
def iX5_mark_57 : List (Instr × Nat × Nat) := aX5_mark_57 ++ iX5_mark_88
def aX5_mark_51 : List (Instr × Nat × Nat) := [(.aload_n 0, 52, 0), (.iconst 3, 53, 0), (.invokevirtual 94, 56, 0), (.ireturn, 57, 0)]
def iX5_mark_51 : List (Instr × Nat × Nat) := aX5_mark_51 ++ iX5_mark_57
def aX5_mark_41 : List (Instr × Nat × Nat) := [(.iload_n 2, 42, 0), (.iconst 3, 43, 0), (.if_icmp .ne 8, 46, 51), (.iload_n 3, 47, 0), (.iconst 5, 48, 0), (.if_icmp .eq 9, 51, 57)]
def iX5_mark_41 : List (Instr × Nat × Nat) := aX5_mark_41 ++ iX5_mark_51
def aX5_mark_19 : List (Instr × Nat × Nat) := [(.aload_n 0, 20, 0), (.getfield 33, 23, 0), (.iload_n 1, 24, 0), (.iaload, 25, 0), (.istore_n 3, 26, 0), (.iload_n 3, 27, 0), (.iload_n 2, 28, 0), (.if_icmp .eq 29, 31, 57), (.iload_n 2, 32, 0), (.iconst 1, 33, 0), (.if_icmp .ne 8, 36, 41), (.iload_n 3, 37, 0), (.iconst 4, 38, 0), (.if_icmp .eq 19, 41, 57)]
def iX5_mark_19 : List (Instr × Nat × Nat) := aX5_mark_19 ++ iX5_mark_41
def aX5_mark_17 : List (Instr × Nat × Nat) := [(.iconst (-1), 18, 0), (.ireturn, 19, 0)]
def iX5_mark_17 : List (Instr × Nat × Nat) := aX5_mark_17 ++ iX5_mark_19
def aX5_mark_0 : List (Instr × Nat × Nat) := [(.aload_n 0, 1, 0), (.iload_n 1, 2, 0), (.invokevirtual 174, 5, 0), (.ifCond .eq 12, 8, 17), (.iload_n 2, 9, 0), (.iconst 1, 10, 0), (.iconst 5, 11, 0), (.invokestatic 80, 14, 0), (.ifCond .ne 5, 17, 19)]
def iX5_mark_0 : List (Instr × Nat × Nat) := aX5_mark_0 ++ iX5_mark_17
theorem kX5_mark_0 : sr_is cX5_mark 0 iX5_mark_0 = true := by decide +kernel
theorem lX5_mark_0 {d : Nat} {L : sr_L} {st : List Value} {b : Nat × Nat} {h : sr_H} {P : Option Value → sr_H → Prop} (w : sr_wp mX5_mark d iX5_mark_0 0 L st b h P) : sr_Go mX5_mark d 0 L st b h P := sr_wp_go kX5_mark_0 w
theorem kX5_mark_17 : sr_is cX5_mark 17 iX5_mark_17 = true := sr_is_suf (as := aX5_mark_0) kX5_mark_0
theorem lX5_mark_17 {d : Nat} {L : sr_L} {st : List Value} {b : Nat × Nat} {h : sr_H} {P : Option Value → sr_H → Prop} (w : sr_wp mX5_mark d iX5_mark_17 17 L st b h P) : sr_Go mX5_mark d 17 L st b h P := sr_wp_go kX5_mark_17 w
theorem kX5_mark_19 : sr_is cX5_mark 19 iX5_mark_19 = true := sr_is_suf (as := aX5_mark_17) kX5_mark_17
theorem lX5_mark_19 {d : Nat} {L : sr_L} {st : List Value} {b : Nat × Nat} {h : sr_H} {P : Option Value → sr_H → Prop} (w : sr_wp mX5_mark d iX5_mark_19 19 L st b h P) : sr_Go mX5_mark d 19 L st b h P := sr_wp_go kX5_mark_19 w
theorem kX5_mark_41 : sr_is cX5_mark 41 iX5_mark_41 = true := sr_is_suf (as := aX5_mark_19) kX5_mark_19
theorem lX5_mark_41 {d : Nat} {L : sr_L} {st : List Value} {b : Nat × Nat} {h : sr_H} {P : Option Value → sr_H → Prop} (w : sr_wp mX5_mark d iX5_mark_41 41 L st b h P) : sr_Go mX5_mark d 41 L st b h P := sr_wp_go kX5_mark_41 w
theorem kX5_mark_51 : sr_is cX5_mark 51 iX5_mark_51 = true := sr_is_suf (as := aX5_mark_41) kX5_mark_41
theorem lX5_mark_51 {d : Nat} {L : sr_L} {st : List Value} {b : Nat × Nat} {h : sr_H} {P : Option Value → sr_H → Prop} (w : sr_wp mX5_mark d iX5_mark_51 51 L st b h P) : sr_Go mX5_mark d 51 L st b h P := sr_wp_go kX5_mark_51 w
theorem kX5_mark_57 : sr_is cX5_mark 57 iX5_mark_57 = true := sr_is_suf (as := aX5_mark_51) kX5_mark_51
theorem lX5_mark_57 {d : Nat} {L : sr_L} {st : List Value} {b : Nat × Nat} {h : sr_H} {P : Option Value → sr_H → Prop} (w : sr_wp mX5_mark d iX5_mark_57 57 L st b h P) : sr_Go mX5_mark d 57 L st b h P := sr_wp_go kX5_mark_57 w
theorem kX5_mark_88 : sr_is cX5_mark 88 iX5_mark_88 = true := sr_is_suf (as := aX5_mark_57) kX5_mark_57
theorem lX5_mark_88 {d : Nat} {L : sr_L} {st : List Value} {b : Nat × Nat} {h : sr_H} {P : Option Value → sr_H → Prop} (w : sr_wp mX5_mark d iX5_mark_88 88 L st b h P) : sr_Go mX5_mark d 88 L st b h P := sr_wp_go kX5_mark_88 w
theorem kX5_mark_104 : sr_is cX5_mark 104 iX5_mark_104 = true := sr_is_suf (as := aX5_mark_88) kX5_mark_88
theorem lX5_mark_104 {d : Nat} {L : sr_L} {st : List Value} {b : Nat × Nat} {h : sr_H} {P : Option Value → sr_H → Prop} (w : sr_wp mX5_mark d iX5_mark_104 104 L st b h P) : sr_Go mX5_mark d 104 L st b h P := sr_wp_go kX5_mark_104 w
theorem kX5_mark_123 : sr_is cX5_mark 123 iX5_mark_123 = true := sr_is_suf (as := aX5_mark_104) kX5_mark_104
theorem lX5_mark_123 {d : Nat} {L : sr_L} {st : List Value} {b : Nat × Nat} {h : sr_H} {P : Option Value → sr_H → Prop} (w : sr_wp mX5_mark d iX5_mark_123 123 L st b h P) : sr_Go mX5_mark d 123 L st b h P := sr_wp_go kX5_mark_123 w
theorem kX5_mark_134 : sr_is cX5_mark 134 iX5_mark_134 = true := sr_is_suf (as := aX5_mark_123) kX5_mark_123
theorem lX5_mark_134 {d : Nat} {L : sr_L} {st : List Value} {b : Nat × Nat} {h : sr_H} {P : Option Value → sr_H → Prop} (w : sr_wp mX5_mark d iX5_mark_134 134 L st b h P) : sr_Go mX5_mark d 134 L st b h P := sr_wp_go kX5_mark_134 w
theorem kX5_mark_141 : sr_is cX5_mark 141 iX5_mark_141 = true := sr_is_suf (as := aX5_mark_134) kX5_mark_134
theorem lX5_mark_141 {d : Nat} {L : sr_L} {st : List Value} {b : Nat × Nat} {h : sr_H} {P : Option Value → sr_H → Prop} (w : sr_wp mX5_mark d iX5_mark_141 141 L st b h P) : sr_Go mX5_mark d 141 L st b h P := sr_wp_go kX5_mark_141 w
def iX5_turn_34 : List (Instr × Nat × Nat) := [(.aload_n 0, 35, 0), (.getfield 39, 38, 0), (.iload_n 1, 39, 0), (.iaload, 40, 0), (.istore_n 3, 41, 0), (.aload_n 0, 42, 0), (.getfield 39, 45, 0), (.iload_n 1, 46, 0), (.iload_n 2, 47, 0), (.iastore, 48, 0), (.iload_n 3, 49, 0), (.ireturn, 50, 0)]
def aX5_turn_24 : List (Instr × Nat × Nat) := [(.aload_n 0, 25, 0), (.getfield 154, 28, 0), (.ifCond .le 6, 31, 34), (.bipush (-4), 33, 0), (.ireturn, 34, 0)]
def iX5_turn_24 : List (Instr × Nat × Nat) := aX5_turn_24 ++ iX5_turn_34
def aX5_turn_22 : List (Instr × Nat × Nat) := [(.iconst (-1), 23, 0), (.ireturn, 24, 0)]
def iX5_turn_22 : List (Instr × Nat × Nat) := aX5_turn_22 ++ iX5_turn_24
def aX5_turn_0 : List (Instr × Nat × Nat) := [(.aload_n 0, 1, 0), (.iload_n 1, 2, 0), (.invokevirtual 174, 5, 0), (.ifCond .eq 17, 8, 22), (.iload_n 2, 9, 0), (.iconst 0, 10, 0), (.aload_n 0, 11, 0), (.getfield 148, 14, 0), (.iconst 1, 15, 0), (.isub, 16, 0), (.invokestatic 80, 19, 0), (.ifCond .ne 5, 22, 24)]
def iX5_turn_0 : List (Instr × Nat × Nat) := aX5_turn_0 ++ iX5_turn_22
theorem kX5_turn_0 : sr_is cX5_turn 0 iX5_turn_0 = true := by decide +kernel
theorem lX5_turn_0 {d : Nat} {L : sr_L} {st : List Value} {b : Nat × Nat} {h : sr_H} {P : Option Value → sr_H → Prop} (w : sr_wp mX5_turn d iX5_turn_0 0 L st b h P) : sr_Go mX5_turn d 0 L st b h P := sr_wp_go kX5_turn_0 w
theorem kX5_turn_22 : sr_is cX5_turn 22 iX5_turn_22 = true := sr_is_suf (as := aX5_turn_0) kX5_turn_0
theorem lX5_turn_22 {d : Nat} {L : sr_L} {st : List Value} {b : Nat × Nat} {h : sr_H} {P : Option Value → sr_H → Prop} (w : sr_wp mX5_turn d iX5_turn_22 22 L st b h P) : sr_Go mX5_turn d 22 L st b h P := sr_wp_go kX5_turn_22 w
theorem kX5_turn_24 : sr_is cX5_turn 24 iX5_turn_24 = true := sr_is_suf (as := aX5_turn_22) kX5_turn_22
theorem lX5_turn_24 {d : Nat} {L : sr_L} {st : List Value} {b : Nat × Nat} {h : sr_H} {P : Option Value → sr_H → Prop} (w : sr_wp mX5_turn d iX5_turn_24 24 L st b h P) : sr_Go mX5_turn d 24 L st b h P := sr_wp_go kX5_turn_24 w
theorem kX5_turn_34 : sr_is cX5_turn 34 iX5_turn_34 = true := sr_is_suf (as := aX5_turn_24) kX5_turn_24
theorem lX5_turn_34 {d : Nat} {L : sr_L} {st : List Value} {b : Nat × Nat} {h : sr_H} {P : Option Value → sr_H → Prop} (w : sr_wp mX5_turn d iX5_turn_34 34 L st b h P) : sr_Go mX5_turn d 34 L st b h P := sr_wp_go kX5_turn_34 w
def iX5_remember_34 : List (Instr × Nat × Nat) := [(.aload_n 0, 35, 0), (.dup, 36, 0), (.getfield 154, 39, 0), (.iconst 1, 40, 0), (.iadd, 41, 0), (.putfield 154, 44, 0), (.return_, 45, 0)]
def aX5_remember_2 : List (Instr × Nat × Nat) := [(.iload_n 1, 3, 0), (.bipush 12, 5, 0), (.if_icmp .ge 29, 8, 34), (.aload_n 0, 9, 0), (.getfield 54, 12, 0), (.bipush 12, 14, 0), (.aload_n 0, 15, 0), (.getfield 154, 18, 0), (.imul, 19, 0), (.iload_n 1, 20, 0), (.iadd, 21, 0), (.aload_n 0, 22, 0), (.getfield 51, 25, 0), (.iload_n 1, 26, 0), (.iaload, 27, 0), (.iastore, 28, 0), (.iinc 1 1, 31, 0), (.goto (-29), 34, 2)]
def iX5_remember_2 : List (Instr × Nat × Nat) := aX5_remember_2 ++ iX5_remember_34
def aX5_remember_0 : List (Instr × Nat × Nat) := [(.iconst 0, 1, 0), (.istore_n 1, 2, 0)]
def iX5_remember_0 : List (Instr × Nat × Nat) := aX5_remember_0 ++ iX5_remember_2
theorem kX5_remember_0 : sr_is cX5_remember 0 iX5_remember_0 = true := by decide +kernel
theorem lX5_remember_0 {d : Nat} {L : sr_L} {st : List Value} {b : Nat × Nat} {h : sr_H} {P : Option Value → sr_H → Prop} (w : sr_wp mX5_remember d iX5_remember_0 0 L st b h P) : sr_Go mX5_remember d 0 L st b h P := sr_wp_go kX5_remember_0 w
theorem kX5_remember_2 : sr_is cX5_remember 2 iX5_remember_2 = true := sr_is_suf (as := aX5_remember_0) kX5_remember_0
theorem lX5_remember_2 {d : Nat} {L : sr_L} {st : List Value} {b : Nat × Nat} {h : sr_H} {P : Option Value → sr_H → Prop} (w : sr_wp mX5_remember d iX5_remember_2 2 L st b h P) : sr_Go mX5_remember d 2 L st b h P := sr_wp_go kX5_remember_2 w
theorem kX5_remember_34 : sr_is cX5_remember 34 iX5_remember_34 = true := sr_is_suf (as := aX5_remember_2) kX5_remember_2
theorem lX5_remember_34 {d : Nat} {L : sr_L} {st : List Value} {b : Nat × Nat} {h : sr_H} {P : Option Value → sr_H → Prop} (w : sr_wp mX5_remember d iX5_remember_34 34 L st b h P) : sr_Go mX5_remember d 34 L st b h P := sr_wp_go kX5_remember_34 w
def iX5_uses_19 : List (Instr × Nat × Nat) := [(.iload_n 1, 20, 0), (.iadd, 21, 0), (.istore_n 2, 22, 0), (.aload_n 0, 23, 0), (.getfield 51, 26, 0), (.iload_n 2, 27, 0), (.dup2, 28, 0), (.iaload, 29, 0), (.iconst 1, 30, 0), (.iadd, 31, 0), (.iastore, 32, 0), (.aload_n 0, 33, 0), (.getfield 51, 36, 0), (.iload_n 2, 37, 0), (.iaload, 38, 0), (.ireturn, 39, 0)]
def aX5_uses_18 : List (Instr × Nat × Nat) := [(.iconst 2, 19, 0)]
def iX5_uses_18 : List (Instr × Nat × Nat) := aX5_uses_18 ++ iX5_uses_19
def aX5_uses_0 : List (Instr × Nat × Nat) := [(.aload_n 0, 1, 0), (.getfield 51, 4, 0), (.iconst 0, 5, 0), (.iaload, 6, 0), (.iload_n 1, 7, 0), (.invokestatic 192, 10, 0), (.ifCond .eq 8, 13, 18), (.bipush 7, 15, 0), (.goto 4, 18, 19)]
def iX5_uses_0 : List (Instr × Nat × Nat) := aX5_uses_0 ++ iX5_uses_18
theorem kX5_uses_0 : sr_is cX5_uses 0 iX5_uses_0 = true := by decide +kernel
theorem lX5_uses_0 {d : Nat} {L : sr_L} {st : List Value} {b : Nat × Nat} {h : sr_H} {P : Option Value → sr_H → Prop} (w : sr_wp mX5_uses d iX5_uses_0 0 L st b h P) : sr_Go mX5_uses d 0 L st b h P := sr_wp_go kX5_uses_0 w
theorem kX5_uses_18 : sr_is cX5_uses 18 iX5_uses_18 = true := sr_is_suf (as := aX5_uses_0) kX5_uses_0
theorem lX5_uses_18 {d : Nat} {L : sr_L} {st : List Value} {b : Nat × Nat} {h : sr_H} {P : Option Value → sr_H → Prop} (w : sr_wp mX5_uses d iX5_uses_18 18 L st b h P) : sr_Go mX5_uses d 18 L st b h P := sr_wp_go kX5_uses_18 w
theorem kX5_uses_19 : sr_is cX5_uses 19 iX5_uses_19 = true := sr_is_suf (as := aX5_uses_18) kX5_uses_18
theorem lX5_uses_19 {d : Nat} {L : sr_L} {st : List Value} {b : Nat × Nat} {h : sr_H} {P : Option Value → sr_H → Prop} (w : sr_wp mX5_uses d iX5_uses_19 19 L st b h P) : sr_Go mX5_uses d 19 L st b h P := sr_wp_go kX5_uses_19 w
def iX5_change_38 : List (Instr × Nat × Nat) := [(.aload_n 0, 39, 0), (.invokevirtual 195, 42, 0), (.aload_n 0, 43, 0), (.getfield 51, 46, 0), (.iconst 0, 47, 0), (.dup2, 48, 0), (.iaload, 49, 0), (.iconst 1, 50, 0), (.iload_n 1, 51, 0), (.ishl, 52, 0), (.ixor, 53, 0), (.iastore, 54, 0), (.aload_n 0, 55, 0), (.getfield 51, 58, 0), (.iconst 0, 59, 0), (.iaload, 60, 0), (.iload_n 1, 61, 0), (.ishr, 62, 0), (.iconst 1, 63, 0), (.iand, 64, 0), (.ireturn, 65, 0)]
def aX5_change_26 : List (Instr × Nat × Nat) := [(.aload_n 0, 27, 0), (.getfield 154, 30, 0), (.bipush 60, 32, 0), (.if_icmp .ne 6, 35, 38), (.bipush (-2), 37, 0), (.ireturn, 38, 0)]
def iX5_change_26 : List (Instr × Nat × Nat) := aX5_change_26 ++ iX5_change_38
def aX5_change_10 : List (Instr × Nat × Nat) := [(.aload_n 0, 11, 0), (.getfield 51, 14, 0), (.iconst 1, 15, 0), (.iaload, 16, 0), (.iload_n 1, 17, 0), (.invokestatic 192, 20, 0), (.ifCond .eq 6, 23, 26), (.bipush (-4), 25, 0), (.ireturn, 26, 0)]
def iX5_change_10 : List (Instr × Nat × Nat) := aX5_change_10 ++ iX5_change_26
def aX5_change_0 : List (Instr × Nat × Nat) := [(.aload_n 0, 1, 0), (.iload_n 1, 2, 0), (.invokevirtual 174, 5, 0), (.ifCond .ne 5, 8, 10), (.iconst (-1), 9, 0), (.ireturn, 10, 0)]
def iX5_change_0 : List (Instr × Nat × Nat) := aX5_change_0 ++ iX5_change_10
theorem kX5_change_0 : sr_is cX5_change 0 iX5_change_0 = true := by decide +kernel
theorem lX5_change_0 {d : Nat} {L : sr_L} {st : List Value} {b : Nat × Nat} {h : sr_H} {P : Option Value → sr_H → Prop} (w : sr_wp mX5_change d iX5_change_0 0 L st b h P) : sr_Go mX5_change d 0 L st b h P := sr_wp_go kX5_change_0 w
theorem kX5_change_10 : sr_is cX5_change 10 iX5_change_10 = true := sr_is_suf (as := aX5_change_0) kX5_change_0
theorem lX5_change_10 {d : Nat} {L : sr_L} {st : List Value} {b : Nat × Nat} {h : sr_H} {P : Option Value → sr_H → Prop} (w : sr_wp mX5_change d iX5_change_10 10 L st b h P) : sr_Go mX5_change d 10 L st b h P := sr_wp_go kX5_change_10 w
theorem kX5_change_26 : sr_is cX5_change 26 iX5_change_26 = true := sr_is_suf (as := aX5_change_10) kX5_change_10
theorem lX5_change_26 {d : Nat} {L : sr_L} {st : List Value} {b : Nat × Nat} {h : sr_H} {P : Option Value → sr_H → Prop} (w : sr_wp mX5_change d iX5_change_26 26 L st b h P) : sr_Go mX5_change d 26 L st b h P := sr_wp_go kX5_change_26 w
theorem kX5_change_38 : sr_is cX5_change 38 iX5_change_38 = true := sr_is_suf (as := aX5_change_26) kX5_change_26
theorem lX5_change_38 {d : Nat} {L : sr_L} {st : List Value} {b : Nat × Nat} {h : sr_H} {P : Option Value → sr_H → Prop} (w : sr_wp mX5_change d iX5_change_38 38 L st b h P) : sr_Go mX5_change d 38 L st b h P := sr_wp_go kX5_change_38 w
def iX5_lock_48 : List (Instr × Nat × Nat) := [(.aload_n 0, 49, 0), (.invokevirtual 195, 52, 0), (.aload_n 0, 53, 0), (.getfield 51, 56, 0), (.iconst 1, 57, 0), (.dup2, 58, 0), (.iaload, 59, 0), (.iconst 1, 60, 0), (.iload_n 1, 61, 0), (.ishl, 62, 0), (.ixor, 63, 0), (.iastore, 64, 0), (.aload_n 0, 65, 0), (.getfield 51, 68, 0), (.iconst 1, 69, 0), (.iaload, 70, 0), (.invokestatic 183, 73, 0), (.ireturn, 74, 0)]
def aX5_lock_36 : List (Instr × Nat × Nat) := [(.aload_n 0, 37, 0), (.getfield 154, 40, 0), (.bipush 60, 42, 0), (.if_icmp .ne 6, 45, 48), (.bipush (-2), 47, 0), (.ireturn, 48, 0)]
def iX5_lock_36 : List (Instr × Nat × Nat) := aX5_lock_36 ++ iX5_lock_48
def aX5_lock_19 : List (Instr × Nat × Nat) := [(.aload_n 0, 20, 0), (.getfield 51, 23, 0), (.iconst 1, 24, 0), (.iaload, 25, 0), (.iload_n 1, 26, 0), (.ishr, 27, 0), (.iconst 1, 28, 0), (.iand, 29, 0), (.iload_n 2, 30, 0), (.if_icmp .ne 6, 33, 36), (.bipush (-4), 35, 0), (.ireturn, 36, 0)]
def iX5_lock_19 : List (Instr × Nat × Nat) := aX5_lock_19 ++ iX5_lock_36
def aX5_lock_17 : List (Instr × Nat × Nat) := [(.iconst (-1), 18, 0), (.ireturn, 19, 0)]
def iX5_lock_17 : List (Instr × Nat × Nat) := aX5_lock_17 ++ iX5_lock_19
def aX5_lock_0 : List (Instr × Nat × Nat) := [(.aload_n 0, 1, 0), (.iload_n 1, 2, 0), (.invokevirtual 174, 5, 0), (.ifCond .eq 12, 8, 17), (.iload_n 2, 9, 0), (.iconst 0, 10, 0), (.iconst 1, 11, 0), (.invokestatic 80, 14, 0), (.ifCond .ne 5, 17, 19)]
def iX5_lock_0 : List (Instr × Nat × Nat) := aX5_lock_0 ++ iX5_lock_17
theorem kX5_lock_0 : sr_is cX5_lock 0 iX5_lock_0 = true := by decide +kernel
theorem lX5_lock_0 {d : Nat} {L : sr_L} {st : List Value} {b : Nat × Nat} {h : sr_H} {P : Option Value → sr_H → Prop} (w : sr_wp mX5_lock d iX5_lock_0 0 L st b h P) : sr_Go mX5_lock d 0 L st b h P := sr_wp_go kX5_lock_0 w
theorem kX5_lock_17 : sr_is cX5_lock 17 iX5_lock_17 = true := sr_is_suf (as := aX5_lock_0) kX5_lock_0
theorem lX5_lock_17 {d : Nat} {L : sr_L} {st : List Value} {b : Nat × Nat} {h : sr_H} {P : Option Value → sr_H → Prop} (w : sr_wp mX5_lock d iX5_lock_17 17 L st b h P) : sr_Go mX5_lock d 17 L st b h P := sr_wp_go kX5_lock_17 w
theorem kX5_lock_19 : sr_is cX5_lock 19 iX5_lock_19 = true := sr_is_suf (as := aX5_lock_17) kX5_lock_17
theorem lX5_lock_19 {d : Nat} {L : sr_L} {st : List Value} {b : Nat × Nat} {h : sr_H} {P : Option Value → sr_H → Prop} (w : sr_wp mX5_lock d iX5_lock_19 19 L st b h P) : sr_Go mX5_lock d 19 L st b h P := sr_wp_go kX5_lock_19 w
theorem kX5_lock_36 : sr_is cX5_lock 36 iX5_lock_36 = true := sr_is_suf (as := aX5_lock_19) kX5_lock_19
theorem lX5_lock_36 {d : Nat} {L : sr_L} {st : List Value} {b : Nat × Nat} {h : sr_H} {P : Option Value → sr_H → Prop} (w : sr_wp mX5_lock d iX5_lock_36 36 L st b h P) : sr_Go mX5_lock d 36 L st b h P := sr_wp_go kX5_lock_36 w
theorem kX5_lock_48 : sr_is cX5_lock 48 iX5_lock_48 = true := sr_is_suf (as := aX5_lock_36) kX5_lock_36
theorem lX5_lock_48 {d : Nat} {L : sr_L} {st : List Value} {b : Nat × Nat} {h : sr_H} {P : Option Value → sr_H → Prop} (w : sr_wp mX5_lock d iX5_lock_48 48 L st b h P) : sr_Go mX5_lock d 48 L st b h P := sr_wp_go kX5_lock_48 w
def iX5_use_22 : List (Instr × Nat × Nat) := [(.aload_n 0, 23, 0), (.invokevirtual 195, 26, 0), (.aload_n 0, 27, 0), (.iload_n 1, 28, 0), (.invokevirtual 198, 31, 0), (.ireturn, 32, 0)]
def aX5_use_10 : List (Instr × Nat × Nat) := [(.aload_n 0, 11, 0), (.getfield 154, 14, 0), (.bipush 60, 16, 0), (.if_icmp .ne 6, 19, 22), (.bipush (-2), 21, 0), (.ireturn, 22, 0)]
def iX5_use_10 : List (Instr × Nat × Nat) := aX5_use_10 ++ iX5_use_22
def aX5_use_0 : List (Instr × Nat × Nat) := [(.aload_n 0, 1, 0), (.iload_n 1, 2, 0), (.invokevirtual 174, 5, 0), (.ifCond .ne 5, 8, 10), (.iconst (-1), 9, 0), (.ireturn, 10, 0)]
def iX5_use_0 : List (Instr × Nat × Nat) := aX5_use_0 ++ iX5_use_10
theorem kX5_use_0 : sr_is cX5_use 0 iX5_use_0 = true := by decide +kernel
theorem lX5_use_0 {d : Nat} {L : sr_L} {st : List Value} {b : Nat × Nat} {h : sr_H} {P : Option Value → sr_H → Prop} (w : sr_wp mX5_use d iX5_use_0 0 L st b h P) : sr_Go mX5_use d 0 L st b h P := sr_wp_go kX5_use_0 w
theorem kX5_use_10 : sr_is cX5_use 10 iX5_use_10 = true := sr_is_suf (as := aX5_use_0) kX5_use_0
theorem lX5_use_10 {d : Nat} {L : sr_L} {st : List Value} {b : Nat × Nat} {h : sr_H} {P : Option Value → sr_H → Prop} (w : sr_wp mX5_use d iX5_use_10 10 L st b h P) : sr_Go mX5_use d 10 L st b h P := sr_wp_go kX5_use_10 w
theorem kX5_use_22 : sr_is cX5_use 22 iX5_use_22 = true := sr_is_suf (as := aX5_use_10) kX5_use_10
theorem lX5_use_22 {d : Nat} {L : sr_L} {st : List Value} {b : Nat × Nat} {h : sr_H} {P : Option Value → sr_H → Prop} (w : sr_wp mX5_use d iX5_use_22 22 L st b h P) : sr_Go mX5_use d 22 L st b h P := sr_wp_go kX5_use_22 w
def iX5_undo_56 : List (Instr × Nat × Nat) := [(.aload_n 0, 57, 0), (.iload_n 1, 58, 0), (.putfield 154, 61, 0), (.iload_n 2, 62, 0), (.ireturn, 63, 0)]
def aX5_undo_23 : List (Instr × Nat × Nat) := [(.iload_n 3, 24, 0), (.bipush 12, 26, 0), (.if_icmp .ge 30, 29, 56), (.iload_n 2, 30, 0), (.ifCond .le 26, 33, 56), (.aload_n 0, 34, 0), (.getfield 51, 37, 0), (.iload_n 3, 38, 0), (.aload_n 0, 39, 0), (.getfield 54, 42, 0), (.bipush 12, 44, 0), (.iload_n 1, 45, 0), (.imul, 46, 0), (.iload_n 3, 47, 0), (.iadd, 48, 0), (.iaload, 49, 0), (.iastore, 50, 0), (.iinc 3 1, 53, 0), (.goto (-30), 56, 23)]
def iX5_undo_23 : List (Instr × Nat × Nat) := aX5_undo_23 ++ iX5_undo_56
def aX5_undo_14 : List (Instr × Nat × Nat) := [(.aload_n 0, 15, 0), (.getfield 154, 18, 0), (.iload_n 1, 19, 0), (.isub, 20, 0), (.istore_n 2, 21, 0), (.iconst 0, 22, 0), (.istore_n 3, 23, 0)]
def iX5_undo_14 : List (Instr × Nat × Nat) := aX5_undo_14 ++ iX5_undo_23
def aX5_undo_0 : List (Instr × Nat × Nat) := [(.iload_n 1, 1, 0), (.iconst 0, 2, 0), (.aload_n 0, 3, 0), (.getfield 154, 6, 0), (.invokestatic 80, 9, 0), (.ifCond .ne 5, 12, 14), (.iconst (-1), 13, 0), (.ireturn, 14, 0)]
def iX5_undo_0 : List (Instr × Nat × Nat) := aX5_undo_0 ++ iX5_undo_14
theorem kX5_undo_0 : sr_is cX5_undo 0 iX5_undo_0 = true := by decide +kernel
theorem lX5_undo_0 {d : Nat} {L : sr_L} {st : List Value} {b : Nat × Nat} {h : sr_H} {P : Option Value → sr_H → Prop} (w : sr_wp mX5_undo d iX5_undo_0 0 L st b h P) : sr_Go mX5_undo d 0 L st b h P := sr_wp_go kX5_undo_0 w
theorem kX5_undo_14 : sr_is cX5_undo 14 iX5_undo_14 = true := sr_is_suf (as := aX5_undo_0) kX5_undo_0
theorem lX5_undo_14 {d : Nat} {L : sr_L} {st : List Value} {b : Nat × Nat} {h : sr_H} {P : Option Value → sr_H → Prop} (w : sr_wp mX5_undo d iX5_undo_14 14 L st b h P) : sr_Go mX5_undo d 14 L st b h P := sr_wp_go kX5_undo_14 w
theorem kX5_undo_23 : sr_is cX5_undo 23 iX5_undo_23 = true := sr_is_suf (as := aX5_undo_14) kX5_undo_14
theorem lX5_undo_23 {d : Nat} {L : sr_L} {st : List Value} {b : Nat × Nat} {h : sr_H} {P : Option Value → sr_H → Prop} (w : sr_wp mX5_undo d iX5_undo_23 23 L st b h P) : sr_Go mX5_undo d 23 L st b h P := sr_wp_go kX5_undo_23 w
theorem kX5_undo_56 : sr_is cX5_undo 56 iX5_undo_56 = true := sr_is_suf (as := aX5_undo_23) kX5_undo_23
theorem lX5_undo_56 {d : Nat} {L : sr_L} {st : List Value} {b : Nat × Nat} {h : sr_H} {P : Option Value → sr_H → Prop} (w : sr_wp mX5_undo d iX5_undo_56 56 L st b h P) : sr_Go mX5_undo d 56 L st b h P := sr_wp_go kX5_undo_56 w
def iX5_keep_135 : List (Instr × Nat × Nat) := [(.aload_n 0, 136, 0), (.getfield 154, 139, 0), (.ireturn, 140, 0)]
def aX5_keep_100 : List (Instr × Nat × Nat) := [(.iload_n 2, 101, 0), (.bipush 12, 103, 0), (.aload_n 0, 104, 0), (.getfield 154, 107, 0), (.imul, 108, 0), (.if_icmp .ge 27, 111, 135), (.aload_n 0, 112, 0), (.getfield 70, 115, 0), (.sipush 720, 118, 0), (.iload_n 1, 119, 0), (.imul, 120, 0), (.iload_n 2, 121, 0), (.iadd, 122, 0), (.aload_n 0, 123, 0), (.getfield 54, 126, 0), (.iload_n 2, 127, 0), (.iaload, 128, 0), (.iastore, 129, 0), (.iinc 2 1, 132, 0), (.goto (-32), 135, 100)]
def iX5_keep_100 : List (Instr × Nat × Nat) := aX5_keep_100 ++ iX5_keep_135
def aX5_keep_98 : List (Instr × Nat × Nat) := [(.iconst 0, 99, 0), (.istore_n 2, 100, 0)]
def iX5_keep_98 : List (Instr × Nat × Nat) := aX5_keep_98 ++ iX5_keep_100
def aX5_keep_69 : List (Instr × Nat × Nat) := [(.iload_n 2, 70, 0), (.bipush 12, 72, 0), (.if_icmp .ge 26, 75, 98), (.aload_n 0, 76, 0), (.getfield 67, 79, 0), (.bipush 12, 81, 0), (.iload_n 1, 82, 0), (.imul, 83, 0), (.iload_n 2, 84, 0), (.iadd, 85, 0), (.aload_n 0, 86, 0), (.getfield 51, 89, 0), (.iload_n 2, 90, 0), (.iaload, 91, 0), (.iastore, 92, 0), (.iinc 2 1, 95, 0), (.goto (-26), 98, 69)]
def iX5_keep_69 : List (Instr × Nat × Nat) := aX5_keep_69 ++ iX5_keep_98
def aX5_keep_67 : List (Instr × Nat × Nat) := [(.iconst 0, 68, 0), (.istore_n 2, 69, 0)]
def iX5_keep_67 : List (Instr × Nat × Nat) := aX5_keep_67 ++ iX5_keep_69
def aX5_keep_40 : List (Instr × Nat × Nat) := [(.iload_n 2, 41, 0), (.iconst 5, 42, 0), (.if_icmp .ge 25, 45, 67), (.aload_n 0, 46, 0), (.getfield 64, 49, 0), (.iconst 5, 50, 0), (.iload_n 1, 51, 0), (.imul, 52, 0), (.iload_n 2, 53, 0), (.iadd, 54, 0), (.aload_n 0, 55, 0), (.getfield 39, 58, 0), (.iload_n 2, 59, 0), (.iaload, 60, 0), (.iastore, 61, 0), (.iinc 2 1, 64, 0), (.goto (-24), 67, 40)]
def iX5_keep_40 : List (Instr × Nat × Nat) := aX5_keep_40 ++ iX5_keep_67
def aX5_keep_21 : List (Instr × Nat × Nat) := [(.aload_n 0, 22, 0), (.getfield 57, 25, 0), (.iload_n 1, 26, 0), (.iconst 1, 27, 0), (.bastore, 28, 0), (.aload_n 0, 29, 0), (.getfield 61, 32, 0), (.iload_n 1, 33, 0), (.aload_n 0, 34, 0), (.getfield 154, 37, 0), (.iastore, 38, 0), (.iconst 0, 39, 0), (.istore_n 2, 40, 0)]
def iX5_keep_21 : List (Instr × Nat × Nat) := aX5_keep_21 ++ iX5_keep_40
def aX5_keep_11 : List (Instr × Nat × Nat) := [(.aload_n 0, 12, 0), (.getfield 145, 15, 0), (.ifCond .ne 6, 18, 21), (.bipush (-4), 20, 0), (.ireturn, 21, 0)]
def iX5_keep_11 : List (Instr × Nat × Nat) := aX5_keep_11 ++ iX5_keep_21
def aX5_keep_0 : List (Instr × Nat × Nat) := [(.iload_n 1, 1, 0), (.iconst 0, 2, 0), (.iconst 2, 3, 0), (.invokestatic 80, 6, 0), (.ifCond .ne 5, 9, 11), (.iconst (-1), 10, 0), (.ireturn, 11, 0)]
def iX5_keep_0 : List (Instr × Nat × Nat) := aX5_keep_0 ++ iX5_keep_11
theorem kX5_keep_0 : sr_is cX5_keep 0 iX5_keep_0 = true := by decide +kernel
theorem lX5_keep_0 {d : Nat} {L : sr_L} {st : List Value} {b : Nat × Nat} {h : sr_H} {P : Option Value → sr_H → Prop} (w : sr_wp mX5_keep d iX5_keep_0 0 L st b h P) : sr_Go mX5_keep d 0 L st b h P := sr_wp_go kX5_keep_0 w
theorem kX5_keep_11 : sr_is cX5_keep 11 iX5_keep_11 = true := sr_is_suf (as := aX5_keep_0) kX5_keep_0
theorem lX5_keep_11 {d : Nat} {L : sr_L} {st : List Value} {b : Nat × Nat} {h : sr_H} {P : Option Value → sr_H → Prop} (w : sr_wp mX5_keep d iX5_keep_11 11 L st b h P) : sr_Go mX5_keep d 11 L st b h P := sr_wp_go kX5_keep_11 w
theorem kX5_keep_21 : sr_is cX5_keep 21 iX5_keep_21 = true := sr_is_suf (as := aX5_keep_11) kX5_keep_11
theorem lX5_keep_21 {d : Nat} {L : sr_L} {st : List Value} {b : Nat × Nat} {h : sr_H} {P : Option Value → sr_H → Prop} (w : sr_wp mX5_keep d iX5_keep_21 21 L st b h P) : sr_Go mX5_keep d 21 L st b h P := sr_wp_go kX5_keep_21 w
theorem kX5_keep_40 : sr_is cX5_keep 40 iX5_keep_40 = true := sr_is_suf (as := aX5_keep_21) kX5_keep_21
theorem lX5_keep_40 {d : Nat} {L : sr_L} {st : List Value} {b : Nat × Nat} {h : sr_H} {P : Option Value → sr_H → Prop} (w : sr_wp mX5_keep d iX5_keep_40 40 L st b h P) : sr_Go mX5_keep d 40 L st b h P := sr_wp_go kX5_keep_40 w
theorem kX5_keep_67 : sr_is cX5_keep 67 iX5_keep_67 = true := sr_is_suf (as := aX5_keep_40) kX5_keep_40
theorem lX5_keep_67 {d : Nat} {L : sr_L} {st : List Value} {b : Nat × Nat} {h : sr_H} {P : Option Value → sr_H → Prop} (w : sr_wp mX5_keep d iX5_keep_67 67 L st b h P) : sr_Go mX5_keep d 67 L st b h P := sr_wp_go kX5_keep_67 w
theorem kX5_keep_69 : sr_is cX5_keep 69 iX5_keep_69 = true := sr_is_suf (as := aX5_keep_67) kX5_keep_67
theorem lX5_keep_69 {d : Nat} {L : sr_L} {st : List Value} {b : Nat × Nat} {h : sr_H} {P : Option Value → sr_H → Prop} (w : sr_wp mX5_keep d iX5_keep_69 69 L st b h P) : sr_Go mX5_keep d 69 L st b h P := sr_wp_go kX5_keep_69 w
theorem kX5_keep_98 : sr_is cX5_keep 98 iX5_keep_98 = true := sr_is_suf (as := aX5_keep_69) kX5_keep_69
theorem lX5_keep_98 {d : Nat} {L : sr_L} {st : List Value} {b : Nat × Nat} {h : sr_H} {P : Option Value → sr_H → Prop} (w : sr_wp mX5_keep d iX5_keep_98 98 L st b h P) : sr_Go mX5_keep d 98 L st b h P := sr_wp_go kX5_keep_98 w
theorem kX5_keep_100 : sr_is cX5_keep 100 iX5_keep_100 = true := sr_is_suf (as := aX5_keep_98) kX5_keep_98
theorem lX5_keep_100 {d : Nat} {L : sr_L} {st : List Value} {b : Nat × Nat} {h : sr_H} {P : Option Value → sr_H → Prop} (w : sr_wp mX5_keep d iX5_keep_100 100 L st b h P) : sr_Go mX5_keep d 100 L st b h P := sr_wp_go kX5_keep_100 w
theorem kX5_keep_135 : sr_is cX5_keep 135 iX5_keep_135 = true := sr_is_suf (as := aX5_keep_100) kX5_keep_100
theorem lX5_keep_135 {d : Nat} {L : sr_L} {st : List Value} {b : Nat × Nat} {h : sr_H} {P : Option Value → sr_H → Prop} (w : sr_wp mX5_keep d iX5_keep_135 135 L st b h P) : sr_Go mX5_keep d 135 L st b h P := sr_wp_go kX5_keep_135 w
def iX5_on_133 : List (Instr × Nat × Nat) := [(.aload_n 0, 134, 0), (.getfield 154, 137, 0), (.ireturn, 138, 0)]
def aX5_on_98 : List (Instr × Nat × Nat) := [(.iload_n 2, 99, 0), (.bipush 12, 101, 0), (.aload_n 0, 102, 0), (.getfield 154, 105, 0), (.imul, 106, 0), (.if_icmp .ge 27, 109, 133), (.aload_n 0, 110, 0), (.getfield 54, 113, 0), (.iload_n 2, 114, 0), (.aload_n 0, 115, 0), (.getfield 70, 118, 0), (.sipush 720, 121, 0), (.iload_n 1, 122, 0), (.imul, 123, 0), (.iload_n 2, 124, 0), (.iadd, 125, 0), (.iaload, 126, 0), (.iastore, 127, 0), (.iinc 2 1, 130, 0), (.goto (-32), 133, 98)]
def iX5_on_98 : List (Instr × Nat × Nat) := aX5_on_98 ++ iX5_on_133
def aX5_on_96 : List (Instr × Nat × Nat) := [(.iconst 0, 97, 0), (.istore_n 2, 98, 0)]
def iX5_on_96 : List (Instr × Nat × Nat) := aX5_on_96 ++ iX5_on_98
def aX5_on_67 : List (Instr × Nat × Nat) := [(.iload_n 2, 68, 0), (.bipush 12, 70, 0), (.if_icmp .ge 26, 73, 96), (.aload_n 0, 74, 0), (.getfield 51, 77, 0), (.iload_n 2, 78, 0), (.aload_n 0, 79, 0), (.getfield 67, 82, 0), (.bipush 12, 84, 0), (.iload_n 1, 85, 0), (.imul, 86, 0), (.iload_n 2, 87, 0), (.iadd, 88, 0), (.iaload, 89, 0), (.iastore, 90, 0), (.iinc 2 1, 93, 0), (.goto (-26), 96, 67)]
def iX5_on_67 : List (Instr × Nat × Nat) := aX5_on_67 ++ iX5_on_96
def aX5_on_65 : List (Instr × Nat × Nat) := [(.iconst 0, 66, 0), (.istore_n 2, 67, 0)]
def iX5_on_65 : List (Instr × Nat × Nat) := aX5_on_65 ++ iX5_on_67
def aX5_on_38 : List (Instr × Nat × Nat) := [(.iload_n 2, 39, 0), (.iconst 5, 40, 0), (.if_icmp .ge 25, 43, 65), (.aload_n 0, 44, 0), (.getfield 39, 47, 0), (.iload_n 2, 48, 0), (.aload_n 0, 49, 0), (.getfield 64, 52, 0), (.iconst 5, 53, 0), (.iload_n 1, 54, 0), (.imul, 55, 0), (.iload_n 2, 56, 0), (.iadd, 57, 0), (.iaload, 58, 0), (.iastore, 59, 0), (.iinc 2 1, 62, 0), (.goto (-24), 65, 38)]
def iX5_on_38 : List (Instr × Nat × Nat) := aX5_on_38 ++ iX5_on_65
def aX5_on_26 : List (Instr × Nat × Nat) := [(.aload_n 0, 27, 0), (.aload_n 0, 28, 0), (.getfield 61, 31, 0), (.iload_n 1, 32, 0), (.iaload, 33, 0), (.putfield 154, 36, 0), (.iconst 0, 37, 0), (.istore_n 2, 38, 0)]
def iX5_on_26 : List (Instr × Nat × Nat) := aX5_on_26 ++ iX5_on_38
def aX5_on_11 : List (Instr × Nat × Nat) := [(.aload_n 0, 12, 0), (.getfield 57, 15, 0), (.iload_n 1, 16, 0), (.baload, 17, 0), (.ifCond .ne 9, 20, 26), (.aload_n 0, 21, 0), (.iconst 1, 22, 0), (.invokevirtual 94, 25, 0), (.ireturn, 26, 0)]
def iX5_on_11 : List (Instr × Nat × Nat) := aX5_on_11 ++ iX5_on_26
def aX5_on_0 : List (Instr × Nat × Nat) := [(.iload_n 1, 1, 0), (.iconst 0, 2, 0), (.iconst 2, 3, 0), (.invokestatic 80, 6, 0), (.ifCond .ne 5, 9, 11), (.iconst (-1), 10, 0), (.ireturn, 11, 0)]
def iX5_on_0 : List (Instr × Nat × Nat) := aX5_on_0 ++ iX5_on_11
theorem kX5_on_0 : sr_is cX5_on 0 iX5_on_0 = true := by decide +kernel
theorem lX5_on_0 {d : Nat} {L : sr_L} {st : List Value} {b : Nat × Nat} {h : sr_H} {P : Option Value → sr_H → Prop} (w : sr_wp mX5_on d iX5_on_0 0 L st b h P) : sr_Go mX5_on d 0 L st b h P := sr_wp_go kX5_on_0 w
theorem kX5_on_11 : sr_is cX5_on 11 iX5_on_11 = true := sr_is_suf (as := aX5_on_0) kX5_on_0
theorem lX5_on_11 {d : Nat} {L : sr_L} {st : List Value} {b : Nat × Nat} {h : sr_H} {P : Option Value → sr_H → Prop} (w : sr_wp mX5_on d iX5_on_11 11 L st b h P) : sr_Go mX5_on d 11 L st b h P := sr_wp_go kX5_on_11 w
theorem kX5_on_26 : sr_is cX5_on 26 iX5_on_26 = true := sr_is_suf (as := aX5_on_11) kX5_on_11
theorem lX5_on_26 {d : Nat} {L : sr_L} {st : List Value} {b : Nat × Nat} {h : sr_H} {P : Option Value → sr_H → Prop} (w : sr_wp mX5_on d iX5_on_26 26 L st b h P) : sr_Go mX5_on d 26 L st b h P := sr_wp_go kX5_on_26 w
theorem kX5_on_38 : sr_is cX5_on 38 iX5_on_38 = true := sr_is_suf (as := aX5_on_26) kX5_on_26
theorem lX5_on_38 {d : Nat} {L : sr_L} {st : List Value} {b : Nat × Nat} {h : sr_H} {P : Option Value → sr_H → Prop} (w : sr_wp mX5_on d iX5_on_38 38 L st b h P) : sr_Go mX5_on d 38 L st b h P := sr_wp_go kX5_on_38 w
theorem kX5_on_65 : sr_is cX5_on 65 iX5_on_65 = true := sr_is_suf (as := aX5_on_38) kX5_on_38
theorem lX5_on_65 {d : Nat} {L : sr_L} {st : List Value} {b : Nat × Nat} {h : sr_H} {P : Option Value → sr_H → Prop} (w : sr_wp mX5_on d iX5_on_65 65 L st b h P) : sr_Go mX5_on d 65 L st b h P := sr_wp_go kX5_on_65 w
theorem kX5_on_67 : sr_is cX5_on 67 iX5_on_67 = true := sr_is_suf (as := aX5_on_65) kX5_on_65
theorem lX5_on_67 {d : Nat} {L : sr_L} {st : List Value} {b : Nat × Nat} {h : sr_H} {P : Option Value → sr_H → Prop} (w : sr_wp mX5_on d iX5_on_67 67 L st b h P) : sr_Go mX5_on d 67 L st b h P := sr_wp_go kX5_on_67 w
theorem kX5_on_96 : sr_is cX5_on 96 iX5_on_96 = true := sr_is_suf (as := aX5_on_67) kX5_on_67
theorem lX5_on_96 {d : Nat} {L : sr_L} {st : List Value} {b : Nat × Nat} {h : sr_H} {P : Option Value → sr_H → Prop} (w : sr_wp mX5_on d iX5_on_96 96 L st b h P) : sr_Go mX5_on d 96 L st b h P := sr_wp_go kX5_on_96 w
theorem kX5_on_98 : sr_is cX5_on 98 iX5_on_98 = true := sr_is_suf (as := aX5_on_96) kX5_on_96
theorem lX5_on_98 {d : Nat} {L : sr_L} {st : List Value} {b : Nat × Nat} {h : sr_H} {P : Option Value → sr_H → Prop} (w : sr_wp mX5_on d iX5_on_98 98 L st b h P) : sr_Go mX5_on d 98 L st b h P := sr_wp_go kX5_on_98 w
theorem kX5_on_133 : sr_is cX5_on 133 iX5_on_133 = true := sr_is_suf (as := aX5_on_98) kX5_on_98
theorem lX5_on_133 {d : Nat} {L : sr_L} {st : List Value} {b : Nat × Nat} {h : sr_H} {P : Option Value → sr_H → Prop} (w : sr_wp mX5_on d iX5_on_133 133 L st b h P) : sr_Go mX5_on d 133 L st b h P := sr_wp_go kX5_on_133 w
def iX5_roomOf_19 : List (Instr × Nat × Nat) := [(.invokevirtual 189, 22, 0), (.ireturn, 23, 0)]
def aX5_roomOf_14 : List (Instr × Nat × Nat) := [(.aload_n 0, 15, 0), (.iload_n 1, 16, 0), (.invokevirtual 171, 19, 0)]
def iX5_roomOf_14 : List (Instr × Nat × Nat) := aX5_roomOf_14 ++ iX5_roomOf_19
def aX5_roomOf_0 : List (Instr × Nat × Nat) := [(.aload_n 0, 1, 0), (.iload_n 2, 2, 0), (.ifCond .ne 12, 5, 14), (.aload_n 0, 6, 0), (.getfield 36, 9, 0), (.iload_n 1, 10, 0), (.iaload, 11, 0), (.goto 8, 14, 19)]
def iX5_roomOf_0 : List (Instr × Nat × Nat) := aX5_roomOf_0 ++ iX5_roomOf_14
theorem kX5_roomOf_0 : sr_is cX5_roomOf 0 iX5_roomOf_0 = true := by decide +kernel
theorem lX5_roomOf_0 {d : Nat} {L : sr_L} {st : List Value} {b : Nat × Nat} {h : sr_H} {P : Option Value → sr_H → Prop} (w : sr_wp mX5_roomOf d iX5_roomOf_0 0 L st b h P) : sr_Go mX5_roomOf d 0 L st b h P := sr_wp_go kX5_roomOf_0 w
theorem kX5_roomOf_14 : sr_is cX5_roomOf 14 iX5_roomOf_14 = true := sr_is_suf (as := aX5_roomOf_0) kX5_roomOf_0
theorem lX5_roomOf_14 {d : Nat} {L : sr_L} {st : List Value} {b : Nat × Nat} {h : sr_H} {P : Option Value → sr_H → Prop} (w : sr_wp mX5_roomOf d iX5_roomOf_14 14 L st b h P) : sr_Go mX5_roomOf d 14 L st b h P := sr_wp_go kX5_roomOf_14 w
theorem kX5_roomOf_19 : sr_is cX5_roomOf 19 iX5_roomOf_19 = true := sr_is_suf (as := aX5_roomOf_14) kX5_roomOf_14
theorem lX5_roomOf_19 {d : Nat} {L : sr_L} {st : List Value} {b : Nat × Nat} {h : sr_H} {P : Option Value → sr_H → Prop} (w : sr_wp mX5_roomOf d iX5_roomOf_19 19 L st b h P) : sr_Go mX5_roomOf d 19 L st b h P := sr_wp_go kX5_roomOf_19 w
def iX5_things_27 : List (Instr × Nat × Nat) := [(.ireturn, 28, 0)]
def aX5_things_26 : List (Instr × Nat × Nat) := [(.iconst (-1), 27, 0)]
def iX5_things_26 : List (Instr × Nat × Nat) := aX5_things_26 ++ iX5_things_27
def aX5_things_0 : List (Instr × Nat × Nat) := [(.aload_n 0, 1, 0), (.iload_n 1, 2, 0), (.invokevirtual 174, 5, 0), (.ifCond .eq 21, 8, 26), (.iload_n 2, 9, 0), (.iconst 0, 10, 0), (.iconst 1, 11, 0), (.invokestatic 80, 14, 0), (.ifCond .eq 12, 17, 26), (.aload_n 0, 18, 0), (.iload_n 1, 19, 0), (.iload_n 2, 20, 0), (.invokevirtual 201, 23, 0), (.goto 4, 26, 27)]
def iX5_things_0 : List (Instr × Nat × Nat) := aX5_things_0 ++ iX5_things_26
theorem kX5_things_0 : sr_is cX5_things 0 iX5_things_0 = true := by decide +kernel
theorem lX5_things_0 {d : Nat} {L : sr_L} {st : List Value} {b : Nat × Nat} {h : sr_H} {P : Option Value → sr_H → Prop} (w : sr_wp mX5_things d iX5_things_0 0 L st b h P) : sr_Go mX5_things d 0 L st b h P := sr_wp_go kX5_things_0 w
theorem kX5_things_26 : sr_is cX5_things 26 iX5_things_26 = true := sr_is_suf (as := aX5_things_0) kX5_things_0
theorem lX5_things_26 {d : Nat} {L : sr_L} {st : List Value} {b : Nat × Nat} {h : sr_H} {P : Option Value → sr_H → Prop} (w : sr_wp mX5_things d iX5_things_26 26 L st b h P) : sr_Go mX5_things d 26 L st b h P := sr_wp_go kX5_things_26 w
theorem kX5_things_27 : sr_is cX5_things 27 iX5_things_27 = true := sr_is_suf (as := aX5_things_26) kX5_things_26
theorem lX5_things_27 {d : Nat} {L : sr_L} {st : List Value} {b : Nat × Nat} {h : sr_H} {P : Option Value → sr_H → Prop} (w : sr_wp mX5_things d iX5_things_27 27 L st b h P) : sr_Go mX5_things d 27 L st b h P := sr_wp_go kX5_things_27 w
def iX5_both_10 : List (Instr × Nat × Nat) := [(.aload_n 0, 11, 0), (.iload_n 1, 12, 0), (.iconst 0, 13, 0), (.invokevirtual 201, 16, 0), (.istore_n 2, 17, 0), (.aload_n 0, 18, 0), (.iload_n 1, 19, 0), (.iconst 1, 20, 0), (.invokevirtual 201, 23, 0), (.istore_n 3, 24, 0), (.aload_n 0, 25, 0), (.iload_n 2, 26, 0), (.iload_n 3, 27, 0), (.ixor, 28, 0), (.iload_n 2, 29, 0), (.iload_n 3, 30, 0), (.iand, 31, 0), (.invokevirtual 102, 34, 0), (.ireturn, 35, 0)]
def aX5_both_0 : List (Instr × Nat × Nat) := [(.aload_n 0, 1, 0), (.iload_n 1, 2, 0), (.invokevirtual 174, 5, 0), (.ifCond .ne 5, 8, 10), (.iconst (-1), 9, 0), (.ireturn, 10, 0)]
def iX5_both_0 : List (Instr × Nat × Nat) := aX5_both_0 ++ iX5_both_10
theorem kX5_both_0 : sr_is cX5_both 0 iX5_both_0 = true := by decide +kernel
theorem lX5_both_0 {d : Nat} {L : sr_L} {st : List Value} {b : Nat × Nat} {h : sr_H} {P : Option Value → sr_H → Prop} (w : sr_wp mX5_both d iX5_both_0 0 L st b h P) : sr_Go mX5_both d 0 L st b h P := sr_wp_go kX5_both_0 w
theorem kX5_both_10 : sr_is cX5_both 10 iX5_both_10 = true := sr_is_suf (as := aX5_both_0) kX5_both_0
theorem lX5_both_10 {d : Nat} {L : sr_L} {st : List Value} {b : Nat × Nat} {h : sr_H} {P : Option Value → sr_H → Prop} (w : sr_wp mX5_both d iX5_both_10 10 L st b h P) : sr_Go mX5_both d 10 L st b h P := sr_wp_go kX5_both_10 w
def iX5_lowest_30 : List (Instr × Nat × Nat) := [(.ireturn, 31, 0)]
def aX5_lowest_29 : List (Instr × Nat × Nat) := [(.iload_n 1, 30, 0)]
def iX5_lowest_29 : List (Instr × Nat × Nat) := aX5_lowest_29 ++ iX5_lowest_30
def aX5_lowest_20 : List (Instr × Nat × Nat) := [(.iload_n 0, 21, 0), (.ifCond .ne 8, 24, 29), (.bipush (-9), 26, 0), (.goto 4, 29, 30)]
def iX5_lowest_20 : List (Instr × Nat × Nat) := aX5_lowest_20 ++ iX5_lowest_29
def aX5_lowest_2 : List (Instr × Nat × Nat) := [(.iload_n 0, 3, 0), (.ifCond .eq 17, 6, 20), (.iload_n 0, 7, 0), (.iload_n 1, 8, 0), (.invokestatic 192, 11, 0), (.ifCond .ne 9, 14, 20), (.iinc 1 1, 17, 0), (.goto (-15), 20, 2)]
def iX5_lowest_2 : List (Instr × Nat × Nat) := aX5_lowest_2 ++ iX5_lowest_20
def aX5_lowest_0 : List (Instr × Nat × Nat) := [(.iconst 0, 1, 0), (.istore_n 1, 2, 0)]
def iX5_lowest_0 : List (Instr × Nat × Nat) := aX5_lowest_0 ++ iX5_lowest_2
theorem kX5_lowest_0 : sr_is cX5_lowest 0 iX5_lowest_0 = true := by decide +kernel
theorem lX5_lowest_0 {d : Nat} {L : sr_L} {st : List Value} {b : Nat × Nat} {h : sr_H} {P : Option Value → sr_H → Prop} (w : sr_wp mX5_lowest d iX5_lowest_0 0 L st b h P) : sr_Go mX5_lowest d 0 L st b h P := sr_wp_go kX5_lowest_0 w
theorem kX5_lowest_2 : sr_is cX5_lowest 2 iX5_lowest_2 = true := sr_is_suf (as := aX5_lowest_0) kX5_lowest_0
theorem lX5_lowest_2 {d : Nat} {L : sr_L} {st : List Value} {b : Nat × Nat} {h : sr_H} {P : Option Value → sr_H → Prop} (w : sr_wp mX5_lowest d iX5_lowest_2 2 L st b h P) : sr_Go mX5_lowest d 2 L st b h P := sr_wp_go kX5_lowest_2 w
theorem kX5_lowest_20 : sr_is cX5_lowest 20 iX5_lowest_20 = true := sr_is_suf (as := aX5_lowest_2) kX5_lowest_2
theorem lX5_lowest_20 {d : Nat} {L : sr_L} {st : List Value} {b : Nat × Nat} {h : sr_H} {P : Option Value → sr_H → Prop} (w : sr_wp mX5_lowest d iX5_lowest_20 20 L st b h P) : sr_Go mX5_lowest d 20 L st b h P := sr_wp_go kX5_lowest_20 w
theorem kX5_lowest_29 : sr_is cX5_lowest 29 iX5_lowest_29 = true := sr_is_suf (as := aX5_lowest_20) kX5_lowest_20
theorem lX5_lowest_29 {d : Nat} {L : sr_L} {st : List Value} {b : Nat × Nat} {h : sr_H} {P : Option Value → sr_H → Prop} (w : sr_wp mX5_lowest d iX5_lowest_29 29 L st b h P) : sr_Go mX5_lowest d 29 L st b h P := sr_wp_go kX5_lowest_29 w
theorem kX5_lowest_30 : sr_is cX5_lowest 30 iX5_lowest_30 = true := sr_is_suf (as := aX5_lowest_29) kX5_lowest_29
theorem lX5_lowest_30 {d : Nat} {L : sr_L} {st : List Value} {b : Nat × Nat} {h : sr_H} {P : Option Value → sr_H → Prop} (w : sr_wp mX5_lowest d iX5_lowest_30 30 L st b h P) : sr_Go mX5_lowest d 30 L st b h P := sr_wp_go kX5_lowest_30 w
def iX5_apart_10 : List (Instr × Nat × Nat) := [(.aload_n 0, 11, 0), (.getfield 36, 14, 0), (.iload_n 1, 15, 0), (.iaload, 16, 0), (.aload_n 0, 17, 0), (.iload_n 1, 18, 0), (.invokevirtual 171, 21, 0), (.ixor, 22, 0), (.istore_n 2, 23, 0), (.aload_n 0, 24, 0), (.iload_n 2, 25, 0), (.invokestatic 204, 28, 0), (.iload_n 2, 29, 0), (.invokestatic 183, 32, 0), (.invokevirtual 102, 35, 0), (.ireturn, 36, 0)]
def aX5_apart_0 : List (Instr × Nat × Nat) := [(.aload_n 0, 1, 0), (.iload_n 1, 2, 0), (.invokevirtual 174, 5, 0), (.ifCond .ne 5, 8, 10), (.iconst (-1), 9, 0), (.ireturn, 10, 0)]
def iX5_apart_0 : List (Instr × Nat × Nat) := aX5_apart_0 ++ iX5_apart_10
theorem kX5_apart_0 : sr_is cX5_apart 0 iX5_apart_0 = true := by decide +kernel
theorem lX5_apart_0 {d : Nat} {L : sr_L} {st : List Value} {b : Nat × Nat} {h : sr_H} {P : Option Value → sr_H → Prop} (w : sr_wp mX5_apart d iX5_apart_0 0 L st b h P) : sr_Go mX5_apart d 0 L st b h P := sr_wp_go kX5_apart_0 w
theorem kX5_apart_10 : sr_is cX5_apart 10 iX5_apart_10 = true := sr_is_suf (as := aX5_apart_0) kX5_apart_0
theorem lX5_apart_10 {d : Nat} {L : sr_L} {st : List Value} {b : Nat × Nat} {h : sr_H} {P : Option Value → sr_H → Prop} (w : sr_wp mX5_apart d iX5_apart_10 10 L st b h P) : sr_Go mX5_apart d 10 L st b h P := sr_wp_go kX5_apart_10 w
def iX5_has_33 : List (Instr × Nat × Nat) := [(.ireturn, 34, 0)]
def aX5_has_32 : List (Instr × Nat × Nat) := [(.iconst (-1), 33, 0)]
def iX5_has_32 : List (Instr × Nat × Nat) := aX5_has_32 ++ iX5_has_33
def aX5_has_10 : List (Instr × Nat × Nat) := [(.iload_n 1, 11, 0), (.iconst 0, 12, 0), (.aload_n 0, 13, 0), (.invokevirtual 157, 16, 0), (.iconst 1, 17, 0), (.isub, 18, 0), (.invokestatic 80, 21, 0), (.ifCond .eq 11, 24, 32), (.aload_n 0, 25, 0), (.iload_n 1, 26, 0), (.invokevirtual 189, 29, 0), (.goto 4, 32, 33)]
def iX5_has_10 : List (Instr × Nat × Nat) := aX5_has_10 ++ iX5_has_32
def aX5_has_0 : List (Instr × Nat × Nat) := [(.aload_n 0, 1, 0), (.getfield 145, 4, 0), (.ifCond .ne 6, 7, 10), (.bipush (-4), 9, 0), (.ireturn, 10, 0)]
def iX5_has_0 : List (Instr × Nat × Nat) := aX5_has_0 ++ iX5_has_10
theorem kX5_has_0 : sr_is cX5_has 0 iX5_has_0 = true := by decide +kernel
theorem lX5_has_0 {d : Nat} {L : sr_L} {st : List Value} {b : Nat × Nat} {h : sr_H} {P : Option Value → sr_H → Prop} (w : sr_wp mX5_has d iX5_has_0 0 L st b h P) : sr_Go mX5_has d 0 L st b h P := sr_wp_go kX5_has_0 w
theorem kX5_has_10 : sr_is cX5_has 10 iX5_has_10 = true := sr_is_suf (as := aX5_has_0) kX5_has_0
theorem lX5_has_10 {d : Nat} {L : sr_L} {st : List Value} {b : Nat × Nat} {h : sr_H} {P : Option Value → sr_H → Prop} (w : sr_wp mX5_has d iX5_has_10 10 L st b h P) : sr_Go mX5_has d 10 L st b h P := sr_wp_go kX5_has_10 w
theorem kX5_has_32 : sr_is cX5_has 32 iX5_has_32 = true := sr_is_suf (as := aX5_has_10) kX5_has_10
theorem lX5_has_32 {d : Nat} {L : sr_L} {st : List Value} {b : Nat × Nat} {h : sr_H} {P : Option Value → sr_H → Prop} (w : sr_wp mX5_has d iX5_has_32 32 L st b h P) : sr_Go mX5_has d 32 L st b h P := sr_wp_go kX5_has_32 w
theorem kX5_has_33 : sr_is cX5_has 33 iX5_has_33 = true := sr_is_suf (as := aX5_has_32) kX5_has_32
theorem lX5_has_33 {d : Nat} {L : sr_L} {st : List Value} {b : Nat × Nat} {h : sr_H} {P : Option Value → sr_H → Prop} (w : sr_wp mX5_has d iX5_has_33 33 L st b h P) : sr_Go mX5_has d 33 L st b h P := sr_wp_go kX5_has_33 w
def iX5_fits_64 : List (Instr × Nat × Nat) := [(.iload_n 3, 65, 0), (.ireturn, 66, 0)]
def aX5_fits_56 : List (Instr × Nat × Nat) := [(.ior, 57, 0), (.istore_n 3, 58, 0), (.iinc 4 1, 61, 0), (.goto (-38), 64, 23)]
def iX5_fits_56 : List (Instr × Nat × Nat) := aX5_fits_56 ++ iX5_fits_64
def aX5_fits_55 : List (Instr × Nat × Nat) := [(.iconst 0, 56, 0)]
def iX5_fits_55 : List (Instr × Nat × Nat) := aX5_fits_55 ++ iX5_fits_56
def aX5_fits_23 : List (Instr × Nat × Nat) := [(.iload 4, 25, 0), (.aload_n 0, 26, 0), (.getfield 148, 29, 0), (.if_icmp .ge 35, 32, 64), (.iload_n 3, 33, 0), (.aload_n 0, 34, 0), (.aload_n 0, 35, 0), (.iload_n 1, 36, 0), (.iload 4, 38, 0), (.invokevirtual 164, 41, 0), (.invokevirtual 189, 44, 0), (.iload_n 2, 45, 0), (.if_icmp .ne 10, 48, 55), (.iconst 1, 49, 0), (.iload 4, 51, 0), (.ishl, 52, 0), (.goto 4, 55, 56)]
def iX5_fits_23 : List (Instr × Nat × Nat) := aX5_fits_23 ++ iX5_fits_55
def aX5_fits_18 : List (Instr × Nat × Nat) := [(.iconst 0, 19, 0), (.istore_n 3, 20, 0), (.iconst 0, 21, 0), (.istore 4, 23, 0)]
def iX5_fits_18 : List (Instr × Nat × Nat) := aX5_fits_18 ++ iX5_fits_23
def aX5_fits_16 : List (Instr × Nat × Nat) := [(.iconst (-1), 17, 0), (.ireturn, 18, 0)]
def iX5_fits_16 : List (Instr × Nat × Nat) := aX5_fits_16 ++ iX5_fits_18
def aX5_fits_0 : List (Instr × Nat × Nat) := [(.aload_n 0, 1, 0), (.iload_n 1, 2, 0), (.invokevirtual 174, 5, 0), (.ifCond .eq 11, 8, 16), (.aload_n 0, 9, 0), (.iload_n 2, 10, 0), (.invokevirtual 207, 13, 0), (.ifCond .ne 5, 16, 18)]
def iX5_fits_0 : List (Instr × Nat × Nat) := aX5_fits_0 ++ iX5_fits_16
theorem kX5_fits_0 : sr_is cX5_fits 0 iX5_fits_0 = true := by decide +kernel
theorem lX5_fits_0 {d : Nat} {L : sr_L} {st : List Value} {b : Nat × Nat} {h : sr_H} {P : Option Value → sr_H → Prop} (w : sr_wp mX5_fits d iX5_fits_0 0 L st b h P) : sr_Go mX5_fits d 0 L st b h P := sr_wp_go kX5_fits_0 w
theorem kX5_fits_16 : sr_is cX5_fits 16 iX5_fits_16 = true := sr_is_suf (as := aX5_fits_0) kX5_fits_0
theorem lX5_fits_16 {d : Nat} {L : sr_L} {st : List Value} {b : Nat × Nat} {h : sr_H} {P : Option Value → sr_H → Prop} (w : sr_wp mX5_fits d iX5_fits_16 16 L st b h P) : sr_Go mX5_fits d 16 L st b h P := sr_wp_go kX5_fits_16 w
theorem kX5_fits_18 : sr_is cX5_fits 18 iX5_fits_18 = true := sr_is_suf (as := aX5_fits_16) kX5_fits_16
theorem lX5_fits_18 {d : Nat} {L : sr_L} {st : List Value} {b : Nat × Nat} {h : sr_H} {P : Option Value → sr_H → Prop} (w : sr_wp mX5_fits d iX5_fits_18 18 L st b h P) : sr_Go mX5_fits d 18 L st b h P := sr_wp_go kX5_fits_18 w
theorem kX5_fits_23 : sr_is cX5_fits 23 iX5_fits_23 = true := sr_is_suf (as := aX5_fits_18) kX5_fits_18
theorem lX5_fits_23 {d : Nat} {L : sr_L} {st : List Value} {b : Nat × Nat} {h : sr_H} {P : Option Value → sr_H → Prop} (w : sr_wp mX5_fits d iX5_fits_23 23 L st b h P) : sr_Go mX5_fits d 23 L st b h P := sr_wp_go kX5_fits_23 w
theorem kX5_fits_55 : sr_is cX5_fits 55 iX5_fits_55 = true := sr_is_suf (as := aX5_fits_23) kX5_fits_23
theorem lX5_fits_55 {d : Nat} {L : sr_L} {st : List Value} {b : Nat × Nat} {h : sr_H} {P : Option Value → sr_H → Prop} (w : sr_wp mX5_fits d iX5_fits_55 55 L st b h P) : sr_Go mX5_fits d 55 L st b h P := sr_wp_go kX5_fits_55 w
theorem kX5_fits_56 : sr_is cX5_fits 56 iX5_fits_56 = true := sr_is_suf (as := aX5_fits_55) kX5_fits_55
theorem lX5_fits_56 {d : Nat} {L : sr_L} {st : List Value} {b : Nat × Nat} {h : sr_H} {P : Option Value → sr_H → Prop} (w : sr_wp mX5_fits d iX5_fits_56 56 L st b h P) : sr_Go mX5_fits d 56 L st b h P := sr_wp_go kX5_fits_56 w
theorem kX5_fits_64 : sr_is cX5_fits 64 iX5_fits_64 = true := sr_is_suf (as := aX5_fits_56) kX5_fits_56
theorem lX5_fits_64 {d : Nat} {L : sr_L} {st : List Value} {b : Nat × Nat} {h : sr_H} {P : Option Value → sr_H → Prop} (w : sr_wp mX5_fits d iX5_fits_64 64 L st b h P) : sr_Go mX5_fits d 64 L st b h P := sr_wp_go kX5_fits_64 w
def iX5_isTold_81 : List (Instr × Nat × Nat) := [(.iload_n 3, 82, 0), (.ireturn, 83, 0)]
def aX5_isTold_75 : List (Instr × Nat × Nat) := [(.iinc 4 1, 78, 0), (.goto (-73), 81, 5)]
def iX5_isTold_75 : List (Instr × Nat × Nat) := aX5_isTold_75 ++ iX5_isTold_81
def aX5_isTold_68 : List (Instr × Nat × Nat) := [(.istore_n 3, 69, 0), (.iinc 5 1, 72, 0), (.goto (-58), 75, 14)]
def iX5_isTold_68 : List (Instr × Nat × Nat) := aX5_isTold_68 ++ iX5_isTold_75
def aX5_isTold_67 : List (Instr × Nat × Nat) := [(.iconst 0, 68, 0)]
def iX5_isTold_67 : List (Instr × Nat × Nat) := aX5_isTold_67 ++ iX5_isTold_68
def aX5_isTold_63 : List (Instr × Nat × Nat) := [(.iconst 1, 64, 0), (.goto 4, 67, 68)]
def iX5_isTold_63 : List (Instr × Nat × Nat) := aX5_isTold_63 ++ iX5_isTold_67
def aX5_isTold_14 : List (Instr × Nat × Nat) := [(.iload 5, 16, 0), (.iload 4, 18, 0), (.if_icmp .ge 57, 21, 75), (.iload_n 3, 22, 0), (.ifCond .eq 45, 25, 67), (.aload_n 0, 26, 0), (.getfield 73, 29, 0), (.iload 4, 31, 0), (.iaload, 32, 0), (.aload_n 0, 33, 0), (.getfield 73, 36, 0), (.iload 5, 38, 0), (.iaload, 39, 0), (.if_icmp .eq 24, 42, 63), (.aload_n 0, 43, 0), (.getfield 73, 46, 0), (.iload 4, 48, 0), (.iaload, 49, 0), (.iload_n 2, 50, 0), (.iand, 51, 0), (.aload_n 0, 52, 0), (.getfield 73, 55, 0), (.iload 5, 57, 0), (.iaload, 58, 0), (.iload_n 2, 59, 0), (.iand, 60, 0), (.if_icmp .eq 7, 63, 67)]
def iX5_isTold_14 : List (Instr × Nat × Nat) := aX5_isTold_14 ++ iX5_isTold_63
def aX5_isTold_5 : List (Instr × Nat × Nat) := [(.iload 4, 7, 0), (.iload_n 1, 8, 0), (.if_icmp .ge 73, 11, 81), (.iconst 0, 12, 0), (.istore 5, 14, 0)]
def iX5_isTold_5 : List (Instr × Nat × Nat) := aX5_isTold_5 ++ iX5_isTold_14
def aX5_isTold_0 : List (Instr × Nat × Nat) := [(.iconst 1, 1, 0), (.istore_n 3, 2, 0), (.iconst 0, 3, 0), (.istore 4, 5, 0)]
def iX5_isTold_0 : List (Instr × Nat × Nat) := aX5_isTold_0 ++ iX5_isTold_5
theorem kX5_isTold_0 : sr_is cX5_isTold 0 iX5_isTold_0 = true := by decide +kernel
theorem lX5_isTold_0 {d : Nat} {L : sr_L} {st : List Value} {b : Nat × Nat} {h : sr_H} {P : Option Value → sr_H → Prop} (w : sr_wp mX5_isTold d iX5_isTold_0 0 L st b h P) : sr_Go mX5_isTold d 0 L st b h P := sr_wp_go kX5_isTold_0 w
theorem kX5_isTold_5 : sr_is cX5_isTold 5 iX5_isTold_5 = true := sr_is_suf (as := aX5_isTold_0) kX5_isTold_0
theorem lX5_isTold_5 {d : Nat} {L : sr_L} {st : List Value} {b : Nat × Nat} {h : sr_H} {P : Option Value → sr_H → Prop} (w : sr_wp mX5_isTold d iX5_isTold_5 5 L st b h P) : sr_Go mX5_isTold d 5 L st b h P := sr_wp_go kX5_isTold_5 w
theorem kX5_isTold_14 : sr_is cX5_isTold 14 iX5_isTold_14 = true := sr_is_suf (as := aX5_isTold_5) kX5_isTold_5
theorem lX5_isTold_14 {d : Nat} {L : sr_L} {st : List Value} {b : Nat × Nat} {h : sr_H} {P : Option Value → sr_H → Prop} (w : sr_wp mX5_isTold d iX5_isTold_14 14 L st b h P) : sr_Go mX5_isTold d 14 L st b h P := sr_wp_go kX5_isTold_14 w
theorem kX5_isTold_63 : sr_is cX5_isTold 63 iX5_isTold_63 = true := sr_is_suf (as := aX5_isTold_14) kX5_isTold_14
theorem lX5_isTold_63 {d : Nat} {L : sr_L} {st : List Value} {b : Nat × Nat} {h : sr_H} {P : Option Value → sr_H → Prop} (w : sr_wp mX5_isTold d iX5_isTold_63 63 L st b h P) : sr_Go mX5_isTold d 63 L st b h P := sr_wp_go kX5_isTold_63 w
theorem kX5_isTold_67 : sr_is cX5_isTold 67 iX5_isTold_67 = true := sr_is_suf (as := aX5_isTold_63) kX5_isTold_63
theorem lX5_isTold_67 {d : Nat} {L : sr_L} {st : List Value} {b : Nat × Nat} {h : sr_H} {P : Option Value → sr_H → Prop} (w : sr_wp mX5_isTold d iX5_isTold_67 67 L st b h P) : sr_Go mX5_isTold d 67 L st b h P := sr_wp_go kX5_isTold_67 w
theorem kX5_isTold_68 : sr_is cX5_isTold 68 iX5_isTold_68 = true := sr_is_suf (as := aX5_isTold_67) kX5_isTold_67
theorem lX5_isTold_68 {d : Nat} {L : sr_L} {st : List Value} {b : Nat × Nat} {h : sr_H} {P : Option Value → sr_H → Prop} (w : sr_wp mX5_isTold d iX5_isTold_68 68 L st b h P) : sr_Go mX5_isTold d 68 L st b h P := sr_wp_go kX5_isTold_68 w
theorem kX5_isTold_75 : sr_is cX5_isTold 75 iX5_isTold_75 = true := sr_is_suf (as := aX5_isTold_68) kX5_isTold_68
theorem lX5_isTold_75 {d : Nat} {L : sr_L} {st : List Value} {b : Nat × Nat} {h : sr_H} {P : Option Value → sr_H → Prop} (w : sr_wp mX5_isTold d iX5_isTold_75 75 L st b h P) : sr_Go mX5_isTold d 75 L st b h P := sr_wp_go kX5_isTold_75 w
theorem kX5_isTold_81 : sr_is cX5_isTold 81 iX5_isTold_81 = true := sr_is_suf (as := aX5_isTold_75) kX5_isTold_75
theorem lX5_isTold_81 {d : Nat} {L : sr_L} {st : List Value} {b : Nat × Nat} {h : sr_H} {P : Option Value → sr_H → Prop} (w : sr_wp mX5_isTold d iX5_isTold_81 81 L st b h P) : sr_Go mX5_isTold d 81 L st b h P := sr_wp_go kX5_isTold_81 w
def iX5_fewestBy_47 : List (Instr × Nat × Nat) := [(.iload_n 2, 48, 0), (.ireturn, 49, 0)]
def aX5_fewestBy_40 : List (Instr × Nat × Nat) := [(.istore_n 2, 41, 0), (.iinc 3 (-1), 44, 0), (.goto (-33), 47, 11)]
def iX5_fewestBy_40 : List (Instr × Nat × Nat) := aX5_fewestBy_40 ++ iX5_fewestBy_47
def aX5_fewestBy_39 : List (Instr × Nat × Nat) := [(.iload_n 2, 40, 0)]
def iX5_fewestBy_39 : List (Instr × Nat × Nat) := aX5_fewestBy_39 ++ iX5_fewestBy_40
def aX5_fewestBy_11 : List (Instr × Nat × Nat) := [(.iload_n 3, 12, 0), (.ifCond .lt 35, 15, 47), (.iload_n 3, 16, 0), (.invokestatic 183, 19, 0), (.iload_n 2, 20, 0), (.invokestatic 183, 23, 0), (.if_icmp .gt 16, 26, 39), (.aload_n 0, 27, 0), (.iload_n 1, 28, 0), (.iload_n 3, 29, 0), (.invokevirtual 210, 32, 0), (.ifCond .eq 7, 35, 39), (.iload_n 3, 36, 0), (.goto 4, 39, 40)]
def iX5_fewestBy_11 : List (Instr × Nat × Nat) := aX5_fewestBy_11 ++ iX5_fewestBy_39
def aX5_fewestBy_0 : List (Instr × Nat × Nat) := [(.iconst 1, 1, 0), (.aload_n 0, 2, 0), (.getfield 151, 5, 0), (.ishl, 6, 0), (.iconst 1, 7, 0), (.isub, 8, 0), (.istore_n 2, 9, 0), (.iload_n 2, 10, 0), (.istore_n 3, 11, 0)]
def iX5_fewestBy_0 : List (Instr × Nat × Nat) := aX5_fewestBy_0 ++ iX5_fewestBy_11
theorem kX5_fewestBy_0 : sr_is cX5_fewestBy 0 iX5_fewestBy_0 = true := by decide +kernel
theorem lX5_fewestBy_0 {d : Nat} {L : sr_L} {st : List Value} {b : Nat × Nat} {h : sr_H} {P : Option Value → sr_H → Prop} (w : sr_wp mX5_fewestBy d iX5_fewestBy_0 0 L st b h P) : sr_Go mX5_fewestBy d 0 L st b h P := sr_wp_go kX5_fewestBy_0 w
theorem kX5_fewestBy_11 : sr_is cX5_fewestBy 11 iX5_fewestBy_11 = true := sr_is_suf (as := aX5_fewestBy_0) kX5_fewestBy_0
theorem lX5_fewestBy_11 {d : Nat} {L : sr_L} {st : List Value} {b : Nat × Nat} {h : sr_H} {P : Option Value → sr_H → Prop} (w : sr_wp mX5_fewestBy d iX5_fewestBy_11 11 L st b h P) : sr_Go mX5_fewestBy d 11 L st b h P := sr_wp_go kX5_fewestBy_11 w
theorem kX5_fewestBy_39 : sr_is cX5_fewestBy 39 iX5_fewestBy_39 = true := sr_is_suf (as := aX5_fewestBy_11) kX5_fewestBy_11
theorem lX5_fewestBy_39 {d : Nat} {L : sr_L} {st : List Value} {b : Nat × Nat} {h : sr_H} {P : Option Value → sr_H → Prop} (w : sr_wp mX5_fewestBy d iX5_fewestBy_39 39 L st b h P) : sr_Go mX5_fewestBy d 39 L st b h P := sr_wp_go kX5_fewestBy_39 w
theorem kX5_fewestBy_40 : sr_is cX5_fewestBy 40 iX5_fewestBy_40 = true := sr_is_suf (as := aX5_fewestBy_39) kX5_fewestBy_39
theorem lX5_fewestBy_40 {d : Nat} {L : sr_L} {st : List Value} {b : Nat × Nat} {h : sr_H} {P : Option Value → sr_H → Prop} (w : sr_wp mX5_fewestBy d iX5_fewestBy_40 40 L st b h P) : sr_Go mX5_fewestBy d 40 L st b h P := sr_wp_go kX5_fewestBy_40 w
theorem kX5_fewestBy_47 : sr_is cX5_fewestBy 47 iX5_fewestBy_47 = true := sr_is_suf (as := aX5_fewestBy_40) kX5_fewestBy_40
theorem lX5_fewestBy_47 {d : Nat} {L : sr_L} {st : List Value} {b : Nat × Nat} {h : sr_H} {P : Option Value → sr_H → Prop} (w : sr_wp mX5_fewestBy d iX5_fewestBy_47 47 L st b h P) : sr_Go mX5_fewestBy d 47 L st b h P := sr_wp_go kX5_fewestBy_47 w
def iX5_looks_42 : List (Instr × Nat × Nat) := [(.aload_n 0, 43, 0), (.aload_n 0, 44, 0), (.getfield 148, 47, 0), (.invokevirtual 213, 50, 0), (.istore_n 2, 51, 0), (.aload_n 0, 52, 0), (.iload_n 2, 53, 0), (.iload_n 2, 54, 0), (.invokestatic 183, 57, 0), (.invokevirtual 102, 60, 0), (.ireturn, 61, 0)]
def aX5_looks_12 : List (Instr × Nat × Nat) := [(.iload_n 2, 13, 0), (.aload_n 0, 14, 0), (.getfield 148, 17, 0), (.if_icmp .ge 25, 20, 42), (.aload_n 0, 21, 0), (.getfield 73, 24, 0), (.iload_n 2, 25, 0), (.aload_n 0, 26, 0), (.aload_n 0, 27, 0), (.iload_n 1, 28, 0), (.iload_n 2, 29, 0), (.invokevirtual 164, 32, 0), (.invokevirtual 189, 35, 0), (.iastore, 36, 0), (.iinc 2 1, 39, 0), (.goto (-27), 42, 12)]
def iX5_looks_12 : List (Instr × Nat × Nat) := aX5_looks_12 ++ iX5_looks_42
def aX5_looks_10 : List (Instr × Nat × Nat) := [(.iconst 0, 11, 0), (.istore_n 2, 12, 0)]
def iX5_looks_10 : List (Instr × Nat × Nat) := aX5_looks_10 ++ iX5_looks_12
def aX5_looks_0 : List (Instr × Nat × Nat) := [(.aload_n 0, 1, 0), (.iload_n 1, 2, 0), (.invokevirtual 174, 5, 0), (.ifCond .ne 5, 8, 10), (.iconst (-1), 9, 0), (.ireturn, 10, 0)]
def iX5_looks_0 : List (Instr × Nat × Nat) := aX5_looks_0 ++ iX5_looks_10
theorem kX5_looks_0 : sr_is cX5_looks 0 iX5_looks_0 = true := by decide +kernel
theorem lX5_looks_0 {d : Nat} {L : sr_L} {st : List Value} {b : Nat × Nat} {h : sr_H} {P : Option Value → sr_H → Prop} (w : sr_wp mX5_looks d iX5_looks_0 0 L st b h P) : sr_Go mX5_looks d 0 L st b h P := sr_wp_go kX5_looks_0 w
theorem kX5_looks_10 : sr_is cX5_looks 10 iX5_looks_10 = true := sr_is_suf (as := aX5_looks_0) kX5_looks_0
theorem lX5_looks_10 {d : Nat} {L : sr_L} {st : List Value} {b : Nat × Nat} {h : sr_H} {P : Option Value → sr_H → Prop} (w : sr_wp mX5_looks d iX5_looks_10 10 L st b h P) : sr_Go mX5_looks d 10 L st b h P := sr_wp_go kX5_looks_10 w
theorem kX5_looks_12 : sr_is cX5_looks 12 iX5_looks_12 = true := sr_is_suf (as := aX5_looks_10) kX5_looks_10
theorem lX5_looks_12 {d : Nat} {L : sr_L} {st : List Value} {b : Nat × Nat} {h : sr_H} {P : Option Value → sr_H → Prop} (w : sr_wp mX5_looks d iX5_looks_12 12 L st b h P) : sr_Go mX5_looks d 12 L st b h P := sr_wp_go kX5_looks_12 w
theorem kX5_looks_42 : sr_is cX5_looks 42 iX5_looks_42 = true := sr_is_suf (as := aX5_looks_12) kX5_looks_12
theorem lX5_looks_42 {d : Nat} {L : sr_L} {st : List Value} {b : Nat × Nat} {h : sr_H} {P : Option Value → sr_H → Prop} (w : sr_wp mX5_looks d iX5_looks_42 42 L st b h P) : sr_Go mX5_looks d 42 L st b h P := sr_wp_go kX5_looks_42 w
def iX5_thereBy_43 : List (Instr × Nat × Nat) := [(.iload_n 3, 44, 0), (.ireturn, 45, 0)]
def aX5_thereBy_35 : List (Instr × Nat × Nat) := [(.iadd, 36, 0), (.istore_n 3, 37, 0), (.iinc 4 1, 40, 0), (.goto (-35), 43, 5)]
def iX5_thereBy_35 : List (Instr × Nat × Nat) := aX5_thereBy_35 ++ iX5_thereBy_43
def aX5_thereBy_34 : List (Instr × Nat × Nat) := [(.iconst 0, 35, 0)]
def iX5_thereBy_34 : List (Instr × Nat × Nat) := aX5_thereBy_34 ++ iX5_thereBy_35
def aX5_thereBy_5 : List (Instr × Nat × Nat) := [(.iload 4, 7, 0), (.aload_n 0, 8, 0), (.getfield 148, 11, 0), (.if_icmp .ge 32, 14, 43), (.iload_n 3, 15, 0), (.aload_n 0, 16, 0), (.aload_n 0, 17, 0), (.iload_n 1, 18, 0), (.iload 4, 20, 0), (.invokevirtual 164, 23, 0), (.iload_n 2, 24, 0), (.invokevirtual 167, 27, 0), (.ifCond .eq 7, 30, 34), (.iconst 1, 31, 0), (.goto 4, 34, 35)]
def iX5_thereBy_5 : List (Instr × Nat × Nat) := aX5_thereBy_5 ++ iX5_thereBy_34
def aX5_thereBy_0 : List (Instr × Nat × Nat) := [(.iconst 0, 1, 0), (.istore_n 3, 2, 0), (.iconst 0, 3, 0), (.istore 4, 5, 0)]
def iX5_thereBy_0 : List (Instr × Nat × Nat) := aX5_thereBy_0 ++ iX5_thereBy_5
theorem kX5_thereBy_0 : sr_is cX5_thereBy 0 iX5_thereBy_0 = true := by decide +kernel
theorem lX5_thereBy_0 {d : Nat} {L : sr_L} {st : List Value} {b : Nat × Nat} {h : sr_H} {P : Option Value → sr_H → Prop} (w : sr_wp mX5_thereBy d iX5_thereBy_0 0 L st b h P) : sr_Go mX5_thereBy d 0 L st b h P := sr_wp_go kX5_thereBy_0 w
theorem kX5_thereBy_5 : sr_is cX5_thereBy 5 iX5_thereBy_5 = true := sr_is_suf (as := aX5_thereBy_0) kX5_thereBy_0
theorem lX5_thereBy_5 {d : Nat} {L : sr_L} {st : List Value} {b : Nat × Nat} {h : sr_H} {P : Option Value → sr_H → Prop} (w : sr_wp mX5_thereBy d iX5_thereBy_5 5 L st b h P) : sr_Go mX5_thereBy d 5 L st b h P := sr_wp_go kX5_thereBy_5 w
theorem kX5_thereBy_34 : sr_is cX5_thereBy 34 iX5_thereBy_34 = true := sr_is_suf (as := aX5_thereBy_5) kX5_thereBy_5
theorem lX5_thereBy_34 {d : Nat} {L : sr_L} {st : List Value} {b : Nat × Nat} {h : sr_H} {P : Option Value → sr_H → Prop} (w : sr_wp mX5_thereBy d iX5_thereBy_34 34 L st b h P) : sr_Go mX5_thereBy d 34 L st b h P := sr_wp_go kX5_thereBy_34 w
theorem kX5_thereBy_35 : sr_is cX5_thereBy 35 iX5_thereBy_35 = true := sr_is_suf (as := aX5_thereBy_34) kX5_thereBy_34
theorem lX5_thereBy_35 {d : Nat} {L : sr_L} {st : List Value} {b : Nat × Nat} {h : sr_H} {P : Option Value → sr_H → Prop} (w : sr_wp mX5_thereBy d iX5_thereBy_35 35 L st b h P) : sr_Go mX5_thereBy d 35 L st b h P := sr_wp_go kX5_thereBy_35 w
theorem kX5_thereBy_43 : sr_is cX5_thereBy 43 iX5_thereBy_43 = true := sr_is_suf (as := aX5_thereBy_35) kX5_thereBy_35
theorem lX5_thereBy_43 {d : Nat} {L : sr_L} {st : List Value} {b : Nat × Nat} {h : sr_H} {P : Option Value → sr_H → Prop} (w : sr_wp mX5_thereBy d iX5_thereBy_43 43 L st b h P) : sr_Go mX5_thereBy d 43 L st b h P := sr_wp_go kX5_thereBy_43 w
def iX5_drawer_94 : List (Instr × Nat × Nat) := [(.aload_n 0, 95, 0), (.iload_n 3, 96, 0), (.iload_n 2, 97, 0), (.invokevirtual 102, 100, 0), (.ireturn, 101, 0)]
def aX5_drawer_87 : List (Instr × Nat × Nat) := [(.istore_n 3, 88, 0), (.iinc 4 1, 91, 0), (.goto (-73), 94, 18)]
def iX5_drawer_87 : List (Instr × Nat × Nat) := aX5_drawer_87 ++ iX5_drawer_94
def aX5_drawer_86 : List (Instr × Nat × Nat) := [(.iload_n 3, 87, 0)]
def iX5_drawer_86 : List (Instr × Nat × Nat) := aX5_drawer_86 ++ iX5_drawer_87
def aX5_drawer_74 : List (Instr × Nat × Nat) := [(.istore_n 2, 75, 0), (.iload 6, 77, 0), (.iload_n 3, 78, 0), (.if_icmp .ge 8, 81, 86), (.iload 6, 83, 0), (.goto 4, 86, 87)]
def iX5_drawer_74 : List (Instr × Nat × Nat) := aX5_drawer_74 ++ iX5_drawer_86
def aX5_drawer_73 : List (Instr × Nat × Nat) := [(.iload_n 2, 74, 0)]
def iX5_drawer_73 : List (Instr × Nat × Nat) := aX5_drawer_73 ++ iX5_drawer_74
def aX5_drawer_60 : List (Instr × Nat × Nat) := [(.istore 6, 62, 0), (.iload 6, 64, 0), (.iload_n 3, 65, 0), (.if_icmp .ge 8, 68, 73), (.iload 4, 70, 0), (.goto 4, 73, 74)]
def iX5_drawer_60 : List (Instr × Nat × Nat) := aX5_drawer_60 ++ iX5_drawer_73
def aX5_drawer_53 : List (Instr × Nat × Nat) := [(.aload_n 0, 54, 0), (.getfield 148, 57, 0), (.iload 5, 59, 0), (.isub, 60, 0)]
def iX5_drawer_53 : List (Instr × Nat × Nat) := aX5_drawer_53 ++ iX5_drawer_60
def aX5_drawer_18 : List (Instr × Nat × Nat) := [(.iload 4, 20, 0), (.aload_n 0, 21, 0), (.getfield 151, 24, 0), (.if_icmp .ge 70, 27, 94), (.aload_n 0, 28, 0), (.iload_n 1, 29, 0), (.iload 4, 31, 0), (.invokevirtual 217, 34, 0), (.istore 5, 36, 0), (.iload 5, 38, 0), (.aload_n 0, 39, 0), (.getfield 148, 42, 0), (.iload 5, 44, 0), (.isub, 45, 0), (.if_icmp .le 8, 48, 53), (.iload 5, 50, 0), (.goto 10, 53, 60)]
def iX5_drawer_18 : List (Instr × Nat × Nat) := aX5_drawer_18 ++ iX5_drawer_53
def aX5_drawer_10 : List (Instr × Nat × Nat) := [(.iconst 0, 11, 0), (.istore_n 2, 12, 0), (.ldc 216, 14, 0), (.istore_n 3, 15, 0), (.iconst 0, 16, 0), (.istore 4, 18, 0)]
def iX5_drawer_10 : List (Instr × Nat × Nat) := aX5_drawer_10 ++ iX5_drawer_18
def aX5_drawer_0 : List (Instr × Nat × Nat) := [(.aload_n 0, 1, 0), (.iload_n 1, 2, 0), (.invokevirtual 174, 5, 0), (.ifCond .ne 5, 8, 10), (.iconst (-1), 9, 0), (.ireturn, 10, 0)]
def iX5_drawer_0 : List (Instr × Nat × Nat) := aX5_drawer_0 ++ iX5_drawer_10
theorem kX5_drawer_0 : sr_is cX5_drawer 0 iX5_drawer_0 = true := by decide +kernel
theorem lX5_drawer_0 {d : Nat} {L : sr_L} {st : List Value} {b : Nat × Nat} {h : sr_H} {P : Option Value → sr_H → Prop} (w : sr_wp mX5_drawer d iX5_drawer_0 0 L st b h P) : sr_Go mX5_drawer d 0 L st b h P := sr_wp_go kX5_drawer_0 w
theorem kX5_drawer_10 : sr_is cX5_drawer 10 iX5_drawer_10 = true := sr_is_suf (as := aX5_drawer_0) kX5_drawer_0
theorem lX5_drawer_10 {d : Nat} {L : sr_L} {st : List Value} {b : Nat × Nat} {h : sr_H} {P : Option Value → sr_H → Prop} (w : sr_wp mX5_drawer d iX5_drawer_10 10 L st b h P) : sr_Go mX5_drawer d 10 L st b h P := sr_wp_go kX5_drawer_10 w
theorem kX5_drawer_18 : sr_is cX5_drawer 18 iX5_drawer_18 = true := sr_is_suf (as := aX5_drawer_10) kX5_drawer_10
theorem lX5_drawer_18 {d : Nat} {L : sr_L} {st : List Value} {b : Nat × Nat} {h : sr_H} {P : Option Value → sr_H → Prop} (w : sr_wp mX5_drawer d iX5_drawer_18 18 L st b h P) : sr_Go mX5_drawer d 18 L st b h P := sr_wp_go kX5_drawer_18 w
theorem kX5_drawer_53 : sr_is cX5_drawer 53 iX5_drawer_53 = true := sr_is_suf (as := aX5_drawer_18) kX5_drawer_18
theorem lX5_drawer_53 {d : Nat} {L : sr_L} {st : List Value} {b : Nat × Nat} {h : sr_H} {P : Option Value → sr_H → Prop} (w : sr_wp mX5_drawer d iX5_drawer_53 53 L st b h P) : sr_Go mX5_drawer d 53 L st b h P := sr_wp_go kX5_drawer_53 w
theorem kX5_drawer_60 : sr_is cX5_drawer 60 iX5_drawer_60 = true := sr_is_suf (as := aX5_drawer_53) kX5_drawer_53
theorem lX5_drawer_60 {d : Nat} {L : sr_L} {st : List Value} {b : Nat × Nat} {h : sr_H} {P : Option Value → sr_H → Prop} (w : sr_wp mX5_drawer d iX5_drawer_60 60 L st b h P) : sr_Go mX5_drawer d 60 L st b h P := sr_wp_go kX5_drawer_60 w
theorem kX5_drawer_73 : sr_is cX5_drawer 73 iX5_drawer_73 = true := sr_is_suf (as := aX5_drawer_60) kX5_drawer_60
theorem lX5_drawer_73 {d : Nat} {L : sr_L} {st : List Value} {b : Nat × Nat} {h : sr_H} {P : Option Value → sr_H → Prop} (w : sr_wp mX5_drawer d iX5_drawer_73 73 L st b h P) : sr_Go mX5_drawer d 73 L st b h P := sr_wp_go kX5_drawer_73 w
theorem kX5_drawer_74 : sr_is cX5_drawer 74 iX5_drawer_74 = true := sr_is_suf (as := aX5_drawer_73) kX5_drawer_73
theorem lX5_drawer_74 {d : Nat} {L : sr_L} {st : List Value} {b : Nat × Nat} {h : sr_H} {P : Option Value → sr_H → Prop} (w : sr_wp mX5_drawer d iX5_drawer_74 74 L st b h P) : sr_Go mX5_drawer d 74 L st b h P := sr_wp_go kX5_drawer_74 w
theorem kX5_drawer_86 : sr_is cX5_drawer 86 iX5_drawer_86 = true := sr_is_suf (as := aX5_drawer_74) kX5_drawer_74
theorem lX5_drawer_86 {d : Nat} {L : sr_L} {st : List Value} {b : Nat × Nat} {h : sr_H} {P : Option Value → sr_H → Prop} (w : sr_wp mX5_drawer d iX5_drawer_86 86 L st b h P) : sr_Go mX5_drawer d 86 L st b h P := sr_wp_go kX5_drawer_86 w
theorem kX5_drawer_87 : sr_is cX5_drawer 87 iX5_drawer_87 = true := sr_is_suf (as := aX5_drawer_86) kX5_drawer_86
theorem lX5_drawer_87 {d : Nat} {L : sr_L} {st : List Value} {b : Nat × Nat} {h : sr_H} {P : Option Value → sr_H → Prop} (w : sr_wp mX5_drawer d iX5_drawer_87 87 L st b h P) : sr_Go mX5_drawer d 87 L st b h P := sr_wp_go kX5_drawer_87 w
theorem kX5_drawer_94 : sr_is cX5_drawer 94 iX5_drawer_94 = true := sr_is_suf (as := aX5_drawer_87) kX5_drawer_87
theorem lX5_drawer_94 {d : Nat} {L : sr_L} {st : List Value} {b : Nat × Nat} {h : sr_H} {P : Option Value → sr_H → Prop} (w : sr_wp mX5_drawer d iX5_drawer_94 94 L st b h P) : sr_Go mX5_drawer d 94 L st b h P := sr_wp_go kX5_drawer_94 w
def iX5_lives_67 : List (Instr × Nat × Nat) := [(.aload_n 0, 68, 0), (.iload_n 3, 69, 0), (.iload_n 2, 70, 0), (.invokevirtual 102, 73, 0), (.ireturn, 74, 0)]
def aX5_lives_61 : List (Instr × Nat × Nat) := [(.iinc 4 1, 64, 0), (.goto (-36), 67, 28)]
def iX5_lives_61 : List (Instr × Nat × Nat) := aX5_lives_61 ++ iX5_lives_67
def aX5_lives_57 : List (Instr × Nat × Nat) := [(.istore_n 3, 58, 0), (.iinc 2 1, 61, 0)]
def iX5_lives_57 : List (Instr × Nat × Nat) := aX5_lives_57 ++ iX5_lives_61
def aX5_lives_56 : List (Instr × Nat × Nat) := [(.iload_n 3, 57, 0)]
def iX5_lives_56 : List (Instr × Nat × Nat) := aX5_lives_56 ++ iX5_lives_57
def aX5_lives_28 : List (Instr × Nat × Nat) := [(.iload 4, 30, 0), (.aload_n 0, 31, 0), (.invokevirtual 157, 34, 0), (.if_icmp .ge 33, 37, 67), (.aload_n 0, 38, 0), (.iload 4, 40, 0), (.invokevirtual 189, 43, 0), (.iload_n 1, 44, 0), (.if_icmp .ne 17, 47, 61), (.iload_n 2, 48, 0), (.ifCond .ne 8, 51, 56), (.iload 4, 53, 0), (.goto 4, 56, 57)]
def iX5_lives_28 : List (Instr × Nat × Nat) := aX5_lives_28 ++ iX5_lives_56
def aX5_lives_20 : List (Instr × Nat × Nat) := [(.iconst 0, 21, 0), (.istore_n 2, 22, 0), (.bipush (-9), 24, 0), (.istore_n 3, 25, 0), (.iconst 0, 26, 0), (.istore 4, 28, 0)]
def iX5_lives_20 : List (Instr × Nat × Nat) := aX5_lives_20 ++ iX5_lives_28
def aX5_lives_10 : List (Instr × Nat × Nat) := [(.aload_n 0, 11, 0), (.iload_n 1, 12, 0), (.invokevirtual 207, 15, 0), (.ifCond .ne 5, 18, 20), (.iconst (-1), 19, 0), (.ireturn, 20, 0)]
def iX5_lives_10 : List (Instr × Nat × Nat) := aX5_lives_10 ++ iX5_lives_20
def aX5_lives_0 : List (Instr × Nat × Nat) := [(.aload_n 0, 1, 0), (.getfield 145, 4, 0), (.ifCond .ne 6, 7, 10), (.bipush (-4), 9, 0), (.ireturn, 10, 0)]
def iX5_lives_0 : List (Instr × Nat × Nat) := aX5_lives_0 ++ iX5_lives_10
theorem kX5_lives_0 : sr_is cX5_lives 0 iX5_lives_0 = true := by decide +kernel
theorem lX5_lives_0 {d : Nat} {L : sr_L} {st : List Value} {b : Nat × Nat} {h : sr_H} {P : Option Value → sr_H → Prop} (w : sr_wp mX5_lives d iX5_lives_0 0 L st b h P) : sr_Go mX5_lives d 0 L st b h P := sr_wp_go kX5_lives_0 w
theorem kX5_lives_10 : sr_is cX5_lives 10 iX5_lives_10 = true := sr_is_suf (as := aX5_lives_0) kX5_lives_0
theorem lX5_lives_10 {d : Nat} {L : sr_L} {st : List Value} {b : Nat × Nat} {h : sr_H} {P : Option Value → sr_H → Prop} (w : sr_wp mX5_lives d iX5_lives_10 10 L st b h P) : sr_Go mX5_lives d 10 L st b h P := sr_wp_go kX5_lives_10 w
theorem kX5_lives_20 : sr_is cX5_lives 20 iX5_lives_20 = true := sr_is_suf (as := aX5_lives_10) kX5_lives_10
theorem lX5_lives_20 {d : Nat} {L : sr_L} {st : List Value} {b : Nat × Nat} {h : sr_H} {P : Option Value → sr_H → Prop} (w : sr_wp mX5_lives d iX5_lives_20 20 L st b h P) : sr_Go mX5_lives d 20 L st b h P := sr_wp_go kX5_lives_20 w
theorem kX5_lives_28 : sr_is cX5_lives 28 iX5_lives_28 = true := sr_is_suf (as := aX5_lives_20) kX5_lives_20
theorem lX5_lives_28 {d : Nat} {L : sr_L} {st : List Value} {b : Nat × Nat} {h : sr_H} {P : Option Value → sr_H → Prop} (w : sr_wp mX5_lives d iX5_lives_28 28 L st b h P) : sr_Go mX5_lives d 28 L st b h P := sr_wp_go kX5_lives_28 w
theorem kX5_lives_56 : sr_is cX5_lives 56 iX5_lives_56 = true := sr_is_suf (as := aX5_lives_28) kX5_lives_28
theorem lX5_lives_56 {d : Nat} {L : sr_L} {st : List Value} {b : Nat × Nat} {h : sr_H} {P : Option Value → sr_H → Prop} (w : sr_wp mX5_lives d iX5_lives_56 56 L st b h P) : sr_Go mX5_lives d 56 L st b h P := sr_wp_go kX5_lives_56 w
theorem kX5_lives_57 : sr_is cX5_lives 57 iX5_lives_57 = true := sr_is_suf (as := aX5_lives_56) kX5_lives_56
theorem lX5_lives_57 {d : Nat} {L : sr_L} {st : List Value} {b : Nat × Nat} {h : sr_H} {P : Option Value → sr_H → Prop} (w : sr_wp mX5_lives d iX5_lives_57 57 L st b h P) : sr_Go mX5_lives d 57 L st b h P := sr_wp_go kX5_lives_57 w
theorem kX5_lives_61 : sr_is cX5_lives 61 iX5_lives_61 = true := sr_is_suf (as := aX5_lives_57) kX5_lives_57
theorem lX5_lives_61 {d : Nat} {L : sr_L} {st : List Value} {b : Nat × Nat} {h : sr_H} {P : Option Value → sr_H → Prop} (w : sr_wp mX5_lives d iX5_lives_61 61 L st b h P) : sr_Go mX5_lives d 61 L st b h P := sr_wp_go kX5_lives_61 w
theorem kX5_lives_67 : sr_is cX5_lives 67 iX5_lives_67 = true := sr_is_suf (as := aX5_lives_61) kX5_lives_61
theorem lX5_lives_67 {d : Nat} {L : sr_L} {st : List Value} {b : Nat × Nat} {h : sr_H} {P : Option Value → sr_H → Prop} (w : sr_wp mX5_lives d iX5_lives_67 67 L st b h P) : sr_Go mX5_lives d 67 L st b h P := sr_wp_go kX5_lives_67 w
def iX5_nearest_127 : List (Instr × Nat × Nat) := [(.ireturn, 128, 0)]
def aX5_nearest_111 : List (Instr × Nat × Nat) := [(.aload_n 0, 112, 0), (.iload_n 3, 113, 0), (.iload_n 3, 114, 0), (.aload_n 0, 115, 0), (.getfield 36, 118, 0), (.iload_n 1, 119, 0), (.iaload, 120, 0), (.ixor, 121, 0), (.invokestatic 183, 124, 0), (.invokevirtual 102, 127, 0)]
def iX5_nearest_111 : List (Instr × Nat × Nat) := aX5_nearest_111 ++ iX5_nearest_127
def aX5_nearest_100 : List (Instr × Nat × Nat) := [(.iload_n 3, 101, 0), (.bipush (-9), 103, 0), (.if_icmp .ne 8, 106, 111), (.bipush (-9), 108, 0), (.goto 19, 111, 127)]
def iX5_nearest_100 : List (Instr × Nat × Nat) := aX5_nearest_100 ++ iX5_nearest_111
def aX5_nearest_93 : List (Instr × Nat × Nat) := [(.istore_n 3, 94, 0), (.iinc 4 1, 97, 0), (.goto (-73), 100, 24)]
def iX5_nearest_93 : List (Instr × Nat × Nat) := aX5_nearest_93 ++ iX5_nearest_100
def aX5_nearest_92 : List (Instr × Nat × Nat) := [(.iload_n 3, 93, 0)]
def iX5_nearest_92 : List (Instr × Nat × Nat) := aX5_nearest_92 ++ iX5_nearest_93
def aX5_nearest_70 : List (Instr × Nat × Nat) := [(.istore 5, 72, 0), (.aload_n 0, 73, 0), (.iload 4, 75, 0), (.iload_n 2, 76, 0), (.invokevirtual 167, 79, 0), (.ifCond .eq 13, 82, 92), (.iload 5, 84, 0), (.ifCond .eq 8, 87, 92), (.iload 4, 89, 0), (.goto 4, 92, 93)]
def iX5_nearest_70 : List (Instr × Nat × Nat) := aX5_nearest_70 ++ iX5_nearest_92
def aX5_nearest_69 : List (Instr × Nat × Nat) := [(.iconst 0, 70, 0)]
def iX5_nearest_69 : List (Instr × Nat × Nat) := aX5_nearest_69 ++ iX5_nearest_70
def aX5_nearest_65 : List (Instr × Nat × Nat) := [(.iconst 1, 66, 0), (.goto 4, 69, 70)]
def iX5_nearest_65 : List (Instr × Nat × Nat) := aX5_nearest_65 ++ iX5_nearest_69
def aX5_nearest_24 : List (Instr × Nat × Nat) := [(.iload 4, 26, 0), (.aload_n 0, 27, 0), (.invokevirtual 157, 30, 0), (.if_icmp .ge 70, 33, 100), (.iload_n 3, 34, 0), (.bipush (-9), 36, 0), (.if_icmp .eq 29, 39, 65), (.iload 4, 41, 0), (.aload_n 0, 42, 0), (.getfield 36, 45, 0), (.iload_n 1, 46, 0), (.iaload, 47, 0), (.ixor, 48, 0), (.invokestatic 183, 51, 0), (.iload_n 3, 52, 0), (.aload_n 0, 53, 0), (.getfield 36, 56, 0), (.iload_n 1, 57, 0), (.iaload, 58, 0), (.ixor, 59, 0), (.invokestatic 183, 62, 0), (.if_icmp .ge 7, 65, 69)]
def iX5_nearest_24 : List (Instr × Nat × Nat) := aX5_nearest_24 ++ iX5_nearest_65
def aX5_nearest_18 : List (Instr × Nat × Nat) := [(.bipush (-9), 20, 0), (.istore_n 3, 21, 0), (.iconst 0, 22, 0), (.istore 4, 24, 0)]
def iX5_nearest_18 : List (Instr × Nat × Nat) := aX5_nearest_18 ++ iX5_nearest_24
def aX5_nearest_16 : List (Instr × Nat × Nat) := [(.iconst (-1), 17, 0), (.ireturn, 18, 0)]
def iX5_nearest_16 : List (Instr × Nat × Nat) := aX5_nearest_16 ++ iX5_nearest_18
def aX5_nearest_0 : List (Instr × Nat × Nat) := [(.aload_n 0, 1, 0), (.iload_n 1, 2, 0), (.invokevirtual 174, 5, 0), (.ifCond .eq 11, 8, 16), (.aload_n 0, 9, 0), (.iload_n 2, 10, 0), (.invokevirtual 220, 13, 0), (.ifCond .ne 5, 16, 18)]
def iX5_nearest_0 : List (Instr × Nat × Nat) := aX5_nearest_0 ++ iX5_nearest_16
theorem kX5_nearest_0 : sr_is cX5_nearest 0 iX5_nearest_0 = true := by decide +kernel
theorem lX5_nearest_0 {d : Nat} {L : sr_L} {st : List Value} {b : Nat × Nat} {h : sr_H} {P : Option Value → sr_H → Prop} (w : sr_wp mX5_nearest d iX5_nearest_0 0 L st b h P) : sr_Go mX5_nearest d 0 L st b h P := sr_wp_go kX5_nearest_0 w
theorem kX5_nearest_16 : sr_is cX5_nearest 16 iX5_nearest_16 = true := sr_is_suf (as := aX5_nearest_0) kX5_nearest_0
theorem lX5_nearest_16 {d : Nat} {L : sr_L} {st : List Value} {b : Nat × Nat} {h : sr_H} {P : Option Value → sr_H → Prop} (w : sr_wp mX5_nearest d iX5_nearest_16 16 L st b h P) : sr_Go mX5_nearest d 16 L st b h P := sr_wp_go kX5_nearest_16 w
theorem kX5_nearest_18 : sr_is cX5_nearest 18 iX5_nearest_18 = true := sr_is_suf (as := aX5_nearest_16) kX5_nearest_16
theorem lX5_nearest_18 {d : Nat} {L : sr_L} {st : List Value} {b : Nat × Nat} {h : sr_H} {P : Option Value → sr_H → Prop} (w : sr_wp mX5_nearest d iX5_nearest_18 18 L st b h P) : sr_Go mX5_nearest d 18 L st b h P := sr_wp_go kX5_nearest_18 w
theorem kX5_nearest_24 : sr_is cX5_nearest 24 iX5_nearest_24 = true := sr_is_suf (as := aX5_nearest_18) kX5_nearest_18
theorem lX5_nearest_24 {d : Nat} {L : sr_L} {st : List Value} {b : Nat × Nat} {h : sr_H} {P : Option Value → sr_H → Prop} (w : sr_wp mX5_nearest d iX5_nearest_24 24 L st b h P) : sr_Go mX5_nearest d 24 L st b h P := sr_wp_go kX5_nearest_24 w
theorem kX5_nearest_65 : sr_is cX5_nearest 65 iX5_nearest_65 = true := sr_is_suf (as := aX5_nearest_24) kX5_nearest_24
theorem lX5_nearest_65 {d : Nat} {L : sr_L} {st : List Value} {b : Nat × Nat} {h : sr_H} {P : Option Value → sr_H → Prop} (w : sr_wp mX5_nearest d iX5_nearest_65 65 L st b h P) : sr_Go mX5_nearest d 65 L st b h P := sr_wp_go kX5_nearest_65 w
theorem kX5_nearest_69 : sr_is cX5_nearest 69 iX5_nearest_69 = true := sr_is_suf (as := aX5_nearest_65) kX5_nearest_65
theorem lX5_nearest_69 {d : Nat} {L : sr_L} {st : List Value} {b : Nat × Nat} {h : sr_H} {P : Option Value → sr_H → Prop} (w : sr_wp mX5_nearest d iX5_nearest_69 69 L st b h P) : sr_Go mX5_nearest d 69 L st b h P := sr_wp_go kX5_nearest_69 w
theorem kX5_nearest_70 : sr_is cX5_nearest 70 iX5_nearest_70 = true := sr_is_suf (as := aX5_nearest_69) kX5_nearest_69
theorem lX5_nearest_70 {d : Nat} {L : sr_L} {st : List Value} {b : Nat × Nat} {h : sr_H} {P : Option Value → sr_H → Prop} (w : sr_wp mX5_nearest d iX5_nearest_70 70 L st b h P) : sr_Go mX5_nearest d 70 L st b h P := sr_wp_go kX5_nearest_70 w
theorem kX5_nearest_92 : sr_is cX5_nearest 92 iX5_nearest_92 = true := sr_is_suf (as := aX5_nearest_70) kX5_nearest_70
theorem lX5_nearest_92 {d : Nat} {L : sr_L} {st : List Value} {b : Nat × Nat} {h : sr_H} {P : Option Value → sr_H → Prop} (w : sr_wp mX5_nearest d iX5_nearest_92 92 L st b h P) : sr_Go mX5_nearest d 92 L st b h P := sr_wp_go kX5_nearest_92 w
theorem kX5_nearest_93 : sr_is cX5_nearest 93 iX5_nearest_93 = true := sr_is_suf (as := aX5_nearest_92) kX5_nearest_92
theorem lX5_nearest_93 {d : Nat} {L : sr_L} {st : List Value} {b : Nat × Nat} {h : sr_H} {P : Option Value → sr_H → Prop} (w : sr_wp mX5_nearest d iX5_nearest_93 93 L st b h P) : sr_Go mX5_nearest d 93 L st b h P := sr_wp_go kX5_nearest_93 w
theorem kX5_nearest_100 : sr_is cX5_nearest 100 iX5_nearest_100 = true := sr_is_suf (as := aX5_nearest_93) kX5_nearest_93
theorem lX5_nearest_100 {d : Nat} {L : sr_L} {st : List Value} {b : Nat × Nat} {h : sr_H} {P : Option Value → sr_H → Prop} (w : sr_wp mX5_nearest d iX5_nearest_100 100 L st b h P) : sr_Go mX5_nearest d 100 L st b h P := sr_wp_go kX5_nearest_100 w
theorem kX5_nearest_111 : sr_is cX5_nearest 111 iX5_nearest_111 = true := sr_is_suf (as := aX5_nearest_100) kX5_nearest_100
theorem lX5_nearest_111 {d : Nat} {L : sr_L} {st : List Value} {b : Nat × Nat} {h : sr_H} {P : Option Value → sr_H → Prop} (w : sr_wp mX5_nearest d iX5_nearest_111 111 L st b h P) : sr_Go mX5_nearest d 111 L st b h P := sr_wp_go kX5_nearest_111 w
theorem kX5_nearest_127 : sr_is cX5_nearest 127 iX5_nearest_127 = true := sr_is_suf (as := aX5_nearest_111) kX5_nearest_111
theorem lX5_nearest_127 {d : Nat} {L : sr_L} {st : List Value} {b : Nat × Nat} {h : sr_H} {P : Option Value → sr_H → Prop} (w : sr_wp mX5_nearest d iX5_nearest_127 127 L st b h P) : sr_Go mX5_nearest d 127 L st b h P := sr_wp_go kX5_nearest_127 w
def iX5_isSecond_24 : List (Instr × Nat × Nat) := [(.ireturn, 25, 0)]
def aX5_isSecond_23 : List (Instr × Nat × Nat) := [(.iconst 0, 24, 0)]
def iX5_isSecond_23 : List (Instr × Nat × Nat) := aX5_isSecond_23 ++ iX5_isSecond_24
def aX5_isSecond_0 : List (Instr × Nat × Nat) := [(.iload_n 1, 1, 0), (.iload_n 2, 2, 0), (.if_icmp .eq 21, 5, 23), (.aload_n 0, 6, 0), (.getfield 36, 9, 0), (.iload_n 1, 10, 0), (.iaload, 11, 0), (.aload_n 0, 12, 0), (.iload_n 2, 13, 0), (.invokevirtual 171, 16, 0), (.if_icmp .ne 7, 19, 23), (.iconst 1, 20, 0), (.goto 4, 23, 24)]
def iX5_isSecond_0 : List (Instr × Nat × Nat) := aX5_isSecond_0 ++ iX5_isSecond_23
theorem kX5_isSecond_0 : sr_is cX5_isSecond 0 iX5_isSecond_0 = true := by decide +kernel
theorem lX5_isSecond_0 {d : Nat} {L : sr_L} {st : List Value} {b : Nat × Nat} {h : sr_H} {P : Option Value → sr_H → Prop} (w : sr_wp mX5_isSecond d iX5_isSecond_0 0 L st b h P) : sr_Go mX5_isSecond d 0 L st b h P := sr_wp_go kX5_isSecond_0 w
theorem kX5_isSecond_23 : sr_is cX5_isSecond 23 iX5_isSecond_23 = true := sr_is_suf (as := aX5_isSecond_0) kX5_isSecond_0
theorem lX5_isSecond_23 {d : Nat} {L : sr_L} {st : List Value} {b : Nat × Nat} {h : sr_H} {P : Option Value → sr_H → Prop} (w : sr_wp mX5_isSecond d iX5_isSecond_23 23 L st b h P) : sr_Go mX5_isSecond d 23 L st b h P := sr_wp_go kX5_isSecond_23 w
theorem kX5_isSecond_24 : sr_is cX5_isSecond 24 iX5_isSecond_24 = true := sr_is_suf (as := aX5_isSecond_23) kX5_isSecond_23
theorem lX5_isSecond_24 {d : Nat} {L : sr_L} {st : List Value} {b : Nat × Nat} {h : sr_H} {P : Option Value → sr_H → Prop} (w : sr_wp mX5_isSecond d iX5_isSecond_24 24 L st b h P) : sr_Go mX5_isSecond d 24 L st b h P := sr_wp_go kX5_isSecond_24 w
def iX5_twins_47 : List (Instr × Nat × Nat) := [(.iload_n 2, 48, 0), (.ireturn, 49, 0)]
def aX5_twins_39 : List (Instr × Nat × Nat) := [(.ior, 40, 0), (.istore_n 2, 41, 0), (.iinc 3 1, 44, 0), (.goto (-30), 47, 14)]
def iX5_twins_39 : List (Instr × Nat × Nat) := aX5_twins_39 ++ iX5_twins_47
def aX5_twins_38 : List (Instr × Nat × Nat) := [(.iconst 0, 39, 0)]
def iX5_twins_38 : List (Instr × Nat × Nat) := aX5_twins_38 ++ iX5_twins_39
def aX5_twins_14 : List (Instr × Nat × Nat) := [(.iload_n 3, 15, 0), (.aload_n 0, 16, 0), (.getfield 145, 19, 0), (.if_icmp .ge 28, 22, 47), (.iload_n 2, 23, 0), (.aload_n 0, 24, 0), (.iload_n 3, 25, 0), (.iload_n 1, 26, 0), (.invokevirtual 223, 29, 0), (.ifCond .eq 9, 32, 38), (.iconst 1, 33, 0), (.iload_n 3, 34, 0), (.ishl, 35, 0), (.goto 4, 38, 39)]
def iX5_twins_14 : List (Instr × Nat × Nat) := aX5_twins_14 ++ iX5_twins_38
def aX5_twins_10 : List (Instr × Nat × Nat) := [(.iconst 0, 11, 0), (.istore_n 2, 12, 0), (.iconst 0, 13, 0), (.istore_n 3, 14, 0)]
def iX5_twins_10 : List (Instr × Nat × Nat) := aX5_twins_10 ++ iX5_twins_14
def aX5_twins_0 : List (Instr × Nat × Nat) := [(.aload_n 0, 1, 0), (.iload_n 1, 2, 0), (.invokevirtual 174, 5, 0), (.ifCond .ne 5, 8, 10), (.iconst (-1), 9, 0), (.ireturn, 10, 0)]
def iX5_twins_0 : List (Instr × Nat × Nat) := aX5_twins_0 ++ iX5_twins_10
theorem kX5_twins_0 : sr_is cX5_twins 0 iX5_twins_0 = true := by decide +kernel
theorem lX5_twins_0 {d : Nat} {L : sr_L} {st : List Value} {b : Nat × Nat} {h : sr_H} {P : Option Value → sr_H → Prop} (w : sr_wp mX5_twins d iX5_twins_0 0 L st b h P) : sr_Go mX5_twins d 0 L st b h P := sr_wp_go kX5_twins_0 w
theorem kX5_twins_10 : sr_is cX5_twins 10 iX5_twins_10 = true := sr_is_suf (as := aX5_twins_0) kX5_twins_0
theorem lX5_twins_10 {d : Nat} {L : sr_L} {st : List Value} {b : Nat × Nat} {h : sr_H} {P : Option Value → sr_H → Prop} (w : sr_wp mX5_twins d iX5_twins_10 10 L st b h P) : sr_Go mX5_twins d 10 L st b h P := sr_wp_go kX5_twins_10 w
theorem kX5_twins_14 : sr_is cX5_twins 14 iX5_twins_14 = true := sr_is_suf (as := aX5_twins_10) kX5_twins_10
theorem lX5_twins_14 {d : Nat} {L : sr_L} {st : List Value} {b : Nat × Nat} {h : sr_H} {P : Option Value → sr_H → Prop} (w : sr_wp mX5_twins d iX5_twins_14 14 L st b h P) : sr_Go mX5_twins d 14 L st b h P := sr_wp_go kX5_twins_14 w
theorem kX5_twins_38 : sr_is cX5_twins 38 iX5_twins_38 = true := sr_is_suf (as := aX5_twins_14) kX5_twins_14
theorem lX5_twins_38 {d : Nat} {L : sr_L} {st : List Value} {b : Nat × Nat} {h : sr_H} {P : Option Value → sr_H → Prop} (w : sr_wp mX5_twins d iX5_twins_38 38 L st b h P) : sr_Go mX5_twins d 38 L st b h P := sr_wp_go kX5_twins_38 w
theorem kX5_twins_39 : sr_is cX5_twins 39 iX5_twins_39 = true := sr_is_suf (as := aX5_twins_38) kX5_twins_38
theorem lX5_twins_39 {d : Nat} {L : sr_L} {st : List Value} {b : Nat × Nat} {h : sr_H} {P : Option Value → sr_H → Prop} (w : sr_wp mX5_twins d iX5_twins_39 39 L st b h P) : sr_Go mX5_twins d 39 L st b h P := sr_wp_go kX5_twins_39 w
theorem kX5_twins_47 : sr_is cX5_twins 47 iX5_twins_47 = true := sr_is_suf (as := aX5_twins_39) kX5_twins_39
theorem lX5_twins_47 {d : Nat} {L : sr_L} {st : List Value} {b : Nat × Nat} {h : sr_H} {P : Option Value → sr_H → Prop} (w : sr_wp mX5_twins d iX5_twins_47 47 L st b h P) : sr_Go mX5_twins d 47 L st b h P := sr_wp_go kX5_twins_47 w
def iX5_pairs_80 : List (Instr × Nat × Nat) := [(.aload_n 0, 81, 0), (.iload_n 2, 82, 0), (.iload_n 1, 83, 0), (.invokevirtual 102, 86, 0), (.ireturn, 87, 0)]
def aX5_pairs_74 : List (Instr × Nat × Nat) := [(.iinc 3 1, 77, 0), (.goto (-70), 80, 7)]
def iX5_pairs_74 : List (Instr × Nat × Nat) := aX5_pairs_74 ++ iX5_pairs_80
def aX5_pairs_68 : List (Instr × Nat × Nat) := [(.iinc 4 1, 71, 0), (.goto (-51), 74, 20)]
def iX5_pairs_68 : List (Instr × Nat × Nat) := aX5_pairs_68 ++ iX5_pairs_74
def aX5_pairs_64 : List (Instr × Nat × Nat) := [(.istore_n 2, 65, 0), (.iinc 1 1, 68, 0)]
def iX5_pairs_64 : List (Instr × Nat × Nat) := aX5_pairs_64 ++ iX5_pairs_68
def aX5_pairs_63 : List (Instr × Nat × Nat) := [(.iload_n 2, 64, 0)]
def iX5_pairs_63 : List (Instr × Nat × Nat) := aX5_pairs_63 ++ iX5_pairs_64
def aX5_pairs_20 : List (Instr × Nat × Nat) := [(.iload 4, 22, 0), (.aload_n 0, 23, 0), (.getfield 145, 26, 0), (.if_icmp .ge 48, 29, 74), (.aload_n 0, 30, 0), (.iload_n 3, 31, 0), (.iload 4, 33, 0), (.invokevirtual 223, 36, 0), (.ifCond .eq 32, 39, 68), (.aload_n 0, 40, 0), (.iload 4, 42, 0), (.iload_n 3, 43, 0), (.invokevirtual 223, 46, 0), (.ifCond .eq 22, 49, 68), (.iload_n 1, 50, 0), (.ifCond .ne 13, 53, 63), (.bipush 6, 55, 0), (.iload_n 3, 56, 0), (.imul, 57, 0), (.iload 4, 59, 0), (.iadd, 60, 0), (.goto 4, 63, 64)]
def iX5_pairs_20 : List (Instr × Nat × Nat) := aX5_pairs_20 ++ iX5_pairs_63
def aX5_pairs_7 : List (Instr × Nat × Nat) := [(.iload_n 3, 8, 0), (.aload_n 0, 9, 0), (.getfield 145, 12, 0), (.if_icmp .ge 68, 15, 80), (.iload_n 3, 16, 0), (.iconst 1, 17, 0), (.iadd, 18, 0), (.istore 4, 20, 0)]
def iX5_pairs_7 : List (Instr × Nat × Nat) := aX5_pairs_7 ++ iX5_pairs_20
def aX5_pairs_0 : List (Instr × Nat × Nat) := [(.iconst 0, 1, 0), (.istore_n 1, 2, 0), (.bipush (-9), 4, 0), (.istore_n 2, 5, 0), (.iconst 0, 6, 0), (.istore_n 3, 7, 0)]
def iX5_pairs_0 : List (Instr × Nat × Nat) := aX5_pairs_0 ++ iX5_pairs_7
theorem kX5_pairs_0 : sr_is cX5_pairs 0 iX5_pairs_0 = true := by decide +kernel
theorem lX5_pairs_0 {d : Nat} {L : sr_L} {st : List Value} {b : Nat × Nat} {h : sr_H} {P : Option Value → sr_H → Prop} (w : sr_wp mX5_pairs d iX5_pairs_0 0 L st b h P) : sr_Go mX5_pairs d 0 L st b h P := sr_wp_go kX5_pairs_0 w
theorem kX5_pairs_7 : sr_is cX5_pairs 7 iX5_pairs_7 = true := sr_is_suf (as := aX5_pairs_0) kX5_pairs_0
theorem lX5_pairs_7 {d : Nat} {L : sr_L} {st : List Value} {b : Nat × Nat} {h : sr_H} {P : Option Value → sr_H → Prop} (w : sr_wp mX5_pairs d iX5_pairs_7 7 L st b h P) : sr_Go mX5_pairs d 7 L st b h P := sr_wp_go kX5_pairs_7 w
theorem kX5_pairs_20 : sr_is cX5_pairs 20 iX5_pairs_20 = true := sr_is_suf (as := aX5_pairs_7) kX5_pairs_7
theorem lX5_pairs_20 {d : Nat} {L : sr_L} {st : List Value} {b : Nat × Nat} {h : sr_H} {P : Option Value → sr_H → Prop} (w : sr_wp mX5_pairs d iX5_pairs_20 20 L st b h P) : sr_Go mX5_pairs d 20 L st b h P := sr_wp_go kX5_pairs_20 w
theorem kX5_pairs_63 : sr_is cX5_pairs 63 iX5_pairs_63 = true := sr_is_suf (as := aX5_pairs_20) kX5_pairs_20
theorem lX5_pairs_63 {d : Nat} {L : sr_L} {st : List Value} {b : Nat × Nat} {h : sr_H} {P : Option Value → sr_H → Prop} (w : sr_wp mX5_pairs d iX5_pairs_63 63 L st b h P) : sr_Go mX5_pairs d 63 L st b h P := sr_wp_go kX5_pairs_63 w
theorem kX5_pairs_64 : sr_is cX5_pairs 64 iX5_pairs_64 = true := sr_is_suf (as := aX5_pairs_63) kX5_pairs_63
theorem lX5_pairs_64 {d : Nat} {L : sr_L} {st : List Value} {b : Nat × Nat} {h : sr_H} {P : Option Value → sr_H → Prop} (w : sr_wp mX5_pairs d iX5_pairs_64 64 L st b h P) : sr_Go mX5_pairs d 64 L st b h P := sr_wp_go kX5_pairs_64 w
theorem kX5_pairs_68 : sr_is cX5_pairs 68 iX5_pairs_68 = true := sr_is_suf (as := aX5_pairs_64) kX5_pairs_64
theorem lX5_pairs_68 {d : Nat} {L : sr_L} {st : List Value} {b : Nat × Nat} {h : sr_H} {P : Option Value → sr_H → Prop} (w : sr_wp mX5_pairs d iX5_pairs_68 68 L st b h P) : sr_Go mX5_pairs d 68 L st b h P := sr_wp_go kX5_pairs_68 w
theorem kX5_pairs_74 : sr_is cX5_pairs 74 iX5_pairs_74 = true := sr_is_suf (as := aX5_pairs_68) kX5_pairs_68
theorem lX5_pairs_74 {d : Nat} {L : sr_L} {st : List Value} {b : Nat × Nat} {h : sr_H} {P : Option Value → sr_H → Prop} (w : sr_wp mX5_pairs d iX5_pairs_74 74 L st b h P) : sr_Go mX5_pairs d 74 L st b h P := sr_wp_go kX5_pairs_74 w
theorem kX5_pairs_80 : sr_is cX5_pairs 80 iX5_pairs_80 = true := sr_is_suf (as := aX5_pairs_74) kX5_pairs_74
theorem lX5_pairs_80 {d : Nat} {L : sr_L} {st : List Value} {b : Nat × Nat} {h : sr_H} {P : Option Value → sr_H → Prop} (w : sr_wp mX5_pairs d iX5_pairs_80 80 L st b h P) : sr_Go mX5_pairs d 80 L st b h P := sr_wp_go kX5_pairs_80 w
def iX5_layRings_128 : List (Instr × Nat × Nat) := [(.return_, 129, 0)]
def aX5_layRings_122 : List (Instr × Nat × Nat) := [(.iinc 4 1, 125, 0), (.goto (-44), 128, 81)]
def iX5_layRings_122 : List (Instr × Nat × Nat) := aX5_layRings_122 ++ iX5_layRings_128
def aX5_layRings_81 : List (Instr × Nat × Nat) := [(.iload 4, 83, 0), (.aload_n 0, 84, 0), (.getfield 145, 87, 0), (.if_icmp .ge 41, 90, 128), (.iload_n 3, 91, 0), (.iload 4, 93, 0), (.invokestatic 192, 96, 0), (.ifCond .ne 26, 99, 122), (.aload_n 0, 100, 0), (.iload 4, 102, 0), (.iload_n 2, 103, 0), (.invokevirtual 223, 106, 0), (.ifCond .eq 16, 109, 122), (.aload_n 0, 110, 0), (.iload_n 1, 111, 0), (.iload 4, 113, 0), (.iload_n 3, 114, 0), (.iconst 1, 115, 0), (.iload 4, 117, 0), (.ishl, 118, 0), (.ior, 119, 0), (.invokevirtual 229, 122, 0)]
def iX5_layRings_81 : List (Instr × Nat × Nat) := aX5_layRings_81 ++ iX5_layRings_122
def aX5_layRings_78 : List (Instr × Nat × Nat) := [(.iconst 0, 79, 0), (.istore 4, 81, 0)]
def iX5_layRings_78 : List (Instr × Nat × Nat) := aX5_layRings_78 ++ iX5_layRings_81
def aX5_layRings_75 : List (Instr × Nat × Nat) := [(.putfield 226, 78, 0)]
def iX5_layRings_75 : List (Instr × Nat × Nat) := aX5_layRings_75 ++ iX5_layRings_78
def aX5_layRings_71 : List (Instr × Nat × Nat) := [(.aload_n 0, 72, 0), (.getfield 226, 75, 0)]
def iX5_layRings_71 : List (Instr × Nat × Nat) := aX5_layRings_71 ++ iX5_layRings_75
def aX5_layRings_59 : List (Instr × Nat × Nat) := [(.istore 4, 61, 0), (.aload_n 0, 62, 0), (.iload 4, 64, 0), (.ifCond .eq 7, 67, 71), (.iload_n 3, 68, 0), (.goto 7, 71, 75)]
def iX5_layRings_59 : List (Instr × Nat × Nat) := aX5_layRings_59 ++ iX5_layRings_71
def aX5_layRings_58 : List (Instr × Nat × Nat) := [(.iconst 0, 59, 0)]
def iX5_layRings_58 : List (Instr × Nat × Nat) := aX5_layRings_58 ++ iX5_layRings_59
def aX5_layRings_54 : List (Instr × Nat × Nat) := [(.iconst 1, 55, 0), (.goto 4, 58, 59)]
def iX5_layRings_54 : List (Instr × Nat × Nat) := aX5_layRings_54 ++ iX5_layRings_58
def aX5_layRings_0 : List (Instr × Nat × Nat) := [(.aload_n 0, 1, 0), (.iload_n 1, 2, 0), (.iload_n 2, 3, 0), (.invokevirtual 223, 6, 0), (.ifCond .eq 72, 9, 78), (.aload_n 0, 10, 0), (.getfield 226, 13, 0), (.bipush (-9), 15, 0), (.if_icmp .eq 39, 18, 54), (.iload_n 3, 19, 0), (.invokestatic 183, 22, 0), (.aload_n 0, 23, 0), (.getfield 226, 26, 0), (.invokestatic 183, 29, 0), (.if_icmp .lt 25, 32, 54), (.iload_n 3, 33, 0), (.invokestatic 183, 36, 0), (.aload_n 0, 37, 0), (.getfield 226, 40, 0), (.invokestatic 183, 43, 0), (.if_icmp .ne 15, 46, 58), (.iload_n 3, 47, 0), (.aload_n 0, 48, 0), (.getfield 226, 51, 0), (.if_icmp .ge 7, 54, 58)]
def iX5_layRings_0 : List (Instr × Nat × Nat) := aX5_layRings_0 ++ iX5_layRings_54
theorem kX5_layRings_0 : sr_is cX5_layRings 0 iX5_layRings_0 = true := by decide +kernel
theorem lX5_layRings_0 {d : Nat} {L : sr_L} {st : List Value} {b : Nat × Nat} {h : sr_H} {P : Option Value → sr_H → Prop} (w : sr_wp mX5_layRings d iX5_layRings_0 0 L st b h P) : sr_Go mX5_layRings d 0 L st b h P := sr_wp_go kX5_layRings_0 w
theorem kX5_layRings_54 : sr_is cX5_layRings 54 iX5_layRings_54 = true := sr_is_suf (as := aX5_layRings_0) kX5_layRings_0
theorem lX5_layRings_54 {d : Nat} {L : sr_L} {st : List Value} {b : Nat × Nat} {h : sr_H} {P : Option Value → sr_H → Prop} (w : sr_wp mX5_layRings d iX5_layRings_54 54 L st b h P) : sr_Go mX5_layRings d 54 L st b h P := sr_wp_go kX5_layRings_54 w
theorem kX5_layRings_58 : sr_is cX5_layRings 58 iX5_layRings_58 = true := sr_is_suf (as := aX5_layRings_54) kX5_layRings_54
theorem lX5_layRings_58 {d : Nat} {L : sr_L} {st : List Value} {b : Nat × Nat} {h : sr_H} {P : Option Value → sr_H → Prop} (w : sr_wp mX5_layRings d iX5_layRings_58 58 L st b h P) : sr_Go mX5_layRings d 58 L st b h P := sr_wp_go kX5_layRings_58 w
theorem kX5_layRings_59 : sr_is cX5_layRings 59 iX5_layRings_59 = true := sr_is_suf (as := aX5_layRings_58) kX5_layRings_58
theorem lX5_layRings_59 {d : Nat} {L : sr_L} {st : List Value} {b : Nat × Nat} {h : sr_H} {P : Option Value → sr_H → Prop} (w : sr_wp mX5_layRings d iX5_layRings_59 59 L st b h P) : sr_Go mX5_layRings d 59 L st b h P := sr_wp_go kX5_layRings_59 w
theorem kX5_layRings_71 : sr_is cX5_layRings 71 iX5_layRings_71 = true := sr_is_suf (as := aX5_layRings_59) kX5_layRings_59
theorem lX5_layRings_71 {d : Nat} {L : sr_L} {st : List Value} {b : Nat × Nat} {h : sr_H} {P : Option Value → sr_H → Prop} (w : sr_wp mX5_layRings d iX5_layRings_71 71 L st b h P) : sr_Go mX5_layRings d 71 L st b h P := sr_wp_go kX5_layRings_71 w
theorem kX5_layRings_75 : sr_is cX5_layRings 75 iX5_layRings_75 = true := sr_is_suf (as := aX5_layRings_71) kX5_layRings_71
theorem lX5_layRings_75 {d : Nat} {L : sr_L} {st : List Value} {b : Nat × Nat} {h : sr_H} {P : Option Value → sr_H → Prop} (w : sr_wp mX5_layRings d iX5_layRings_75 75 L st b h P) : sr_Go mX5_layRings d 75 L st b h P := sr_wp_go kX5_layRings_75 w
theorem kX5_layRings_78 : sr_is cX5_layRings 78 iX5_layRings_78 = true := sr_is_suf (as := aX5_layRings_75) kX5_layRings_75
theorem lX5_layRings_78 {d : Nat} {L : sr_L} {st : List Value} {b : Nat × Nat} {h : sr_H} {P : Option Value → sr_H → Prop} (w : sr_wp mX5_layRings d iX5_layRings_78 78 L st b h P) : sr_Go mX5_layRings d 78 L st b h P := sr_wp_go kX5_layRings_78 w
theorem kX5_layRings_81 : sr_is cX5_layRings 81 iX5_layRings_81 = true := sr_is_suf (as := aX5_layRings_78) kX5_layRings_78
theorem lX5_layRings_81 {d : Nat} {L : sr_L} {st : List Value} {b : Nat × Nat} {h : sr_H} {P : Option Value → sr_H → Prop} (w : sr_wp mX5_layRings d iX5_layRings_81 81 L st b h P) : sr_Go mX5_layRings d 81 L st b h P := sr_wp_go kX5_layRings_81 w
theorem kX5_layRings_122 : sr_is cX5_layRings 122 iX5_layRings_122 = true := sr_is_suf (as := aX5_layRings_81) kX5_layRings_81
theorem lX5_layRings_122 {d : Nat} {L : sr_L} {st : List Value} {b : Nat × Nat} {h : sr_H} {P : Option Value → sr_H → Prop} (w : sr_wp mX5_layRings d iX5_layRings_122 122 L st b h P) : sr_Go mX5_layRings d 122 L st b h P := sr_wp_go kX5_layRings_122 w
theorem kX5_layRings_128 : sr_is cX5_layRings 128 iX5_layRings_128 = true := sr_is_suf (as := aX5_layRings_122) kX5_layRings_122
theorem lX5_layRings_128 {d : Nat} {L : sr_L} {st : List Value} {b : Nat × Nat} {h : sr_H} {P : Option Value → sr_H → Prop} (w : sr_wp mX5_layRings d iX5_layRings_128 128 L st b h P) : sr_Go mX5_layRings d 128 L st b h P := sr_wp_go kX5_layRings_128 w
def iX5_ring_60 : List (Instr × Nat × Nat) := [(.ireturn, 61, 0)]
def aX5_ring_45 : List (Instr × Nat × Nat) := [(.aload_n 0, 46, 0), (.aload_n 0, 47, 0), (.getfield 226, 50, 0), (.aload_n 0, 51, 0), (.getfield 226, 54, 0), (.invokestatic 183, 57, 0), (.invokevirtual 102, 60, 0)]
def iX5_ring_45 : List (Instr × Nat × Nat) := aX5_ring_45 ++ iX5_ring_60
def aX5_ring_31 : List (Instr × Nat × Nat) := [(.aload_n 0, 32, 0), (.getfield 226, 35, 0), (.bipush (-9), 37, 0), (.if_icmp .ne 8, 40, 45), (.bipush (-9), 42, 0), (.goto 18, 45, 60)]
def iX5_ring_31 : List (Instr × Nat × Nat) := aX5_ring_31 ++ iX5_ring_45
def aX5_ring_8 : List (Instr × Nat × Nat) := [(.iload_n 1, 9, 0), (.aload_n 0, 10, 0), (.getfield 145, 13, 0), (.if_icmp .ge 18, 16, 31), (.aload_n 0, 17, 0), (.iload_n 1, 18, 0), (.iload_n 1, 19, 0), (.iconst 1, 20, 0), (.iload_n 1, 21, 0), (.ishl, 22, 0), (.invokevirtual 229, 25, 0), (.iinc 1 1, 28, 0), (.goto (-20), 31, 8)]
def iX5_ring_8 : List (Instr × Nat × Nat) := aX5_ring_8 ++ iX5_ring_31
def aX5_ring_0 : List (Instr × Nat × Nat) := [(.aload_n 0, 1, 0), (.bipush (-9), 3, 0), (.putfield 226, 6, 0), (.iconst 0, 7, 0), (.istore_n 1, 8, 0)]
def iX5_ring_0 : List (Instr × Nat × Nat) := aX5_ring_0 ++ iX5_ring_8
theorem kX5_ring_0 : sr_is cX5_ring 0 iX5_ring_0 = true := by decide +kernel
theorem lX5_ring_0 {d : Nat} {L : sr_L} {st : List Value} {b : Nat × Nat} {h : sr_H} {P : Option Value → sr_H → Prop} (w : sr_wp mX5_ring d iX5_ring_0 0 L st b h P) : sr_Go mX5_ring d 0 L st b h P := sr_wp_go kX5_ring_0 w
theorem kX5_ring_8 : sr_is cX5_ring 8 iX5_ring_8 = true := sr_is_suf (as := aX5_ring_0) kX5_ring_0
theorem lX5_ring_8 {d : Nat} {L : sr_L} {st : List Value} {b : Nat × Nat} {h : sr_H} {P : Option Value → sr_H → Prop} (w : sr_wp mX5_ring d iX5_ring_8 8 L st b h P) : sr_Go mX5_ring d 8 L st b h P := sr_wp_go kX5_ring_8 w
theorem kX5_ring_31 : sr_is cX5_ring 31 iX5_ring_31 = true := sr_is_suf (as := aX5_ring_8) kX5_ring_8
theorem lX5_ring_31 {d : Nat} {L : sr_L} {st : List Value} {b : Nat × Nat} {h : sr_H} {P : Option Value → sr_H → Prop} (w : sr_wp mX5_ring d iX5_ring_31 31 L st b h P) : sr_Go mX5_ring d 31 L st b h P := sr_wp_go kX5_ring_31 w
theorem kX5_ring_45 : sr_is cX5_ring 45 iX5_ring_45 = true := sr_is_suf (as := aX5_ring_31) kX5_ring_31
theorem lX5_ring_45 {d : Nat} {L : sr_L} {st : List Value} {b : Nat × Nat} {h : sr_H} {P : Option Value → sr_H → Prop} (w : sr_wp mX5_ring d iX5_ring_45 45 L st b h P) : sr_Go mX5_ring d 45 L st b h P := sr_wp_go kX5_ring_45 w
theorem kX5_ring_60 : sr_is cX5_ring 60 iX5_ring_60 = true := sr_is_suf (as := aX5_ring_45) kX5_ring_45
theorem lX5_ring_60 {d : Nat} {L : sr_L} {st : List Value} {b : Nat × Nat} {h : sr_H} {P : Option Value → sr_H → Prop} (w : sr_wp mX5_ring d iX5_ring_60 60 L st b h P) : sr_Go mX5_ring d 60 L st b h P := sr_wp_go kX5_ring_60 w
def iX5_who_54 : List (Instr × Nat × Nat) := [(.iadd, 55, 0), (.ireturn, 56, 0)]
def aX5_who_53 : List (Instr × Nat × Nat) := [(.iconst 0, 54, 0)]
def iX5_who_53 : List (Instr × Nat × Nat) := aX5_who_53 ++ iX5_who_54
def aX5_who_36 : List (Instr × Nat × Nat) := [(.iload_n 2, 37, 0), (.aload_n 0, 38, 0), (.iload_n 1, 39, 0), (.iconst 1, 40, 0), (.invokevirtual 201, 43, 0), (.iconst (-1), 44, 0), (.ixor, 45, 0), (.iand, 46, 0), (.ifCond .ne 7, 49, 53), (.iconst 2, 50, 0), (.goto 4, 53, 54)]
def iX5_who_36 : List (Instr × Nat × Nat) := aX5_who_36 ++ iX5_who_53
def aX5_who_35 : List (Instr × Nat × Nat) := [(.iconst 0, 36, 0)]
def iX5_who_35 : List (Instr × Nat × Nat) := aX5_who_35 ++ iX5_who_36
def aX5_who_18 : List (Instr × Nat × Nat) := [(.iload_n 2, 19, 0), (.aload_n 0, 20, 0), (.iload_n 1, 21, 0), (.iconst 0, 22, 0), (.invokevirtual 201, 25, 0), (.iconst (-1), 26, 0), (.ixor, 27, 0), (.iand, 28, 0), (.ifCond .ne 7, 31, 35), (.iconst 1, 32, 0), (.goto 4, 35, 36)]
def iX5_who_18 : List (Instr × Nat × Nat) := aX5_who_18 ++ iX5_who_35
def aX5_who_16 : List (Instr × Nat × Nat) := [(.iconst (-1), 17, 0), (.ireturn, 18, 0)]
def iX5_who_16 : List (Instr × Nat × Nat) := aX5_who_16 ++ iX5_who_18
def aX5_who_0 : List (Instr × Nat × Nat) := [(.aload_n 0, 1, 0), (.iload_n 1, 2, 0), (.invokevirtual 174, 5, 0), (.ifCond .eq 11, 8, 16), (.aload_n 0, 9, 0), (.iload_n 2, 10, 0), (.invokevirtual 207, 13, 0), (.ifCond .ne 5, 16, 18)]
def iX5_who_0 : List (Instr × Nat × Nat) := aX5_who_0 ++ iX5_who_16
theorem kX5_who_0 : sr_is cX5_who 0 iX5_who_0 = true := by decide +kernel
theorem lX5_who_0 {d : Nat} {L : sr_L} {st : List Value} {b : Nat × Nat} {h : sr_H} {P : Option Value → sr_H → Prop} (w : sr_wp mX5_who d iX5_who_0 0 L st b h P) : sr_Go mX5_who d 0 L st b h P := sr_wp_go kX5_who_0 w
theorem kX5_who_16 : sr_is cX5_who 16 iX5_who_16 = true := sr_is_suf (as := aX5_who_0) kX5_who_0
theorem lX5_who_16 {d : Nat} {L : sr_L} {st : List Value} {b : Nat × Nat} {h : sr_H} {P : Option Value → sr_H → Prop} (w : sr_wp mX5_who d iX5_who_16 16 L st b h P) : sr_Go mX5_who d 16 L st b h P := sr_wp_go kX5_who_16 w
theorem kX5_who_18 : sr_is cX5_who 18 iX5_who_18 = true := sr_is_suf (as := aX5_who_16) kX5_who_16
theorem lX5_who_18 {d : Nat} {L : sr_L} {st : List Value} {b : Nat × Nat} {h : sr_H} {P : Option Value → sr_H → Prop} (w : sr_wp mX5_who d iX5_who_18 18 L st b h P) : sr_Go mX5_who d 18 L st b h P := sr_wp_go kX5_who_18 w
theorem kX5_who_35 : sr_is cX5_who 35 iX5_who_35 = true := sr_is_suf (as := aX5_who_18) kX5_who_18
theorem lX5_who_35 {d : Nat} {L : sr_L} {st : List Value} {b : Nat × Nat} {h : sr_H} {P : Option Value → sr_H → Prop} (w : sr_wp mX5_who d iX5_who_35 35 L st b h P) : sr_Go mX5_who d 35 L st b h P := sr_wp_go kX5_who_35 w
theorem kX5_who_36 : sr_is cX5_who 36 iX5_who_36 = true := sr_is_suf (as := aX5_who_35) kX5_who_35
theorem lX5_who_36 {d : Nat} {L : sr_L} {st : List Value} {b : Nat × Nat} {h : sr_H} {P : Option Value → sr_H → Prop} (w : sr_wp mX5_who d iX5_who_36 36 L st b h P) : sr_Go mX5_who d 36 L st b h P := sr_wp_go kX5_who_36 w
theorem kX5_who_53 : sr_is cX5_who 53 iX5_who_53 = true := sr_is_suf (as := aX5_who_36) kX5_who_36
theorem lX5_who_53 {d : Nat} {L : sr_L} {st : List Value} {b : Nat × Nat} {h : sr_H} {P : Option Value → sr_H → Prop} (w : sr_wp mX5_who d iX5_who_53 53 L st b h P) : sr_Go mX5_who d 53 L st b h P := sr_wp_go kX5_who_53 w
theorem kX5_who_54 : sr_is cX5_who 54 iX5_who_54 = true := sr_is_suf (as := aX5_who_53) kX5_who_53
theorem lX5_who_54 {d : Nat} {L : sr_L} {st : List Value} {b : Nat × Nat} {h : sr_H} {P : Option Value → sr_H → Prop} (w : sr_wp mX5_who d iX5_who_54 54 L st b h P) : sr_Go mX5_who d 54 L st b h P := sr_wp_go kX5_who_54 w
def iX5_marks_152 : List (Instr × Nat × Nat) := [(.aload_n 0, 153, 0), (.iconst 2, 154, 0), (.aload_n 0, 155, 0), (.getfield 145, 158, 0), (.imul, 159, 0), (.invokevirtual 213, 162, 0), (.istore_n 1, 163, 0), (.aload_n 0, 164, 0), (.iload_n 1, 165, 0), (.iload_n 1, 166, 0), (.invokestatic 183, 169, 0), (.invokevirtual 102, 172, 0), (.ireturn, 173, 0)]
def aX5_marks_146 : List (Instr × Nat × Nat) := [(.iinc 1 1, 149, 0), (.goto (-101), 152, 48)]
def iX5_marks_146 : List (Instr × Nat × Nat) := aX5_marks_146 ++ iX5_marks_152
def aX5_marks_140 : List (Instr × Nat × Nat) := [(.iinc 2 1, 143, 0), (.goto (-83), 146, 60)]
def iX5_marks_140 : List (Instr × Nat × Nat) := aX5_marks_140 ++ iX5_marks_146
def aX5_marks_114 : List (Instr × Nat × Nat) := [(.istore 4, 116, 0), (.iload_n 3, 117, 0), (.iload 4, 119, 0), (.if_icmp .eq 21, 122, 140), (.aload_n 0, 123, 0), (.getfield 73, 126, 0), (.iload_n 1, 127, 0), (.iaload, 128, 0), (.aload_n 0, 129, 0), (.getfield 73, 132, 0), (.iload_n 2, 133, 0), (.iaload, 134, 0), (.if_icmp .ne 6, 137, 140), (.bipush (-9), 139, 0), (.ireturn, 140, 0)]
def iX5_marks_114 : List (Instr × Nat × Nat) := aX5_marks_114 ++ iX5_marks_140
def aX5_marks_107 : List (Instr × Nat × Nat) := [(.aload_n 0, 108, 0), (.iload_n 2, 109, 0), (.iconst 2, 110, 0), (.idiv, 111, 0), (.invokevirtual 171, 114, 0)]
def iX5_marks_107 : List (Instr × Nat × Nat) := aX5_marks_107 ++ iX5_marks_114
def aX5_marks_89 : List (Instr × Nat × Nat) := [(.istore_n 3, 90, 0), (.iload_n 2, 91, 0), (.iconst 2, 92, 0), (.irem, 93, 0), (.ifCond .ne 14, 96, 107), (.aload_n 0, 97, 0), (.getfield 36, 100, 0), (.iload_n 2, 101, 0), (.iconst 2, 102, 0), (.idiv, 103, 0), (.iaload, 104, 0), (.goto 10, 107, 114)]
def iX5_marks_89 : List (Instr × Nat × Nat) := aX5_marks_89 ++ iX5_marks_107
def aX5_marks_82 : List (Instr × Nat × Nat) := [(.aload_n 0, 83, 0), (.iload_n 1, 84, 0), (.iconst 2, 85, 0), (.idiv, 86, 0), (.invokevirtual 171, 89, 0)]
def iX5_marks_82 : List (Instr × Nat × Nat) := aX5_marks_82 ++ iX5_marks_89
def aX5_marks_60 : List (Instr × Nat × Nat) := [(.iload_n 2, 61, 0), (.iload_n 1, 62, 0), (.if_icmp .ge 84, 65, 146), (.iload_n 1, 66, 0), (.iconst 2, 67, 0), (.irem, 68, 0), (.ifCond .ne 14, 71, 82), (.aload_n 0, 72, 0), (.getfield 36, 75, 0), (.iload_n 1, 76, 0), (.iconst 2, 77, 0), (.idiv, 78, 0), (.iaload, 79, 0), (.goto 10, 82, 89)]
def iX5_marks_60 : List (Instr × Nat × Nat) := aX5_marks_60 ++ iX5_marks_82
def aX5_marks_48 : List (Instr × Nat × Nat) := [(.iload_n 1, 49, 0), (.iconst 2, 50, 0), (.aload_n 0, 51, 0), (.getfield 145, 54, 0), (.imul, 55, 0), (.if_icmp .ge 97, 58, 152), (.iconst 0, 59, 0), (.istore_n 2, 60, 0)]
def iX5_marks_48 : List (Instr × Nat × Nat) := aX5_marks_48 ++ iX5_marks_60
def aX5_marks_46 : List (Instr × Nat × Nat) := [(.iconst 0, 47, 0), (.istore_n 1, 48, 0)]
def iX5_marks_46 : List (Instr × Nat × Nat) := aX5_marks_46 ++ iX5_marks_48
def aX5_marks_2 : List (Instr × Nat × Nat) := [(.iload_n 1, 3, 0), (.aload_n 0, 4, 0), (.getfield 145, 7, 0), (.if_icmp .ge 39, 10, 46), (.aload_n 0, 11, 0), (.getfield 73, 14, 0), (.iconst 2, 15, 0), (.iload_n 1, 16, 0), (.imul, 17, 0), (.aload_n 0, 18, 0), (.iload_n 1, 19, 0), (.iconst 0, 20, 0), (.invokevirtual 201, 23, 0), (.iastore, 24, 0), (.aload_n 0, 25, 0), (.getfield 73, 28, 0), (.iconst 2, 29, 0), (.iload_n 1, 30, 0), (.imul, 31, 0), (.iconst 1, 32, 0), (.iadd, 33, 0), (.aload_n 0, 34, 0), (.iload_n 1, 35, 0), (.iconst 1, 36, 0), (.invokevirtual 201, 39, 0), (.iastore, 40, 0), (.iinc 1 1, 43, 0), (.goto (-41), 46, 2)]
def iX5_marks_2 : List (Instr × Nat × Nat) := aX5_marks_2 ++ iX5_marks_46
def aX5_marks_0 : List (Instr × Nat × Nat) := [(.iconst 0, 1, 0), (.istore_n 1, 2, 0)]
def iX5_marks_0 : List (Instr × Nat × Nat) := aX5_marks_0 ++ iX5_marks_2
theorem kX5_marks_0 : sr_is cX5_marks 0 iX5_marks_0 = true := by decide +kernel
theorem lX5_marks_0 {d : Nat} {L : sr_L} {st : List Value} {b : Nat × Nat} {h : sr_H} {P : Option Value → sr_H → Prop} (w : sr_wp mX5_marks d iX5_marks_0 0 L st b h P) : sr_Go mX5_marks d 0 L st b h P := sr_wp_go kX5_marks_0 w
theorem kX5_marks_2 : sr_is cX5_marks 2 iX5_marks_2 = true := sr_is_suf (as := aX5_marks_0) kX5_marks_0
theorem lX5_marks_2 {d : Nat} {L : sr_L} {st : List Value} {b : Nat × Nat} {h : sr_H} {P : Option Value → sr_H → Prop} (w : sr_wp mX5_marks d iX5_marks_2 2 L st b h P) : sr_Go mX5_marks d 2 L st b h P := sr_wp_go kX5_marks_2 w
theorem kX5_marks_46 : sr_is cX5_marks 46 iX5_marks_46 = true := sr_is_suf (as := aX5_marks_2) kX5_marks_2
theorem lX5_marks_46 {d : Nat} {L : sr_L} {st : List Value} {b : Nat × Nat} {h : sr_H} {P : Option Value → sr_H → Prop} (w : sr_wp mX5_marks d iX5_marks_46 46 L st b h P) : sr_Go mX5_marks d 46 L st b h P := sr_wp_go kX5_marks_46 w
theorem kX5_marks_48 : sr_is cX5_marks 48 iX5_marks_48 = true := sr_is_suf (as := aX5_marks_46) kX5_marks_46
theorem lX5_marks_48 {d : Nat} {L : sr_L} {st : List Value} {b : Nat × Nat} {h : sr_H} {P : Option Value → sr_H → Prop} (w : sr_wp mX5_marks d iX5_marks_48 48 L st b h P) : sr_Go mX5_marks d 48 L st b h P := sr_wp_go kX5_marks_48 w
theorem kX5_marks_60 : sr_is cX5_marks 60 iX5_marks_60 = true := sr_is_suf (as := aX5_marks_48) kX5_marks_48
theorem lX5_marks_60 {d : Nat} {L : sr_L} {st : List Value} {b : Nat × Nat} {h : sr_H} {P : Option Value → sr_H → Prop} (w : sr_wp mX5_marks d iX5_marks_60 60 L st b h P) : sr_Go mX5_marks d 60 L st b h P := sr_wp_go kX5_marks_60 w
theorem kX5_marks_82 : sr_is cX5_marks 82 iX5_marks_82 = true := sr_is_suf (as := aX5_marks_60) kX5_marks_60
theorem lX5_marks_82 {d : Nat} {L : sr_L} {st : List Value} {b : Nat × Nat} {h : sr_H} {P : Option Value → sr_H → Prop} (w : sr_wp mX5_marks d iX5_marks_82 82 L st b h P) : sr_Go mX5_marks d 82 L st b h P := sr_wp_go kX5_marks_82 w
theorem kX5_marks_89 : sr_is cX5_marks 89 iX5_marks_89 = true := sr_is_suf (as := aX5_marks_82) kX5_marks_82
theorem lX5_marks_89 {d : Nat} {L : sr_L} {st : List Value} {b : Nat × Nat} {h : sr_H} {P : Option Value → sr_H → Prop} (w : sr_wp mX5_marks d iX5_marks_89 89 L st b h P) : sr_Go mX5_marks d 89 L st b h P := sr_wp_go kX5_marks_89 w
theorem kX5_marks_107 : sr_is cX5_marks 107 iX5_marks_107 = true := sr_is_suf (as := aX5_marks_89) kX5_marks_89
theorem lX5_marks_107 {d : Nat} {L : sr_L} {st : List Value} {b : Nat × Nat} {h : sr_H} {P : Option Value → sr_H → Prop} (w : sr_wp mX5_marks d iX5_marks_107 107 L st b h P) : sr_Go mX5_marks d 107 L st b h P := sr_wp_go kX5_marks_107 w
theorem kX5_marks_114 : sr_is cX5_marks 114 iX5_marks_114 = true := sr_is_suf (as := aX5_marks_107) kX5_marks_107
theorem lX5_marks_114 {d : Nat} {L : sr_L} {st : List Value} {b : Nat × Nat} {h : sr_H} {P : Option Value → sr_H → Prop} (w : sr_wp mX5_marks d iX5_marks_114 114 L st b h P) : sr_Go mX5_marks d 114 L st b h P := sr_wp_go kX5_marks_114 w
theorem kX5_marks_140 : sr_is cX5_marks 140 iX5_marks_140 = true := sr_is_suf (as := aX5_marks_114) kX5_marks_114
theorem lX5_marks_140 {d : Nat} {L : sr_L} {st : List Value} {b : Nat × Nat} {h : sr_H} {P : Option Value → sr_H → Prop} (w : sr_wp mX5_marks d iX5_marks_140 140 L st b h P) : sr_Go mX5_marks d 140 L st b h P := sr_wp_go kX5_marks_140 w
theorem kX5_marks_146 : sr_is cX5_marks 146 iX5_marks_146 = true := sr_is_suf (as := aX5_marks_140) kX5_marks_140
theorem lX5_marks_146 {d : Nat} {L : sr_L} {st : List Value} {b : Nat × Nat} {h : sr_H} {P : Option Value → sr_H → Prop} (w : sr_wp mX5_marks d iX5_marks_146 146 L st b h P) : sr_Go mX5_marks d 146 L st b h P := sr_wp_go kX5_marks_146 w
theorem kX5_marks_152 : sr_is cX5_marks 152 iX5_marks_152 = true := sr_is_suf (as := aX5_marks_146) kX5_marks_146
theorem lX5_marks_152 {d : Nat} {L : sr_L} {st : List Value} {b : Nat × Nat} {h : sr_H} {P : Option Value → sr_H → Prop} (w : sr_wp mX5_marks d iX5_marks_152 152 L st b h P) : sr_Go mX5_marks d 152 L st b h P := sr_wp_go kX5_marks_152 w
def iX5_billOf_89 : List (Instr × Nat × Nat) := [(.ireturn, 90, 0)]
def aX5_billOf_84 : List (Instr × Nat × Nat) := [(.iload 4, 86, 0), (.iload 4, 88, 0), (.imul, 89, 0)]
def iX5_billOf_84 : List (Instr × Nat × Nat) := aX5_billOf_84 ++ iX5_billOf_89
def aX5_billOf_72 : List (Instr × Nat × Nat) := [(.iload_n 3, 73, 0), (.iload 4, 75, 0), (.if_icmp .le 9, 78, 84), (.iload_n 3, 79, 0), (.iload_n 3, 80, 0), (.imul, 81, 0), (.goto 8, 84, 89)]
def iX5_billOf_72 : List (Instr × Nat × Nat) := aX5_billOf_72 ++ iX5_billOf_84
def aX5_billOf_70 : List (Instr × Nat × Nat) := [(.iadd, 71, 0), (.ireturn, 72, 0)]
def iX5_billOf_70 : List (Instr × Nat × Nat) := aX5_billOf_70 ++ iX5_billOf_72
def aX5_billOf_69 : List (Instr × Nat × Nat) := [(.iconst 0, 70, 0)]
def iX5_billOf_69 : List (Instr × Nat × Nat) := aX5_billOf_69 ++ iX5_billOf_70
def aX5_billOf_37 : List (Instr × Nat × Nat) := [(.iload_n 3, 38, 0), (.iload 4, 40, 0), (.iadd, 41, 0), (.iload 4, 43, 0), (.ifCond .le 26, 46, 69), (.iconst 2, 47, 0), (.aload_n 0, 48, 0), (.iload_n 1, 49, 0), (.iconst 1, 50, 0), (.invokevirtual 201, 53, 0), (.aload_n 0, 54, 0), (.iload_n 1, 55, 0), (.iconst 0, 56, 0), (.invokevirtual 201, 59, 0), (.iconst (-1), 60, 0), (.ixor, 61, 0), (.iand, 62, 0), (.invokestatic 183, 65, 0), (.imul, 66, 0), (.goto 4, 69, 70)]
def iX5_billOf_37 : List (Instr × Nat × Nat) := aX5_billOf_37 ++ iX5_billOf_69
def aX5_billOf_28 : List (Instr × Nat × Nat) := [(.iconst 2, 29, 0), (.iload_n 3, 30, 0), (.imul, 31, 0), (.iconst 3, 32, 0), (.iload 4, 34, 0), (.imul, 35, 0), (.iadd, 36, 0), (.ireturn, 37, 0)]
def iX5_billOf_28 : List (Instr × Nat × Nat) := aX5_billOf_28 ++ iX5_billOf_37
def aX5_billOf_0 : List (Instr × Nat × Nat) := [(.iload_n 2, 1, 0), (.lookupswitch 71 #[(0, 27), (1, 36)], 28, 0)]
def iX5_billOf_0 : List (Instr × Nat × Nat) := aX5_billOf_0 ++ iX5_billOf_28
theorem kX5_billOf_0 : sr_is cX5_billOf 0 iX5_billOf_0 = true := by decide +kernel
theorem lX5_billOf_0 {d : Nat} {L : sr_L} {st : List Value} {b : Nat × Nat} {h : sr_H} {P : Option Value → sr_H → Prop} (w : sr_wp mX5_billOf d iX5_billOf_0 0 L st b h P) : sr_Go mX5_billOf d 0 L st b h P := sr_wp_go kX5_billOf_0 w
theorem kX5_billOf_28 : sr_is cX5_billOf 28 iX5_billOf_28 = true := sr_is_suf (as := aX5_billOf_0) kX5_billOf_0
theorem lX5_billOf_28 {d : Nat} {L : sr_L} {st : List Value} {b : Nat × Nat} {h : sr_H} {P : Option Value → sr_H → Prop} (w : sr_wp mX5_billOf d iX5_billOf_28 28 L st b h P) : sr_Go mX5_billOf d 28 L st b h P := sr_wp_go kX5_billOf_28 w
theorem kX5_billOf_37 : sr_is cX5_billOf 37 iX5_billOf_37 = true := sr_is_suf (as := aX5_billOf_28) kX5_billOf_28
theorem lX5_billOf_37 {d : Nat} {L : sr_L} {st : List Value} {b : Nat × Nat} {h : sr_H} {P : Option Value → sr_H → Prop} (w : sr_wp mX5_billOf d iX5_billOf_37 37 L st b h P) : sr_Go mX5_billOf d 37 L st b h P := sr_wp_go kX5_billOf_37 w
theorem kX5_billOf_69 : sr_is cX5_billOf 69 iX5_billOf_69 = true := sr_is_suf (as := aX5_billOf_37) kX5_billOf_37
theorem lX5_billOf_69 {d : Nat} {L : sr_L} {st : List Value} {b : Nat × Nat} {h : sr_H} {P : Option Value → sr_H → Prop} (w : sr_wp mX5_billOf d iX5_billOf_69 69 L st b h P) : sr_Go mX5_billOf d 69 L st b h P := sr_wp_go kX5_billOf_69 w
theorem kX5_billOf_70 : sr_is cX5_billOf 70 iX5_billOf_70 = true := sr_is_suf (as := aX5_billOf_69) kX5_billOf_69
theorem lX5_billOf_70 {d : Nat} {L : sr_L} {st : List Value} {b : Nat × Nat} {h : sr_H} {P : Option Value → sr_H → Prop} (w : sr_wp mX5_billOf d iX5_billOf_70 70 L st b h P) : sr_Go mX5_billOf d 70 L st b h P := sr_wp_go kX5_billOf_70 w
theorem kX5_billOf_72 : sr_is cX5_billOf 72 iX5_billOf_72 = true := sr_is_suf (as := aX5_billOf_70) kX5_billOf_70
theorem lX5_billOf_72 {d : Nat} {L : sr_L} {st : List Value} {b : Nat × Nat} {h : sr_H} {P : Option Value → sr_H → Prop} (w : sr_wp mX5_billOf d iX5_billOf_72 72 L st b h P) : sr_Go mX5_billOf d 72 L st b h P := sr_wp_go kX5_billOf_72 w
theorem kX5_billOf_84 : sr_is cX5_billOf 84 iX5_billOf_84 = true := sr_is_suf (as := aX5_billOf_72) kX5_billOf_72
theorem lX5_billOf_84 {d : Nat} {L : sr_L} {st : List Value} {b : Nat × Nat} {h : sr_H} {P : Option Value → sr_H → Prop} (w : sr_wp mX5_billOf d iX5_billOf_84 84 L st b h P) : sr_Go mX5_billOf d 84 L st b h P := sr_wp_go kX5_billOf_84 w
theorem kX5_billOf_89 : sr_is cX5_billOf 89 iX5_billOf_89 = true := sr_is_suf (as := aX5_billOf_84) kX5_billOf_84
theorem lX5_billOf_89 {d : Nat} {L : sr_L} {st : List Value} {b : Nat × Nat} {h : sr_H} {P : Option Value → sr_H → Prop} (w : sr_wp mX5_billOf d iX5_billOf_89 89 L st b h P) : sr_Go mX5_billOf d 89 L st b h P := sr_wp_go kX5_billOf_89 w
def iX5_bill_44 : List (Instr × Nat × Nat) := [(.ireturn, 45, 0)]
def aX5_bill_43 : List (Instr × Nat × Nat) := [(.iconst (-1), 44, 0)]
def iX5_bill_43 : List (Instr × Nat × Nat) := aX5_bill_43 ++ iX5_bill_44
def aX5_bill_0 : List (Instr × Nat × Nat) := [(.aload_n 0, 1, 0), (.iload_n 1, 2, 0), (.invokevirtual 174, 5, 0), (.ifCond .eq 38, 8, 43), (.iload_n 2, 9, 0), (.iconst 0, 10, 0), (.iconst 2, 11, 0), (.invokestatic 80, 14, 0), (.ifCond .eq 29, 17, 43), (.aload_n 0, 18, 0), (.iload_n 1, 19, 0), (.iload_n 2, 20, 0), (.aload_n 0, 21, 0), (.getfield 51, 24, 0), (.iconst 2, 25, 0), (.iload_n 1, 26, 0), (.iadd, 27, 0), (.iaload, 28, 0), (.aload_n 0, 29, 0), (.getfield 51, 32, 0), (.bipush 7, 34, 0), (.iload_n 1, 35, 0), (.iadd, 36, 0), (.iaload, 37, 0), (.invokevirtual 233, 40, 0), (.goto 4, 43, 44)]
def iX5_bill_0 : List (Instr × Nat × Nat) := aX5_bill_0 ++ iX5_bill_43
theorem kX5_bill_0 : sr_is cX5_bill 0 iX5_bill_0 = true := by decide +kernel
theorem lX5_bill_0 {d : Nat} {L : sr_L} {st : List Value} {b : Nat × Nat} {h : sr_H} {P : Option Value → sr_H → Prop} (w : sr_wp mX5_bill d iX5_bill_0 0 L st b h P) : sr_Go mX5_bill d 0 L st b h P := sr_wp_go kX5_bill_0 w
theorem kX5_bill_43 : sr_is cX5_bill 43 iX5_bill_43 = true := sr_is_suf (as := aX5_bill_0) kX5_bill_0
theorem lX5_bill_43 {d : Nat} {L : sr_L} {st : List Value} {b : Nat × Nat} {h : sr_H} {P : Option Value → sr_H → Prop} (w : sr_wp mX5_bill d iX5_bill_43 43 L st b h P) : sr_Go mX5_bill d 43 L st b h P := sr_wp_go kX5_bill_43 w
theorem kX5_bill_44 : sr_is cX5_bill 44 iX5_bill_44 = true := sr_is_suf (as := aX5_bill_43) kX5_bill_43
theorem lX5_bill_44 {d : Nat} {L : sr_L} {st : List Value} {b : Nat × Nat} {h : sr_H} {P : Option Value → sr_H → Prop} (w : sr_wp mX5_bill d iX5_bill_44 44 L st b h P) : sr_Go mX5_bill d 44 L st b h P := sr_wp_go kX5_bill_44 w
def iX5_pays_81 : List (Instr × Nat × Nat) := [(.iload 4, 83, 0), (.ireturn, 84, 0)]
def aX5_pays_72 : List (Instr × Nat × Nat) := [(.ior, 73, 0), (.istore 4, 75, 0), (.iinc 5 1, 78, 0), (.goto (-43), 81, 35)]
def iX5_pays_72 : List (Instr × Nat × Nat) := aX5_pays_72 ++ iX5_pays_81
def aX5_pays_71 : List (Instr × Nat × Nat) := [(.iconst 0, 72, 0)]
def iX5_pays_71 : List (Instr × Nat × Nat) := aX5_pays_71 ++ iX5_pays_72
def aX5_pays_35 : List (Instr × Nat × Nat) := [(.iload 5, 37, 0), (.iconst 3, 38, 0), (.if_icmp .ge 43, 41, 81), (.iload 4, 43, 0), (.aload_n 0, 44, 0), (.iload_n 1, 45, 0), (.iload 5, 47, 0), (.iload_n 3, 48, 0), (.iload_n 2, 49, 0), (.invokevirtual 233, 52, 0), (.aload_n 0, 53, 0), (.iload_n 1, 54, 0), (.iload 5, 56, 0), (.iload_n 2, 57, 0), (.iload_n 3, 58, 0), (.invokevirtual 233, 61, 0), (.if_icmp .ge 10, 64, 71), (.iconst 1, 65, 0), (.iload 5, 67, 0), (.ishl, 68, 0), (.goto 4, 71, 72)]
def iX5_pays_35 : List (Instr × Nat × Nat) := aX5_pays_35 ++ iX5_pays_71
def aX5_pays_10 : List (Instr × Nat × Nat) := [(.aload_n 0, 11, 0), (.getfield 51, 14, 0), (.iconst 2, 15, 0), (.iload_n 1, 16, 0), (.iadd, 17, 0), (.iaload, 18, 0), (.istore_n 2, 19, 0), (.aload_n 0, 20, 0), (.getfield 51, 23, 0), (.bipush 7, 25, 0), (.iload_n 1, 26, 0), (.iadd, 27, 0), (.iaload, 28, 0), (.istore_n 3, 29, 0), (.iconst 0, 30, 0), (.istore 4, 32, 0), (.iconst 0, 33, 0), (.istore 5, 35, 0)]
def iX5_pays_10 : List (Instr × Nat × Nat) := aX5_pays_10 ++ iX5_pays_35
def aX5_pays_0 : List (Instr × Nat × Nat) := [(.aload_n 0, 1, 0), (.iload_n 1, 2, 0), (.invokevirtual 174, 5, 0), (.ifCond .ne 5, 8, 10), (.iconst (-1), 9, 0), (.ireturn, 10, 0)]
def iX5_pays_0 : List (Instr × Nat × Nat) := aX5_pays_0 ++ iX5_pays_10
theorem kX5_pays_0 : sr_is cX5_pays 0 iX5_pays_0 = true := by decide +kernel
theorem lX5_pays_0 {d : Nat} {L : sr_L} {st : List Value} {b : Nat × Nat} {h : sr_H} {P : Option Value → sr_H → Prop} (w : sr_wp mX5_pays d iX5_pays_0 0 L st b h P) : sr_Go mX5_pays d 0 L st b h P := sr_wp_go kX5_pays_0 w
theorem kX5_pays_10 : sr_is cX5_pays 10 iX5_pays_10 = true := sr_is_suf (as := aX5_pays_0) kX5_pays_0
theorem lX5_pays_10 {d : Nat} {L : sr_L} {st : List Value} {b : Nat × Nat} {h : sr_H} {P : Option Value → sr_H → Prop} (w : sr_wp mX5_pays d iX5_pays_10 10 L st b h P) : sr_Go mX5_pays d 10 L st b h P := sr_wp_go kX5_pays_10 w
theorem kX5_pays_35 : sr_is cX5_pays 35 iX5_pays_35 = true := sr_is_suf (as := aX5_pays_10) kX5_pays_10
theorem lX5_pays_35 {d : Nat} {L : sr_L} {st : List Value} {b : Nat × Nat} {h : sr_H} {P : Option Value → sr_H → Prop} (w : sr_wp mX5_pays d iX5_pays_35 35 L st b h P) : sr_Go mX5_pays d 35 L st b h P := sr_wp_go kX5_pays_35 w
theorem kX5_pays_71 : sr_is cX5_pays 71 iX5_pays_71 = true := sr_is_suf (as := aX5_pays_35) kX5_pays_35
theorem lX5_pays_71 {d : Nat} {L : sr_L} {st : List Value} {b : Nat × Nat} {h : sr_H} {P : Option Value → sr_H → Prop} (w : sr_wp mX5_pays d iX5_pays_71 71 L st b h P) : sr_Go mX5_pays d 71 L st b h P := sr_wp_go kX5_pays_71 w
theorem kX5_pays_72 : sr_is cX5_pays 72 iX5_pays_72 = true := sr_is_suf (as := aX5_pays_71) kX5_pays_71
theorem lX5_pays_72 {d : Nat} {L : sr_L} {st : List Value} {b : Nat × Nat} {h : sr_H} {P : Option Value → sr_H → Prop} (w : sr_wp mX5_pays d iX5_pays_72 72 L st b h P) : sr_Go mX5_pays d 72 L st b h P := sr_wp_go kX5_pays_72 w
theorem kX5_pays_81 : sr_is cX5_pays 81 iX5_pays_81 = true := sr_is_suf (as := aX5_pays_72) kX5_pays_72
theorem lX5_pays_81 {d : Nat} {L : sr_L} {st : List Value} {b : Nat × Nat} {h : sr_H} {P : Option Value → sr_H → Prop} (w : sr_wp mX5_pays d iX5_pays_81 81 L st b h P) : sr_Go mX5_pays d 81 L st b h P := sr_wp_go kX5_pays_81 w
def iX5_cheapest_92 : List (Instr × Nat × Nat) := [(.aload_n 0, 93, 0), (.aload_n 0, 94, 0), (.iload_n 1, 95, 0), (.iload_n 2, 96, 0), (.iload_n 3, 97, 0), (.iload 4, 99, 0), (.isub, 100, 0), (.iload 4, 102, 0), (.invokevirtual 233, 105, 0), (.iload 4, 107, 0), (.invokevirtual 102, 110, 0), (.ireturn, 111, 0)]
def aX5_cheapest_84 : List (Instr × Nat × Nat) := [(.istore 4, 86, 0), (.iinc 5 1, 89, 0), (.goto (-45), 92, 44)]
def iX5_cheapest_84 : List (Instr × Nat × Nat) := aX5_cheapest_84 ++ iX5_cheapest_92
def aX5_cheapest_82 : List (Instr × Nat × Nat) := [(.iload 4, 84, 0)]
def iX5_cheapest_82 : List (Instr × Nat × Nat) := aX5_cheapest_82 ++ iX5_cheapest_84
def aX5_cheapest_44 : List (Instr × Nat × Nat) := [(.iload 5, 46, 0), (.iload_n 3, 47, 0), (.if_icmp .gt 45, 50, 92), (.aload_n 0, 51, 0), (.iload_n 1, 52, 0), (.iload_n 2, 53, 0), (.iload_n 3, 54, 0), (.iload 5, 56, 0), (.isub, 57, 0), (.iload 5, 59, 0), (.invokevirtual 233, 62, 0), (.aload_n 0, 63, 0), (.iload_n 1, 64, 0), (.iload_n 2, 65, 0), (.iload_n 3, 66, 0), (.iload 4, 68, 0), (.isub, 69, 0), (.iload 4, 71, 0), (.invokevirtual 233, 74, 0), (.if_icmp .ge 8, 77, 82), (.iload 5, 79, 0), (.goto 5, 82, 84)]
def iX5_cheapest_44 : List (Instr × Nat × Nat) := aX5_cheapest_44 ++ iX5_cheapest_82
def aX5_cheapest_19 : List (Instr × Nat × Nat) := [(.aload_n 0, 20, 0), (.getfield 51, 23, 0), (.iconst 2, 24, 0), (.iload_n 1, 25, 0), (.iadd, 26, 0), (.iaload, 27, 0), (.aload_n 0, 28, 0), (.getfield 51, 31, 0), (.bipush 7, 33, 0), (.iload_n 1, 34, 0), (.iadd, 35, 0), (.iaload, 36, 0), (.iadd, 37, 0), (.istore_n 3, 38, 0), (.iconst 0, 39, 0), (.istore 4, 41, 0), (.iconst 1, 42, 0), (.istore 5, 44, 0)]
def iX5_cheapest_19 : List (Instr × Nat × Nat) := aX5_cheapest_19 ++ iX5_cheapest_44
def aX5_cheapest_17 : List (Instr × Nat × Nat) := [(.iconst (-1), 18, 0), (.ireturn, 19, 0)]
def iX5_cheapest_17 : List (Instr × Nat × Nat) := aX5_cheapest_17 ++ iX5_cheapest_19
def aX5_cheapest_0 : List (Instr × Nat × Nat) := [(.aload_n 0, 1, 0), (.iload_n 1, 2, 0), (.invokevirtual 174, 5, 0), (.ifCond .eq 12, 8, 17), (.iload_n 2, 9, 0), (.iconst 0, 10, 0), (.iconst 2, 11, 0), (.invokestatic 80, 14, 0), (.ifCond .ne 5, 17, 19)]
def iX5_cheapest_0 : List (Instr × Nat × Nat) := aX5_cheapest_0 ++ iX5_cheapest_17
theorem kX5_cheapest_0 : sr_is cX5_cheapest 0 iX5_cheapest_0 = true := by decide +kernel
theorem lX5_cheapest_0 {d : Nat} {L : sr_L} {st : List Value} {b : Nat × Nat} {h : sr_H} {P : Option Value → sr_H → Prop} (w : sr_wp mX5_cheapest d iX5_cheapest_0 0 L st b h P) : sr_Go mX5_cheapest d 0 L st b h P := sr_wp_go kX5_cheapest_0 w
theorem kX5_cheapest_17 : sr_is cX5_cheapest 17 iX5_cheapest_17 = true := sr_is_suf (as := aX5_cheapest_0) kX5_cheapest_0
theorem lX5_cheapest_17 {d : Nat} {L : sr_L} {st : List Value} {b : Nat × Nat} {h : sr_H} {P : Option Value → sr_H → Prop} (w : sr_wp mX5_cheapest d iX5_cheapest_17 17 L st b h P) : sr_Go mX5_cheapest d 17 L st b h P := sr_wp_go kX5_cheapest_17 w
theorem kX5_cheapest_19 : sr_is cX5_cheapest 19 iX5_cheapest_19 = true := sr_is_suf (as := aX5_cheapest_17) kX5_cheapest_17
theorem lX5_cheapest_19 {d : Nat} {L : sr_L} {st : List Value} {b : Nat × Nat} {h : sr_H} {P : Option Value → sr_H → Prop} (w : sr_wp mX5_cheapest d iX5_cheapest_19 19 L st b h P) : sr_Go mX5_cheapest d 19 L st b h P := sr_wp_go kX5_cheapest_19 w
theorem kX5_cheapest_44 : sr_is cX5_cheapest 44 iX5_cheapest_44 = true := sr_is_suf (as := aX5_cheapest_19) kX5_cheapest_19
theorem lX5_cheapest_44 {d : Nat} {L : sr_L} {st : List Value} {b : Nat × Nat} {h : sr_H} {P : Option Value → sr_H → Prop} (w : sr_wp mX5_cheapest d iX5_cheapest_44 44 L st b h P) : sr_Go mX5_cheapest d 44 L st b h P := sr_wp_go kX5_cheapest_44 w
theorem kX5_cheapest_82 : sr_is cX5_cheapest 82 iX5_cheapest_82 = true := sr_is_suf (as := aX5_cheapest_44) kX5_cheapest_44
theorem lX5_cheapest_82 {d : Nat} {L : sr_L} {st : List Value} {b : Nat × Nat} {h : sr_H} {P : Option Value → sr_H → Prop} (w : sr_wp mX5_cheapest d iX5_cheapest_82 82 L st b h P) : sr_Go mX5_cheapest d 82 L st b h P := sr_wp_go kX5_cheapest_82 w
theorem kX5_cheapest_84 : sr_is cX5_cheapest 84 iX5_cheapest_84 = true := sr_is_suf (as := aX5_cheapest_82) kX5_cheapest_82
theorem lX5_cheapest_84 {d : Nat} {L : sr_L} {st : List Value} {b : Nat × Nat} {h : sr_H} {P : Option Value → sr_H → Prop} (w : sr_wp mX5_cheapest d iX5_cheapest_84 84 L st b h P) : sr_Go mX5_cheapest d 84 L st b h P := sr_wp_go kX5_cheapest_84 w
theorem kX5_cheapest_92 : sr_is cX5_cheapest 92 iX5_cheapest_92 = true := sr_is_suf (as := aX5_cheapest_84) kX5_cheapest_84
theorem lX5_cheapest_92 {d : Nat} {L : sr_L} {st : List Value} {b : Nat × Nat} {h : sr_H} {P : Option Value → sr_H → Prop} (w : sr_wp mX5_cheapest d iX5_cheapest_92 92 L st b h P) : sr_Go mX5_cheapest d 92 L st b h P := sr_wp_go kX5_cheapest_92 w
def iX5_spread_47 : List (Instr × Nat × Nat) := [(.aload_n 0, 48, 0), (.iload_n 2, 49, 0), (.aload_n 0, 50, 0), (.getfield 148, 53, 0), (.invokevirtual 237, 56, 0), (.ireturn, 57, 0)]
def aX5_spread_14 : List (Instr × Nat × Nat) := [(.iload_n 3, 15, 0), (.aload_n 0, 16, 0), (.getfield 148, 19, 0), (.if_icmp .ge 28, 22, 47), (.iload_n 2, 23, 0), (.aload_n 0, 24, 0), (.getfield 36, 27, 0), (.iload_n 1, 28, 0), (.iaload, 29, 0), (.aload_n 0, 30, 0), (.iload_n 1, 31, 0), (.iload_n 3, 32, 0), (.invokevirtual 164, 35, 0), (.ixor, 36, 0), (.invokestatic 183, 39, 0), (.iadd, 40, 0), (.istore_n 2, 41, 0), (.iinc 3 1, 44, 0), (.goto (-30), 47, 14)]
def iX5_spread_14 : List (Instr × Nat × Nat) := aX5_spread_14 ++ iX5_spread_47
def aX5_spread_10 : List (Instr × Nat × Nat) := [(.iconst 0, 11, 0), (.istore_n 2, 12, 0), (.iconst 0, 13, 0), (.istore_n 3, 14, 0)]
def iX5_spread_10 : List (Instr × Nat × Nat) := aX5_spread_10 ++ iX5_spread_14
def aX5_spread_0 : List (Instr × Nat × Nat) := [(.aload_n 0, 1, 0), (.iload_n 1, 2, 0), (.invokevirtual 174, 5, 0), (.ifCond .ne 5, 8, 10), (.iconst (-1), 9, 0), (.ireturn, 10, 0)]
def iX5_spread_0 : List (Instr × Nat × Nat) := aX5_spread_0 ++ iX5_spread_10
theorem kX5_spread_0 : sr_is cX5_spread 0 iX5_spread_0 = true := by decide +kernel
theorem lX5_spread_0 {d : Nat} {L : sr_L} {st : List Value} {b : Nat × Nat} {h : sr_H} {P : Option Value → sr_H → Prop} (w : sr_wp mX5_spread d iX5_spread_0 0 L st b h P) : sr_Go mX5_spread d 0 L st b h P := sr_wp_go kX5_spread_0 w
theorem kX5_spread_10 : sr_is cX5_spread 10 iX5_spread_10 = true := sr_is_suf (as := aX5_spread_0) kX5_spread_0
theorem lX5_spread_10 {d : Nat} {L : sr_L} {st : List Value} {b : Nat × Nat} {h : sr_H} {P : Option Value → sr_H → Prop} (w : sr_wp mX5_spread d iX5_spread_10 10 L st b h P) : sr_Go mX5_spread d 10 L st b h P := sr_wp_go kX5_spread_10 w
theorem kX5_spread_14 : sr_is cX5_spread 14 iX5_spread_14 = true := sr_is_suf (as := aX5_spread_10) kX5_spread_10
theorem lX5_spread_14 {d : Nat} {L : sr_L} {st : List Value} {b : Nat × Nat} {h : sr_H} {P : Option Value → sr_H → Prop} (w : sr_wp mX5_spread d iX5_spread_14 14 L st b h P) : sr_Go mX5_spread d 14 L st b h P := sr_wp_go kX5_spread_14 w
theorem kX5_spread_47 : sr_is cX5_spread 47 iX5_spread_47 = true := sr_is_suf (as := aX5_spread_14) kX5_spread_14
theorem lX5_spread_47 {d : Nat} {L : sr_L} {st : List Value} {b : Nat × Nat} {h : sr_H} {P : Option Value → sr_H → Prop} (w : sr_wp mX5_spread d iX5_spread_47 47 L st b h P) : sr_Go mX5_spread d 47 L st b h P := sr_wp_go kX5_spread_47 w
def iX5_odds_34 : List (Instr × Nat × Nat) := [(.ireturn, 35, 0)]
def aX5_odds_33 : List (Instr × Nat × Nat) := [(.iconst (-1), 34, 0)]
def iX5_odds_33 : List (Instr × Nat × Nat) := aX5_odds_33 ++ iX5_odds_34
def aX5_odds_0 : List (Instr × Nat × Nat) := [(.aload_n 0, 1, 0), (.iload_n 1, 2, 0), (.invokevirtual 174, 5, 0), (.ifCond .eq 28, 8, 33), (.aload_n 0, 9, 0), (.iload_n 2, 10, 0), (.invokevirtual 220, 13, 0), (.ifCond .eq 20, 16, 33), (.aload_n 0, 17, 0), (.aload_n 0, 18, 0), (.iload_n 1, 19, 0), (.iload_n 2, 20, 0), (.invokevirtual 217, 23, 0), (.aload_n 0, 24, 0), (.getfield 148, 27, 0), (.invokevirtual 237, 30, 0), (.goto 4, 33, 34)]
def iX5_odds_0 : List (Instr × Nat × Nat) := aX5_odds_0 ++ iX5_odds_33
theorem kX5_odds_0 : sr_is cX5_odds 0 iX5_odds_0 = true := by decide +kernel
theorem lX5_odds_0 {d : Nat} {L : sr_L} {st : List Value} {b : Nat × Nat} {h : sr_H} {P : Option Value → sr_H → Prop} (w : sr_wp mX5_odds d iX5_odds_0 0 L st b h P) : sr_Go mX5_odds d 0 L st b h P := sr_wp_go kX5_odds_0 w
theorem kX5_odds_33 : sr_is cX5_odds 33 iX5_odds_33 = true := sr_is_suf (as := aX5_odds_0) kX5_odds_0
theorem lX5_odds_33 {d : Nat} {L : sr_L} {st : List Value} {b : Nat × Nat} {h : sr_H} {P : Option Value → sr_H → Prop} (w : sr_wp mX5_odds d iX5_odds_33 33 L st b h P) : sr_Go mX5_odds d 33 L st b h P := sr_wp_go kX5_odds_33 w
theorem kX5_odds_34 : sr_is cX5_odds 34 iX5_odds_34 = true := sr_is_suf (as := aX5_odds_33) kX5_odds_33
theorem lX5_odds_34 {d : Nat} {L : sr_L} {st : List Value} {b : Nat × Nat} {h : sr_H} {P : Option Value → sr_H → Prop} (w : sr_wp mX5_odds d iX5_odds_34 34 L st b h P) : sr_Go mX5_odds d 34 L st b h P := sr_wp_go kX5_odds_34 w
def iX5_lots_169 : List (Instr × Nat × Nat) := [(.aload_n 0, 170, 0), (.getfield 51, 173, 0), (.iconst 0, 174, 0), (.iaload, 175, 0), (.invokestatic 183, 178, 0), (.ireturn, 179, 0)]
def aX5_lots_163 : List (Instr × Nat × Nat) := [(.iinc 5 1, 166, 0), (.goto (-114), 169, 52)]
def iX5_lots_163 : List (Instr × Nat × Nat) := aX5_lots_163 ++ iX5_lots_169
def aX5_lots_156 : List (Instr × Nat × Nat) := [(.aload_n 0, 157, 0), (.iload 6, 159, 0), (.invokevirtual 198, 162, 0), (.pop, 163, 0)]
def iX5_lots_156 : List (Instr × Nat × Nat) := aX5_lots_156 ++ iX5_lots_163
def aX5_lots_135 : List (Instr × Nat × Nat) := [(.iload 7, 137, 0), (.ifCond .ne 19, 140, 156), (.aload_n 0, 141, 0), (.getfield 51, 144, 0), (.iconst 0, 145, 0), (.dup2, 146, 0), (.iaload, 147, 0), (.iconst 1, 148, 0), (.iload 6, 150, 0), (.ishl, 151, 0), (.ixor, 152, 0), (.iastore, 153, 0), (.goto 10, 156, 163)]
def iX5_lots_135 : List (Instr × Nat × Nat) := aX5_lots_135 ++ iX5_lots_156
def aX5_lots_119 : List (Instr × Nat × Nat) := [(.aload_n 0, 120, 0), (.getfield 51, 123, 0), (.iconst 1, 124, 0), (.dup2, 125, 0), (.iaload, 126, 0), (.iconst 1, 127, 0), (.iload 6, 129, 0), (.ishl, 130, 0), (.ixor, 131, 0), (.iastore, 132, 0), (.goto 31, 135, 163)]
def iX5_lots_119 : List (Instr × Nat × Nat) := aX5_lots_119 ++ iX5_lots_135
def aX5_lots_52 : List (Instr × Nat × Nat) := [(.iload 5, 54, 0), (.iload_n 1, 55, 0), (.if_icmp .ge 114, 58, 169), (.ldc2_w 241, 61, 0), (.lload_n 3, 62, 0), (.lmul, 63, 0), (.ldc2_w 243, 66, 0), (.lrem, 67, 0), (.lstore_n 3, 68, 0), (.lload_n 3, 69, 0), (.aload_n 0, 70, 0), (.getfield 145, 73, 0), (.i2l, 74, 0), (.lrem, 75, 0), (.l2i, 76, 0), (.istore 6, 78, 0), (.lload_n 3, 79, 0), (.ldc2_w 245, 82, 0), (.ldiv, 83, 0), (.ldc2_w 247, 86, 0), (.lrem, 87, 0), (.l2i, 88, 0), (.istore 7, 90, 0), (.aload_n 0, 91, 0), (.invokevirtual 195, 94, 0), (.iload 7, 96, 0), (.iconst 1, 97, 0), (.if_icmp .eq 22, 100, 119), (.iload 7, 102, 0), (.ifCond .ne 33, 105, 135), (.aload_n 0, 106, 0), (.getfield 51, 109, 0), (.iconst 1, 110, 0), (.iaload, 111, 0), (.iload 6, 113, 0), (.invokestatic 192, 116, 0), (.ifCond .eq 19, 119, 135)]
def iX5_lots_52 : List (Instr × Nat × Nat) := aX5_lots_52 ++ iX5_lots_119
def aX5_lots_46 : List (Instr × Nat × Nat) := [(.iload_n 2, 47, 0), (.i2l, 48, 0), (.lstore_n 3, 49, 0), (.iconst 0, 50, 0), (.istore 5, 52, 0)]
def iX5_lots_46 : List (Instr × Nat × Nat) := aX5_lots_46 ++ iX5_lots_52
def aX5_lots_32 : List (Instr × Nat × Nat) := [(.aload_n 0, 33, 0), (.getfield 154, 36, 0), (.iload_n 1, 37, 0), (.iadd, 38, 0), (.bipush 60, 40, 0), (.if_icmp .le 6, 43, 46), (.bipush (-2), 45, 0), (.ireturn, 46, 0)]
def iX5_lots_32 : List (Instr × Nat × Nat) := aX5_lots_32 ++ iX5_lots_46
def aX5_lots_22 : List (Instr × Nat × Nat) := [(.aload_n 0, 23, 0), (.getfield 145, 26, 0), (.ifCond .ne 6, 29, 32), (.bipush (-4), 31, 0), (.ireturn, 32, 0)]
def iX5_lots_22 : List (Instr × Nat × Nat) := aX5_lots_22 ++ iX5_lots_32
def aX5_lots_20 : List (Instr × Nat × Nat) := [(.iconst (-1), 21, 0), (.ireturn, 22, 0)]
def iX5_lots_20 : List (Instr × Nat × Nat) := aX5_lots_20 ++ iX5_lots_22
def aX5_lots_0 : List (Instr × Nat × Nat) := [(.iload_n 1, 1, 0), (.iconst 1, 2, 0), (.bipush 30, 4, 0), (.invokestatic 80, 7, 0), (.ifCond .eq 13, 10, 20), (.iload_n 2, 11, 0), (.iconst 1, 12, 0), (.ldc 240, 14, 0), (.invokestatic 80, 17, 0), (.ifCond .ne 5, 20, 22)]
def iX5_lots_0 : List (Instr × Nat × Nat) := aX5_lots_0 ++ iX5_lots_20
theorem kX5_lots_0 : sr_is cX5_lots 0 iX5_lots_0 = true := by decide +kernel
theorem lX5_lots_0 {d : Nat} {L : sr_L} {st : List Value} {b : Nat × Nat} {h : sr_H} {P : Option Value → sr_H → Prop} (w : sr_wp mX5_lots d iX5_lots_0 0 L st b h P) : sr_Go mX5_lots d 0 L st b h P := sr_wp_go kX5_lots_0 w
theorem kX5_lots_20 : sr_is cX5_lots 20 iX5_lots_20 = true := sr_is_suf (as := aX5_lots_0) kX5_lots_0
theorem lX5_lots_20 {d : Nat} {L : sr_L} {st : List Value} {b : Nat × Nat} {h : sr_H} {P : Option Value → sr_H → Prop} (w : sr_wp mX5_lots d iX5_lots_20 20 L st b h P) : sr_Go mX5_lots d 20 L st b h P := sr_wp_go kX5_lots_20 w
theorem kX5_lots_22 : sr_is cX5_lots 22 iX5_lots_22 = true := sr_is_suf (as := aX5_lots_20) kX5_lots_20
theorem lX5_lots_22 {d : Nat} {L : sr_L} {st : List Value} {b : Nat × Nat} {h : sr_H} {P : Option Value → sr_H → Prop} (w : sr_wp mX5_lots d iX5_lots_22 22 L st b h P) : sr_Go mX5_lots d 22 L st b h P := sr_wp_go kX5_lots_22 w
theorem kX5_lots_32 : sr_is cX5_lots 32 iX5_lots_32 = true := sr_is_suf (as := aX5_lots_22) kX5_lots_22
theorem lX5_lots_32 {d : Nat} {L : sr_L} {st : List Value} {b : Nat × Nat} {h : sr_H} {P : Option Value → sr_H → Prop} (w : sr_wp mX5_lots d iX5_lots_32 32 L st b h P) : sr_Go mX5_lots d 32 L st b h P := sr_wp_go kX5_lots_32 w
theorem kX5_lots_46 : sr_is cX5_lots 46 iX5_lots_46 = true := sr_is_suf (as := aX5_lots_32) kX5_lots_32
theorem lX5_lots_46 {d : Nat} {L : sr_L} {st : List Value} {b : Nat × Nat} {h : sr_H} {P : Option Value → sr_H → Prop} (w : sr_wp mX5_lots d iX5_lots_46 46 L st b h P) : sr_Go mX5_lots d 46 L st b h P := sr_wp_go kX5_lots_46 w
theorem kX5_lots_52 : sr_is cX5_lots 52 iX5_lots_52 = true := sr_is_suf (as := aX5_lots_46) kX5_lots_46
theorem lX5_lots_52 {d : Nat} {L : sr_L} {st : List Value} {b : Nat × Nat} {h : sr_H} {P : Option Value → sr_H → Prop} (w : sr_wp mX5_lots d iX5_lots_52 52 L st b h P) : sr_Go mX5_lots d 52 L st b h P := sr_wp_go kX5_lots_52 w
theorem kX5_lots_119 : sr_is cX5_lots 119 iX5_lots_119 = true := sr_is_suf (as := aX5_lots_52) kX5_lots_52
theorem lX5_lots_119 {d : Nat} {L : sr_L} {st : List Value} {b : Nat × Nat} {h : sr_H} {P : Option Value → sr_H → Prop} (w : sr_wp mX5_lots d iX5_lots_119 119 L st b h P) : sr_Go mX5_lots d 119 L st b h P := sr_wp_go kX5_lots_119 w
theorem kX5_lots_135 : sr_is cX5_lots 135 iX5_lots_135 = true := sr_is_suf (as := aX5_lots_119) kX5_lots_119
theorem lX5_lots_135 {d : Nat} {L : sr_L} {st : List Value} {b : Nat × Nat} {h : sr_H} {P : Option Value → sr_H → Prop} (w : sr_wp mX5_lots d iX5_lots_135 135 L st b h P) : sr_Go mX5_lots d 135 L st b h P := sr_wp_go kX5_lots_135 w
theorem kX5_lots_156 : sr_is cX5_lots 156 iX5_lots_156 = true := sr_is_suf (as := aX5_lots_135) kX5_lots_135
theorem lX5_lots_156 {d : Nat} {L : sr_L} {st : List Value} {b : Nat × Nat} {h : sr_H} {P : Option Value → sr_H → Prop} (w : sr_wp mX5_lots d iX5_lots_156 156 L st b h P) : sr_Go mX5_lots d 156 L st b h P := sr_wp_go kX5_lots_156 w
theorem kX5_lots_163 : sr_is cX5_lots 163 iX5_lots_163 = true := sr_is_suf (as := aX5_lots_156) kX5_lots_156
theorem lX5_lots_163 {d : Nat} {L : sr_L} {st : List Value} {b : Nat × Nat} {h : sr_H} {P : Option Value → sr_H → Prop} (w : sr_wp mX5_lots d iX5_lots_163 163 L st b h P) : sr_Go mX5_lots d 163 L st b h P := sr_wp_go kX5_lots_163 w
theorem kX5_lots_169 : sr_is cX5_lots 169 iX5_lots_169 = true := sr_is_suf (as := aX5_lots_163) kX5_lots_163
theorem lX5_lots_169 {d : Nat} {L : sr_L} {st : List Value} {b : Nat × Nat} {h : sr_H} {P : Option Value → sr_H → Prop} (w : sr_wp mX5_lots d iX5_lots_169 169 L st b h P) : sr_Go mX5_lots d 169 L st b h P := sr_wp_go kX5_lots_169 w
def iX5_counted_195 : List (Instr × Nat × Nat) := [(.iload_n 2, 196, 0), (.ireturn, 197, 0)]
def aX5_counted_190 : List (Instr × Nat × Nat) := [(.aload_n 0, 191, 0), (.invokevirtual 186, 194, 0), (.ireturn, 195, 0)]
def iX5_counted_190 : List (Instr × Nat × Nat) := aX5_counted_190 ++ iX5_counted_195
def aX5_counted_183 : List (Instr × Nat × Nat) := [(.aload_n 0, 184, 0), (.getfield 51, 187, 0), (.iconst 1, 188, 0), (.iaload, 189, 0), (.ireturn, 190, 0)]
def iX5_counted_183 : List (Instr × Nat × Nat) := aX5_counted_183 ++ iX5_counted_190
def aX5_counted_176 : List (Instr × Nat × Nat) := [(.aload_n 0, 177, 0), (.getfield 51, 180, 0), (.iconst 0, 181, 0), (.iaload, 182, 0), (.ireturn, 183, 0)]
def iX5_counted_176 : List (Instr × Nat × Nat) := aX5_counted_176 ++ iX5_counted_183
def aX5_counted_171 : List (Instr × Nat × Nat) := [(.aload_n 0, 172, 0), (.getfield 154, 175, 0), (.ireturn, 176, 0)]
def iX5_counted_171 : List (Instr × Nat × Nat) := aX5_counted_171 ++ iX5_counted_176
def aX5_counted_166 : List (Instr × Nat × Nat) := [(.aload_n 0, 167, 0), (.getfield 151, 170, 0), (.ireturn, 171, 0)]
def iX5_counted_166 : List (Instr × Nat × Nat) := aX5_counted_166 ++ iX5_counted_171
def aX5_counted_161 : List (Instr × Nat × Nat) := [(.aload_n 0, 162, 0), (.getfield 148, 165, 0), (.ireturn, 166, 0)]
def iX5_counted_161 : List (Instr × Nat × Nat) := aX5_counted_161 ++ iX5_counted_166
def aX5_counted_156 : List (Instr × Nat × Nat) := [(.aload_n 0, 157, 0), (.getfield 145, 160, 0), (.ireturn, 161, 0)]
def iX5_counted_156 : List (Instr × Nat × Nat) := aX5_counted_156 ++ iX5_counted_161
def aX5_counted_111 : List (Instr × Nat × Nat) := [(.iload_n 1, 112, 0), (.tableswitch 83 0 6 #[44, 49, 54, 59, 64, 71, 78], 156, 0)]
def iX5_counted_111 : List (Instr × Nat × Nat) := aX5_counted_111 ++ iX5_counted_156
def aX5_counted_103 : List (Instr × Nat × Nat) := [(.iadd, 104, 0), (.istore_n 2, 105, 0), (.iinc 3 1, 108, 0), (.goto (-31), 111, 77)]
def iX5_counted_103 : List (Instr × Nat × Nat) := aX5_counted_103 ++ iX5_counted_111
def aX5_counted_102 : List (Instr × Nat × Nat) := [(.iconst 0, 103, 0)]
def iX5_counted_102 : List (Instr × Nat × Nat) := aX5_counted_102 ++ iX5_counted_103
def aX5_counted_77 : List (Instr × Nat × Nat) := [(.iload_n 3, 78, 0), (.iconst 3, 79, 0), (.if_icmp .ge 32, 82, 111), (.iload_n 2, 83, 0), (.iload_n 1, 84, 0), (.bipush 9, 86, 0), (.if_icmp .ne 16, 89, 102), (.aload_n 0, 90, 0), (.getfield 57, 93, 0), (.iload_n 3, 94, 0), (.baload, 95, 0), (.ifCond .eq 7, 98, 102), (.iconst 1, 99, 0), (.goto 4, 102, 103)]
def iX5_counted_77 : List (Instr × Nat × Nat) := aX5_counted_77 ++ iX5_counted_102
def aX5_counted_75 : List (Instr × Nat × Nat) := [(.iconst 0, 76, 0), (.istore_n 3, 77, 0)]
def iX5_counted_75 : List (Instr × Nat × Nat) := aX5_counted_75 ++ iX5_counted_77
def aX5_counted_67 : List (Instr × Nat × Nat) := [(.iadd, 68, 0), (.istore_n 2, 69, 0), (.iinc 3 1, 72, 0), (.goto (-31), 75, 41)]
def iX5_counted_67 : List (Instr × Nat × Nat) := aX5_counted_67 ++ iX5_counted_75
def aX5_counted_66 : List (Instr × Nat × Nat) := [(.iconst 0, 67, 0)]
def iX5_counted_66 : List (Instr × Nat × Nat) := aX5_counted_66 ++ iX5_counted_67
def aX5_counted_41 : List (Instr × Nat × Nat) := [(.iload_n 3, 42, 0), (.iconst 4, 43, 0), (.if_icmp .ge 32, 46, 75), (.iload_n 2, 47, 0), (.iload_n 1, 48, 0), (.bipush 8, 50, 0), (.if_icmp .ne 16, 53, 66), (.aload_n 0, 54, 0), (.getfield 26, 57, 0), (.iload_n 3, 58, 0), (.iaload, 59, 0), (.ifCond .lt 7, 62, 66), (.iconst 1, 63, 0), (.goto 4, 66, 67)]
def iX5_counted_41 : List (Instr × Nat × Nat) := aX5_counted_41 ++ iX5_counted_66
def aX5_counted_39 : List (Instr × Nat × Nat) := [(.iconst 0, 40, 0), (.istore_n 3, 41, 0)]
def iX5_counted_39 : List (Instr × Nat × Nat) := aX5_counted_39 ++ iX5_counted_41
def aX5_counted_31 : List (Instr × Nat × Nat) := [(.iadd, 32, 0), (.istore_n 2, 33, 0), (.iinc 3 1, 36, 0), (.goto (-32), 39, 4)]
def iX5_counted_31 : List (Instr × Nat × Nat) := aX5_counted_31 ++ iX5_counted_39
def aX5_counted_30 : List (Instr × Nat × Nat) := [(.iconst 0, 31, 0)]
def iX5_counted_30 : List (Instr × Nat × Nat) := aX5_counted_30 ++ iX5_counted_31
def aX5_counted_4 : List (Instr × Nat × Nat) := [(.iload_n 3, 5, 0), (.bipush 6, 7, 0), (.if_icmp .ge 32, 10, 39), (.iload_n 2, 11, 0), (.iload_n 1, 12, 0), (.bipush 7, 14, 0), (.if_icmp .ne 16, 17, 30), (.aload_n 0, 18, 0), (.getfield 17, 21, 0), (.iload_n 3, 22, 0), (.iaload, 23, 0), (.ifCond .lt 7, 26, 30), (.iconst 1, 27, 0), (.goto 4, 30, 31)]
def iX5_counted_4 : List (Instr × Nat × Nat) := aX5_counted_4 ++ iX5_counted_30
def aX5_counted_0 : List (Instr × Nat × Nat) := [(.iconst 0, 1, 0), (.istore_n 2, 2, 0), (.iconst 0, 3, 0), (.istore_n 3, 4, 0)]
def iX5_counted_0 : List (Instr × Nat × Nat) := aX5_counted_0 ++ iX5_counted_4
theorem kX5_counted_0 : sr_is cX5_counted 0 iX5_counted_0 = true := by decide +kernel
theorem lX5_counted_0 {d : Nat} {L : sr_L} {st : List Value} {b : Nat × Nat} {h : sr_H} {P : Option Value → sr_H → Prop} (w : sr_wp mX5_counted d iX5_counted_0 0 L st b h P) : sr_Go mX5_counted d 0 L st b h P := sr_wp_go kX5_counted_0 w
theorem kX5_counted_4 : sr_is cX5_counted 4 iX5_counted_4 = true := sr_is_suf (as := aX5_counted_0) kX5_counted_0
theorem lX5_counted_4 {d : Nat} {L : sr_L} {st : List Value} {b : Nat × Nat} {h : sr_H} {P : Option Value → sr_H → Prop} (w : sr_wp mX5_counted d iX5_counted_4 4 L st b h P) : sr_Go mX5_counted d 4 L st b h P := sr_wp_go kX5_counted_4 w
theorem kX5_counted_30 : sr_is cX5_counted 30 iX5_counted_30 = true := sr_is_suf (as := aX5_counted_4) kX5_counted_4
theorem lX5_counted_30 {d : Nat} {L : sr_L} {st : List Value} {b : Nat × Nat} {h : sr_H} {P : Option Value → sr_H → Prop} (w : sr_wp mX5_counted d iX5_counted_30 30 L st b h P) : sr_Go mX5_counted d 30 L st b h P := sr_wp_go kX5_counted_30 w
theorem kX5_counted_31 : sr_is cX5_counted 31 iX5_counted_31 = true := sr_is_suf (as := aX5_counted_30) kX5_counted_30
theorem lX5_counted_31 {d : Nat} {L : sr_L} {st : List Value} {b : Nat × Nat} {h : sr_H} {P : Option Value → sr_H → Prop} (w : sr_wp mX5_counted d iX5_counted_31 31 L st b h P) : sr_Go mX5_counted d 31 L st b h P := sr_wp_go kX5_counted_31 w
theorem kX5_counted_39 : sr_is cX5_counted 39 iX5_counted_39 = true := sr_is_suf (as := aX5_counted_31) kX5_counted_31
theorem lX5_counted_39 {d : Nat} {L : sr_L} {st : List Value} {b : Nat × Nat} {h : sr_H} {P : Option Value → sr_H → Prop} (w : sr_wp mX5_counted d iX5_counted_39 39 L st b h P) : sr_Go mX5_counted d 39 L st b h P := sr_wp_go kX5_counted_39 w
theorem kX5_counted_41 : sr_is cX5_counted 41 iX5_counted_41 = true := sr_is_suf (as := aX5_counted_39) kX5_counted_39
theorem lX5_counted_41 {d : Nat} {L : sr_L} {st : List Value} {b : Nat × Nat} {h : sr_H} {P : Option Value → sr_H → Prop} (w : sr_wp mX5_counted d iX5_counted_41 41 L st b h P) : sr_Go mX5_counted d 41 L st b h P := sr_wp_go kX5_counted_41 w
theorem kX5_counted_66 : sr_is cX5_counted 66 iX5_counted_66 = true := sr_is_suf (as := aX5_counted_41) kX5_counted_41
theorem lX5_counted_66 {d : Nat} {L : sr_L} {st : List Value} {b : Nat × Nat} {h : sr_H} {P : Option Value → sr_H → Prop} (w : sr_wp mX5_counted d iX5_counted_66 66 L st b h P) : sr_Go mX5_counted d 66 L st b h P := sr_wp_go kX5_counted_66 w
theorem kX5_counted_67 : sr_is cX5_counted 67 iX5_counted_67 = true := sr_is_suf (as := aX5_counted_66) kX5_counted_66
theorem lX5_counted_67 {d : Nat} {L : sr_L} {st : List Value} {b : Nat × Nat} {h : sr_H} {P : Option Value → sr_H → Prop} (w : sr_wp mX5_counted d iX5_counted_67 67 L st b h P) : sr_Go mX5_counted d 67 L st b h P := sr_wp_go kX5_counted_67 w
theorem kX5_counted_75 : sr_is cX5_counted 75 iX5_counted_75 = true := sr_is_suf (as := aX5_counted_67) kX5_counted_67
theorem lX5_counted_75 {d : Nat} {L : sr_L} {st : List Value} {b : Nat × Nat} {h : sr_H} {P : Option Value → sr_H → Prop} (w : sr_wp mX5_counted d iX5_counted_75 75 L st b h P) : sr_Go mX5_counted d 75 L st b h P := sr_wp_go kX5_counted_75 w
theorem kX5_counted_77 : sr_is cX5_counted 77 iX5_counted_77 = true := sr_is_suf (as := aX5_counted_75) kX5_counted_75
theorem lX5_counted_77 {d : Nat} {L : sr_L} {st : List Value} {b : Nat × Nat} {h : sr_H} {P : Option Value → sr_H → Prop} (w : sr_wp mX5_counted d iX5_counted_77 77 L st b h P) : sr_Go mX5_counted d 77 L st b h P := sr_wp_go kX5_counted_77 w
theorem kX5_counted_102 : sr_is cX5_counted 102 iX5_counted_102 = true := sr_is_suf (as := aX5_counted_77) kX5_counted_77
theorem lX5_counted_102 {d : Nat} {L : sr_L} {st : List Value} {b : Nat × Nat} {h : sr_H} {P : Option Value → sr_H → Prop} (w : sr_wp mX5_counted d iX5_counted_102 102 L st b h P) : sr_Go mX5_counted d 102 L st b h P := sr_wp_go kX5_counted_102 w
theorem kX5_counted_103 : sr_is cX5_counted 103 iX5_counted_103 = true := sr_is_suf (as := aX5_counted_102) kX5_counted_102
theorem lX5_counted_103 {d : Nat} {L : sr_L} {st : List Value} {b : Nat × Nat} {h : sr_H} {P : Option Value → sr_H → Prop} (w : sr_wp mX5_counted d iX5_counted_103 103 L st b h P) : sr_Go mX5_counted d 103 L st b h P := sr_wp_go kX5_counted_103 w
theorem kX5_counted_111 : sr_is cX5_counted 111 iX5_counted_111 = true := sr_is_suf (as := aX5_counted_103) kX5_counted_103
theorem lX5_counted_111 {d : Nat} {L : sr_L} {st : List Value} {b : Nat × Nat} {h : sr_H} {P : Option Value → sr_H → Prop} (w : sr_wp mX5_counted d iX5_counted_111 111 L st b h P) : sr_Go mX5_counted d 111 L st b h P := sr_wp_go kX5_counted_111 w
theorem kX5_counted_156 : sr_is cX5_counted 156 iX5_counted_156 = true := sr_is_suf (as := aX5_counted_111) kX5_counted_111
theorem lX5_counted_156 {d : Nat} {L : sr_L} {st : List Value} {b : Nat × Nat} {h : sr_H} {P : Option Value → sr_H → Prop} (w : sr_wp mX5_counted d iX5_counted_156 156 L st b h P) : sr_Go mX5_counted d 156 L st b h P := sr_wp_go kX5_counted_156 w
theorem kX5_counted_161 : sr_is cX5_counted 161 iX5_counted_161 = true := sr_is_suf (as := aX5_counted_156) kX5_counted_156
theorem lX5_counted_161 {d : Nat} {L : sr_L} {st : List Value} {b : Nat × Nat} {h : sr_H} {P : Option Value → sr_H → Prop} (w : sr_wp mX5_counted d iX5_counted_161 161 L st b h P) : sr_Go mX5_counted d 161 L st b h P := sr_wp_go kX5_counted_161 w
theorem kX5_counted_166 : sr_is cX5_counted 166 iX5_counted_166 = true := sr_is_suf (as := aX5_counted_161) kX5_counted_161
theorem lX5_counted_166 {d : Nat} {L : sr_L} {st : List Value} {b : Nat × Nat} {h : sr_H} {P : Option Value → sr_H → Prop} (w : sr_wp mX5_counted d iX5_counted_166 166 L st b h P) : sr_Go mX5_counted d 166 L st b h P := sr_wp_go kX5_counted_166 w
theorem kX5_counted_171 : sr_is cX5_counted 171 iX5_counted_171 = true := sr_is_suf (as := aX5_counted_166) kX5_counted_166
theorem lX5_counted_171 {d : Nat} {L : sr_L} {st : List Value} {b : Nat × Nat} {h : sr_H} {P : Option Value → sr_H → Prop} (w : sr_wp mX5_counted d iX5_counted_171 171 L st b h P) : sr_Go mX5_counted d 171 L st b h P := sr_wp_go kX5_counted_171 w
theorem kX5_counted_176 : sr_is cX5_counted 176 iX5_counted_176 = true := sr_is_suf (as := aX5_counted_171) kX5_counted_171
theorem lX5_counted_176 {d : Nat} {L : sr_L} {st : List Value} {b : Nat × Nat} {h : sr_H} {P : Option Value → sr_H → Prop} (w : sr_wp mX5_counted d iX5_counted_176 176 L st b h P) : sr_Go mX5_counted d 176 L st b h P := sr_wp_go kX5_counted_176 w
theorem kX5_counted_183 : sr_is cX5_counted 183 iX5_counted_183 = true := sr_is_suf (as := aX5_counted_176) kX5_counted_176
theorem lX5_counted_183 {d : Nat} {L : sr_L} {st : List Value} {b : Nat × Nat} {h : sr_H} {P : Option Value → sr_H → Prop} (w : sr_wp mX5_counted d iX5_counted_183 183 L st b h P) : sr_Go mX5_counted d 183 L st b h P := sr_wp_go kX5_counted_183 w
theorem kX5_counted_190 : sr_is cX5_counted 190 iX5_counted_190 = true := sr_is_suf (as := aX5_counted_183) kX5_counted_183
theorem lX5_counted_190 {d : Nat} {L : sr_L} {st : List Value} {b : Nat × Nat} {h : sr_H} {P : Option Value → sr_H → Prop} (w : sr_wp mX5_counted d iX5_counted_190 190 L st b h P) : sr_Go mX5_counted d 190 L st b h P := sr_wp_go kX5_counted_190 w
theorem kX5_counted_195 : sr_is cX5_counted 195 iX5_counted_195 = true := sr_is_suf (as := aX5_counted_190) kX5_counted_190
theorem lX5_counted_195 {d : Nat} {L : sr_L} {st : List Value} {b : Nat × Nat} {h : sr_H} {P : Option Value → sr_H → Prop} (w : sr_wp mX5_counted d iX5_counted_195 195 L st b h P) : sr_Go mX5_counted d 195 L st b h P := sr_wp_go kX5_counted_195 w
def iX5_count_19 : List (Instr × Nat × Nat) := [(.ireturn, 20, 0)]
def aX5_count_18 : List (Instr × Nat × Nat) := [(.iconst (-1), 19, 0)]
def iX5_count_18 : List (Instr × Nat × Nat) := aX5_count_18 ++ iX5_count_19
def aX5_count_0 : List (Instr × Nat × Nat) := [(.iload_n 1, 1, 0), (.iconst 0, 2, 0), (.bipush 9, 4, 0), (.invokestatic 80, 7, 0), (.ifCond .eq 11, 10, 18), (.aload_n 0, 11, 0), (.iload_n 1, 12, 0), (.invokevirtual 249, 15, 0), (.goto 4, 18, 19)]
def iX5_count_0 : List (Instr × Nat × Nat) := aX5_count_0 ++ iX5_count_18
theorem kX5_count_0 : sr_is cX5_count 0 iX5_count_0 = true := by decide +kernel
theorem lX5_count_0 {d : Nat} {L : sr_L} {st : List Value} {b : Nat × Nat} {h : sr_H} {P : Option Value → sr_H → Prop} (w : sr_wp mX5_count d iX5_count_0 0 L st b h P) : sr_Go mX5_count d 0 L st b h P := sr_wp_go kX5_count_0 w
theorem kX5_count_18 : sr_is cX5_count 18 iX5_count_18 = true := sr_is_suf (as := aX5_count_0) kX5_count_0
theorem lX5_count_18 {d : Nat} {L : sr_L} {st : List Value} {b : Nat × Nat} {h : sr_H} {P : Option Value → sr_H → Prop} (w : sr_wp mX5_count d iX5_count_18 18 L st b h P) : sr_Go mX5_count d 18 L st b h P := sr_wp_go kX5_count_18 w
theorem kX5_count_19 : sr_is cX5_count 19 iX5_count_19 = true := sr_is_suf (as := aX5_count_18) kX5_count_18
theorem lX5_count_19 {d : Nat} {L : sr_L} {st : List Value} {b : Nat × Nat} {h : sr_H} {P : Option Value → sr_H → Prop} (w : sr_wp mX5_count d iX5_count_19 19 L st b h P) : sr_Go mX5_count d 19 L st b h P := sr_wp_go kX5_count_19 w
def iX5_mix_0 : List (Instr × Nat × Nat) := [(.aload_n 0, 1, 0), (.ldc2_w 252, 4, 0), (.aload_n 0, 5, 0), (.getfield 254, 8, 0), (.lmul, 9, 0), (.lload_n 1, 10, 0), (.ladd, 11, 0), (.putfield 254, 14, 0), (.return_, 15, 0)]
theorem kX5_mix_0 : sr_is cX5_mix 0 iX5_mix_0 = true := by decide +kernel
theorem lX5_mix_0 {d : Nat} {L : sr_L} {st : List Value} {b : Nat × Nat} {h : sr_H} {P : Option Value → sr_H → Prop} (w : sr_wp mX5_mix d iX5_mix_0 0 L st b h P) : sr_Go mX5_mix d 0 L st b h P := sr_wp_go kX5_mix_0 w
def iX5_mixHotel_80 : List (Instr × Nat × Nat) := [(.return_, 81, 0)]
def aX5_mixHotel_71 : List (Instr × Nat × Nat) := [(.invokevirtual 257, 74, 0), (.iinc 1 1, 77, 0), (.goto (-34), 80, 43)]
def iX5_mixHotel_71 : List (Instr × Nat × Nat) := aX5_mixHotel_71 ++ iX5_mixHotel_80
def aX5_mixHotel_68 : List (Instr × Nat × Nat) := [(.ldc2_w 261, 71, 0)]
def iX5_mixHotel_68 : List (Instr × Nat × Nat) := aX5_mixHotel_68 ++ iX5_mixHotel_71
def aX5_mixHotel_43 : List (Instr × Nat × Nat) := [(.iload_n 1, 44, 0), (.iconst 3, 45, 0), (.if_icmp .ge 35, 48, 80), (.aload_n 0, 49, 0), (.aload_n 0, 50, 0), (.getfield 57, 53, 0), (.iload_n 1, 54, 0), (.baload, 55, 0), (.ifCond .eq 13, 58, 68), (.aload_n 0, 59, 0), (.getfield 61, 62, 0), (.iload_n 1, 63, 0), (.iaload, 64, 0), (.i2l, 65, 0), (.goto 6, 68, 71)]
def iX5_mixHotel_43 : List (Instr × Nat × Nat) := aX5_mixHotel_43 ++ iX5_mixHotel_68
def aX5_mixHotel_41 : List (Instr × Nat × Nat) := [(.iconst 0, 42, 0), (.istore_n 1, 43, 0)]
def iX5_mixHotel_41 : List (Instr × Nat × Nat) := aX5_mixHotel_41 ++ iX5_mixHotel_43
def aX5_mixHotel_35 : List (Instr × Nat × Nat) := [(.iinc 1 1, 38, 0), (.goto (-36), 41, 2)]
def iX5_mixHotel_35 : List (Instr × Nat × Nat) := aX5_mixHotel_35 ++ iX5_mixHotel_41
def aX5_mixHotel_12 : List (Instr × Nat × Nat) := [(.iload_n 2, 13, 0), (.bipush 8, 15, 0), (.if_icmp .ge 20, 18, 35), (.aload_n 0, 19, 0), (.aload_n 0, 20, 0), (.iload_n 1, 21, 0), (.iload_n 2, 22, 0), (.invokevirtual 177, 25, 0), (.i2l, 26, 0), (.invokevirtual 257, 29, 0), (.iinc 2 1, 32, 0), (.goto (-20), 35, 12)]
def iX5_mixHotel_12 : List (Instr × Nat × Nat) := aX5_mixHotel_12 ++ iX5_mixHotel_35
def aX5_mixHotel_2 : List (Instr × Nat × Nat) := [(.iload_n 1, 3, 0), (.aload_n 0, 4, 0), (.getfield 145, 7, 0), (.if_icmp .ge 34, 10, 41), (.iconst 0, 11, 0), (.istore_n 2, 12, 0)]
def iX5_mixHotel_2 : List (Instr × Nat × Nat) := aX5_mixHotel_2 ++ iX5_mixHotel_12
def aX5_mixHotel_0 : List (Instr × Nat × Nat) := [(.iconst 0, 1, 0), (.istore_n 1, 2, 0)]
def iX5_mixHotel_0 : List (Instr × Nat × Nat) := aX5_mixHotel_0 ++ iX5_mixHotel_2
theorem kX5_mixHotel_0 : sr_is cX5_mixHotel 0 iX5_mixHotel_0 = true := by decide +kernel
theorem lX5_mixHotel_0 {d : Nat} {L : sr_L} {st : List Value} {b : Nat × Nat} {h : sr_H} {P : Option Value → sr_H → Prop} (w : sr_wp mX5_mixHotel d iX5_mixHotel_0 0 L st b h P) : sr_Go mX5_mixHotel d 0 L st b h P := sr_wp_go kX5_mixHotel_0 w
theorem kX5_mixHotel_2 : sr_is cX5_mixHotel 2 iX5_mixHotel_2 = true := sr_is_suf (as := aX5_mixHotel_0) kX5_mixHotel_0
theorem lX5_mixHotel_2 {d : Nat} {L : sr_L} {st : List Value} {b : Nat × Nat} {h : sr_H} {P : Option Value → sr_H → Prop} (w : sr_wp mX5_mixHotel d iX5_mixHotel_2 2 L st b h P) : sr_Go mX5_mixHotel d 2 L st b h P := sr_wp_go kX5_mixHotel_2 w
theorem kX5_mixHotel_12 : sr_is cX5_mixHotel 12 iX5_mixHotel_12 = true := sr_is_suf (as := aX5_mixHotel_2) kX5_mixHotel_2
theorem lX5_mixHotel_12 {d : Nat} {L : sr_L} {st : List Value} {b : Nat × Nat} {h : sr_H} {P : Option Value → sr_H → Prop} (w : sr_wp mX5_mixHotel d iX5_mixHotel_12 12 L st b h P) : sr_Go mX5_mixHotel d 12 L st b h P := sr_wp_go kX5_mixHotel_12 w
theorem kX5_mixHotel_35 : sr_is cX5_mixHotel 35 iX5_mixHotel_35 = true := sr_is_suf (as := aX5_mixHotel_12) kX5_mixHotel_12
theorem lX5_mixHotel_35 {d : Nat} {L : sr_L} {st : List Value} {b : Nat × Nat} {h : sr_H} {P : Option Value → sr_H → Prop} (w : sr_wp mX5_mixHotel d iX5_mixHotel_35 35 L st b h P) : sr_Go mX5_mixHotel d 35 L st b h P := sr_wp_go kX5_mixHotel_35 w
theorem kX5_mixHotel_41 : sr_is cX5_mixHotel 41 iX5_mixHotel_41 = true := sr_is_suf (as := aX5_mixHotel_35) kX5_mixHotel_35
theorem lX5_mixHotel_41 {d : Nat} {L : sr_L} {st : List Value} {b : Nat × Nat} {h : sr_H} {P : Option Value → sr_H → Prop} (w : sr_wp mX5_mixHotel d iX5_mixHotel_41 41 L st b h P) : sr_Go mX5_mixHotel d 41 L st b h P := sr_wp_go kX5_mixHotel_41 w
theorem kX5_mixHotel_43 : sr_is cX5_mixHotel 43 iX5_mixHotel_43 = true := sr_is_suf (as := aX5_mixHotel_41) kX5_mixHotel_41
theorem lX5_mixHotel_43 {d : Nat} {L : sr_L} {st : List Value} {b : Nat × Nat} {h : sr_H} {P : Option Value → sr_H → Prop} (w : sr_wp mX5_mixHotel d iX5_mixHotel_43 43 L st b h P) : sr_Go mX5_mixHotel d 43 L st b h P := sr_wp_go kX5_mixHotel_43 w
theorem kX5_mixHotel_68 : sr_is cX5_mixHotel 68 iX5_mixHotel_68 = true := sr_is_suf (as := aX5_mixHotel_43) kX5_mixHotel_43
theorem lX5_mixHotel_68 {d : Nat} {L : sr_L} {st : List Value} {b : Nat × Nat} {h : sr_H} {P : Option Value → sr_H → Prop} (w : sr_wp mX5_mixHotel d iX5_mixHotel_68 68 L st b h P) : sr_Go mX5_mixHotel d 68 L st b h P := sr_wp_go kX5_mixHotel_68 w
theorem kX5_mixHotel_71 : sr_is cX5_mixHotel 71 iX5_mixHotel_71 = true := sr_is_suf (as := aX5_mixHotel_68) kX5_mixHotel_68
theorem lX5_mixHotel_71 {d : Nat} {L : sr_L} {st : List Value} {b : Nat × Nat} {h : sr_H} {P : Option Value → sr_H → Prop} (w : sr_wp mX5_mixHotel d iX5_mixHotel_71 71 L st b h P) : sr_Go mX5_mixHotel d 71 L st b h P := sr_wp_go kX5_mixHotel_71 w
theorem kX5_mixHotel_80 : sr_is cX5_mixHotel 80 iX5_mixHotel_80 = true := sr_is_suf (as := aX5_mixHotel_71) kX5_mixHotel_71
theorem lX5_mixHotel_80 {d : Nat} {L : sr_L} {st : List Value} {b : Nat × Nat} {h : sr_H} {P : Option Value → sr_H → Prop} (w : sr_wp mX5_mixHotel d iX5_mixHotel_80 80 L st b h P) : sr_Go mX5_mixHotel d 80 L st b h P := sr_wp_go kX5_mixHotel_80 w
def iX5_digest_142 : List (Instr × Nat × Nat) := [(.aload_n 0, 143, 0), (.getfield 254, 146, 0), (.lreturn, 147, 0)]
def aX5_digest_136 : List (Instr × Nat × Nat) := [(.iinc 1 1, 139, 0), (.goto (-48), 142, 91)]
def iX5_digest_136 : List (Instr × Nat × Nat) := aX5_digest_136 ++ iX5_digest_142
def aX5_digest_109 : List (Instr × Nat × Nat) := [(.iload_n 2, 110, 0), (.aload_n 0, 111, 0), (.getfield 26, 114, 0), (.iload_n 1, 115, 0), (.iaload, 116, 0), (.if_icmp .ge 20, 119, 136), (.aload_n 0, 120, 0), (.aload_n 0, 121, 0), (.iload_n 1, 122, 0), (.iload_n 2, 123, 0), (.invokevirtual 111, 126, 0), (.i2l, 127, 0), (.invokevirtual 257, 130, 0), (.iinc 2 1, 133, 0), (.goto (-24), 136, 109)]
def iX5_digest_109 : List (Instr × Nat × Nat) := aX5_digest_109 ++ iX5_digest_136
def aX5_digest_91 : List (Instr × Nat × Nat) := [(.iload_n 1, 92, 0), (.iconst 4, 93, 0), (.if_icmp .ge 49, 96, 142), (.aload_n 0, 97, 0), (.aload_n 0, 98, 0), (.getfield 26, 101, 0), (.iload_n 1, 102, 0), (.iaload, 103, 0), (.i2l, 104, 0), (.invokevirtual 257, 107, 0), (.iconst 0, 108, 0), (.istore_n 2, 109, 0)]
def iX5_digest_91 : List (Instr × Nat × Nat) := aX5_digest_91 ++ iX5_digest_109
def aX5_digest_89 : List (Instr × Nat × Nat) := [(.iconst 0, 90, 0), (.istore_n 1, 91, 0)]
def iX5_digest_89 : List (Instr × Nat × Nat) := aX5_digest_89 ++ iX5_digest_91
def aX5_digest_83 : List (Instr × Nat × Nat) := [(.iinc 1 1, 86, 0), (.goto (-49), 89, 37)]
def iX5_digest_83 : List (Instr × Nat × Nat) := aX5_digest_83 ++ iX5_digest_89
def aX5_digest_56 : List (Instr × Nat × Nat) := [(.iload_n 2, 57, 0), (.aload_n 0, 58, 0), (.getfield 17, 61, 0), (.iload_n 1, 62, 0), (.iaload, 63, 0), (.if_icmp .ge 20, 66, 83), (.aload_n 0, 67, 0), (.aload_n 0, 68, 0), (.iload_n 1, 69, 0), (.iload_n 2, 70, 0), (.invokevirtual 98, 73, 0), (.i2l, 74, 0), (.invokevirtual 257, 77, 0), (.iinc 2 1, 80, 0), (.goto (-24), 83, 56)]
def iX5_digest_56 : List (Instr × Nat × Nat) := aX5_digest_56 ++ iX5_digest_83
def aX5_digest_37 : List (Instr × Nat × Nat) := [(.iload_n 1, 38, 0), (.bipush 6, 40, 0), (.if_icmp .ge 49, 43, 89), (.aload_n 0, 44, 0), (.aload_n 0, 45, 0), (.getfield 17, 48, 0), (.iload_n 1, 49, 0), (.iaload, 50, 0), (.i2l, 51, 0), (.invokevirtual 257, 54, 0), (.iconst 0, 55, 0), (.istore_n 2, 56, 0)]
def iX5_digest_37 : List (Instr × Nat × Nat) := aX5_digest_37 ++ iX5_digest_56
def aX5_digest_31 : List (Instr × Nat × Nat) := [(.aload_n 0, 32, 0), (.invokevirtual 265, 35, 0), (.iconst 0, 36, 0), (.istore_n 1, 37, 0)]
def iX5_digest_31 : List (Instr × Nat × Nat) := aX5_digest_31 ++ iX5_digest_37
def aX5_digest_9 : List (Instr × Nat × Nat) := [(.iload_n 1, 10, 0), (.bipush 10, 12, 0), (.if_icmp .ge 19, 15, 31), (.aload_n 0, 16, 0), (.aload_n 0, 17, 0), (.iload_n 1, 18, 0), (.invokevirtual 249, 21, 0), (.i2l, 22, 0), (.invokevirtual 257, 25, 0), (.iinc 1 1, 28, 0), (.goto (-19), 31, 9)]
def iX5_digest_9 : List (Instr × Nat × Nat) := aX5_digest_9 ++ iX5_digest_31
def aX5_digest_0 : List (Instr × Nat × Nat) := [(.aload_n 0, 1, 0), (.ldc2_w 263, 4, 0), (.putfield 254, 7, 0), (.iconst 0, 8, 0), (.istore_n 1, 9, 0)]
def iX5_digest_0 : List (Instr × Nat × Nat) := aX5_digest_0 ++ iX5_digest_9
theorem kX5_digest_0 : sr_is cX5_digest 0 iX5_digest_0 = true := by decide +kernel
theorem lX5_digest_0 {d : Nat} {L : sr_L} {st : List Value} {b : Nat × Nat} {h : sr_H} {P : Option Value → sr_H → Prop} (w : sr_wp mX5_digest d iX5_digest_0 0 L st b h P) : sr_Go mX5_digest d 0 L st b h P := sr_wp_go kX5_digest_0 w
theorem kX5_digest_9 : sr_is cX5_digest 9 iX5_digest_9 = true := sr_is_suf (as := aX5_digest_0) kX5_digest_0
theorem lX5_digest_9 {d : Nat} {L : sr_L} {st : List Value} {b : Nat × Nat} {h : sr_H} {P : Option Value → sr_H → Prop} (w : sr_wp mX5_digest d iX5_digest_9 9 L st b h P) : sr_Go mX5_digest d 9 L st b h P := sr_wp_go kX5_digest_9 w
theorem kX5_digest_31 : sr_is cX5_digest 31 iX5_digest_31 = true := sr_is_suf (as := aX5_digest_9) kX5_digest_9
theorem lX5_digest_31 {d : Nat} {L : sr_L} {st : List Value} {b : Nat × Nat} {h : sr_H} {P : Option Value → sr_H → Prop} (w : sr_wp mX5_digest d iX5_digest_31 31 L st b h P) : sr_Go mX5_digest d 31 L st b h P := sr_wp_go kX5_digest_31 w
theorem kX5_digest_37 : sr_is cX5_digest 37 iX5_digest_37 = true := sr_is_suf (as := aX5_digest_31) kX5_digest_31
theorem lX5_digest_37 {d : Nat} {L : sr_L} {st : List Value} {b : Nat × Nat} {h : sr_H} {P : Option Value → sr_H → Prop} (w : sr_wp mX5_digest d iX5_digest_37 37 L st b h P) : sr_Go mX5_digest d 37 L st b h P := sr_wp_go kX5_digest_37 w
theorem kX5_digest_56 : sr_is cX5_digest 56 iX5_digest_56 = true := sr_is_suf (as := aX5_digest_37) kX5_digest_37
theorem lX5_digest_56 {d : Nat} {L : sr_L} {st : List Value} {b : Nat × Nat} {h : sr_H} {P : Option Value → sr_H → Prop} (w : sr_wp mX5_digest d iX5_digest_56 56 L st b h P) : sr_Go mX5_digest d 56 L st b h P := sr_wp_go kX5_digest_56 w
theorem kX5_digest_83 : sr_is cX5_digest 83 iX5_digest_83 = true := sr_is_suf (as := aX5_digest_56) kX5_digest_56
theorem lX5_digest_83 {d : Nat} {L : sr_L} {st : List Value} {b : Nat × Nat} {h : sr_H} {P : Option Value → sr_H → Prop} (w : sr_wp mX5_digest d iX5_digest_83 83 L st b h P) : sr_Go mX5_digest d 83 L st b h P := sr_wp_go kX5_digest_83 w
theorem kX5_digest_89 : sr_is cX5_digest 89 iX5_digest_89 = true := sr_is_suf (as := aX5_digest_83) kX5_digest_83
theorem lX5_digest_89 {d : Nat} {L : sr_L} {st : List Value} {b : Nat × Nat} {h : sr_H} {P : Option Value → sr_H → Prop} (w : sr_wp mX5_digest d iX5_digest_89 89 L st b h P) : sr_Go mX5_digest d 89 L st b h P := sr_wp_go kX5_digest_89 w
theorem kX5_digest_91 : sr_is cX5_digest 91 iX5_digest_91 = true := sr_is_suf (as := aX5_digest_89) kX5_digest_89
theorem lX5_digest_91 {d : Nat} {L : sr_L} {st : List Value} {b : Nat × Nat} {h : sr_H} {P : Option Value → sr_H → Prop} (w : sr_wp mX5_digest d iX5_digest_91 91 L st b h P) : sr_Go mX5_digest d 91 L st b h P := sr_wp_go kX5_digest_91 w
theorem kX5_digest_109 : sr_is cX5_digest 109 iX5_digest_109 = true := sr_is_suf (as := aX5_digest_91) kX5_digest_91
theorem lX5_digest_109 {d : Nat} {L : sr_L} {st : List Value} {b : Nat × Nat} {h : sr_H} {P : Option Value → sr_H → Prop} (w : sr_wp mX5_digest d iX5_digest_109 109 L st b h P) : sr_Go mX5_digest d 109 L st b h P := sr_wp_go kX5_digest_109 w
theorem kX5_digest_136 : sr_is cX5_digest 136 iX5_digest_136 = true := sr_is_suf (as := aX5_digest_109) kX5_digest_109
theorem lX5_digest_136 {d : Nat} {L : sr_L} {st : List Value} {b : Nat × Nat} {h : sr_H} {P : Option Value → sr_H → Prop} (w : sr_wp mX5_digest d iX5_digest_136 136 L st b h P) : sr_Go mX5_digest d 136 L st b h P := sr_wp_go kX5_digest_136 w
theorem kX5_digest_142 : sr_is cX5_digest 142 iX5_digest_142 = true := sr_is_suf (as := aX5_digest_136) kX5_digest_136
theorem lX5_digest_142 {d : Nat} {L : sr_L} {st : List Value} {b : Nat × Nat} {h : sr_H} {P : Option Value → sr_H → Prop} (w : sr_wp mX5_digest d iX5_digest_142 142 L st b h P) : sr_Go mX5_digest d 142 L st b h P := sr_wp_go kX5_digest_142 w
