def iX4_init_0 : List (Instr × Nat × Nat) := [(.aload_n 0, 1, 0), (.invokespecial 1, 4, 0), (.aload_n 0, 5, 0), (.new 7, 8, 0), (.dup, 9, 0), (.bipush 6, 11, 0), (.bipush 40, 13, 0), (.invokespecial 11, 16, 0), (.putfield 14, 19, 0), (.aload_n 0, 20, 0), (.new 7, 23, 0), (.dup, 24, 0), (.iconst 4, 25, 0), (.bipush 60, 27, 0), (.invokespecial 11, 30, 0), (.putfield 18, 33, 0), (.aload_n 0, 34, 0), (.new 21, 37, 0), (.dup, 38, 0), (.aload_n 0, 39, 0), (.getfield 18, 42, 0), (.invokespecial 23, 45, 0), (.putfield 26, 48, 0), (.aload_n 0, 49, 0), (.new 30, 52, 0), (.dup, 53, 0), (.invokespecial 32, 56, 0), (.putfield 33, 59, 0), (.aload_n 0, 60, 0), (.new 30, 63, 0), (.dup, 64, 0), (.invokespecial 32, 67, 0), (.putfield 37, 70, 0), (.aload_n 0, 71, 0), (.new 40, 74, 0), (.dup, 75, 0), (.invokespecial 42, 78, 0), (.putfield 43, 81, 0), (.aload_n 0, 82, 0), (.iconst 3, 83, 0), (.anewarray 40, 86, 0), (.putfield 47, 89, 0), (.aload_n 0, 90, 0), (.bipush 45, 92, 0), (.newarray .int, 94, 0), (.putfield 51, 97, 0), (.aload_n 0, 98, 0), (.iconst 0, 99, 0), (.putfield 55, 102, 0), (.aload_n 0, 103, 0), (.bipush 10, 105, 0), (.newarray .int, 107, 0), (.putfield 59, 110, 0), (.aload_n 0, 111, 0), (.bipush 32, 113, 0), (.newarray .int, 115, 0), (.putfield 62, 118, 0), (.aload_n 0, 119, 0), (.iconst 0, 120, 0), (.putfield 65, 123, 0), (.aload_n 0, 124, 0), (.lconst 0, 125, 0), (.putfield 68, 128, 0), (.aload_n 0, 129, 0), (.lconst 1, 130, 0), (.putfield 72, 133, 0), (.aload_n 0, 134, 0), (.iconst 0, 135, 0), (.putfield 75, 138, 0), (.aload_n 0, 139, 0), (.bipush 6, 141, 0), (.newarray .int, 143, 0), (.putfield 78, 146, 0), (.return_, 147, 0)]
theorem kX4_init_0 : sr_is cX4_init 0 iX4_init_0 = true := by decide +kernel
theorem lX4_init_0 {d : Nat} {L : sr_L} {st : List Value} {b : Nat × Nat} {h : sr_H} {P : Option Value → sr_H → Prop} (w : sr_wp mX4_init d iX4_init_0 0 L st b h P) : sr_Go mX4_init d 0 L st b h P := sr_wp_go kX4_init_0 w
def iX4_row_0 : List (Instr × Nat × Nat) := [(.aload_n 0, 1, 0), (.aload_n 0, 2, 0), (.getfield 14, 5, 0), (.iload_n 1, 6, 0), (.iload_n 2, 7, 0), (.iconst 0, 8, 0), (.invokevirtual 81, 11, 0), (.ireturn, 12, 0)]
theorem kX4_row_0 : sr_is cX4_row 0 iX4_row_0 = true := by decide +kernel
theorem lX4_row_0 {d : Nat} {L : sr_L} {st : List Value} {b : Nat × Nat} {h : sr_H} {P : Option Value → sr_H → Prop} (w : sr_wp mX4_row d iX4_row_0 0 L st b h P) : sr_Go mX4_row d 0 L st b h P := sr_wp_go kX4_row_0 w
def iX4_lay_20 : List (Instr × Nat × Nat) := [(.aload_n 0, 21, 0), (.getfield 14, 24, 0), (.iload_n 1, 25, 0), (.iload_n 2, 26, 0), (.invokevirtual 89, 29, 0), (.istore 5, 31, 0), (.aload_n 0, 32, 0), (.getfield 14, 35, 0), (.iload_n 1, 36, 0), (.iload_n 2, 37, 0), (.iload_n 3, 38, 0), (.invokevirtual 93, 41, 0), (.aload_n 0, 42, 0), (.iconst 1, 43, 0), (.iload 5, 45, 0), (.invokevirtual 97, 48, 0), (.ireturn, 49, 0)]
def aX4_lay_0 : List (Instr × Nat × Nat) := [(.aload_n 0, 1, 0), (.aload_n 0, 2, 0), (.getfield 14, 5, 0), (.iload_n 1, 6, 0), (.iload_n 2, 7, 0), (.invokevirtual 85, 10, 0), (.istore 4, 12, 0), (.iload 4, 14, 0), (.ifCond .eq 6, 17, 20), (.iload 4, 19, 0), (.ireturn, 20, 0)]
def iX4_lay_0 : List (Instr × Nat × Nat) := aX4_lay_0 ++ iX4_lay_20
theorem kX4_lay_0 : sr_is cX4_lay 0 iX4_lay_0 = true := by decide +kernel
theorem lX4_lay_0 {d : Nat} {L : sr_L} {st : List Value} {b : Nat × Nat} {h : sr_H} {P : Option Value → sr_H → Prop} (w : sr_wp mX4_lay d iX4_lay_0 0 L st b h P) : sr_Go mX4_lay d 0 L st b h P := sr_wp_go kX4_lay_0 w
theorem kX4_lay_20 : sr_is cX4_lay 20 iX4_lay_20 = true := sr_is_suf (as := aX4_lay_0) kX4_lay_0
theorem lX4_lay_20 {d : Nat} {L : sr_L} {st : List Value} {b : Nat × Nat} {h : sr_H} {P : Option Value → sr_H → Prop} (w : sr_wp mX4_lay d iX4_lay_20 20 L st b h P) : sr_Go mX4_lay d 20 L st b h P := sr_wp_go kX4_lay_20 w
def iX4_at_33 : List (Instr × Nat × Nat) := [(.ireturn, 34, 0)]
def aX4_at_19 : List (Instr × Nat × Nat) := [(.aload_n 0, 20, 0), (.iconst 1, 21, 0), (.aload_n 0, 22, 0), (.getfield 14, 25, 0), (.iload_n 1, 26, 0), (.iload_n 2, 27, 0), (.invokevirtual 89, 30, 0), (.invokevirtual 97, 33, 0)]
def iX4_at_19 : List (Instr × Nat × Nat) := aX4_at_19 ++ iX4_at_33
def aX4_at_0 : List (Instr × Nat × Nat) := [(.aload_n 0, 1, 0), (.aload_n 0, 2, 0), (.getfield 14, 5, 0), (.iload_n 1, 6, 0), (.iload_n 2, 7, 0), (.invokevirtual 85, 10, 0), (.istore_n 3, 11, 0), (.iload_n 3, 12, 0), (.ifCond .eq 7, 15, 19), (.iload_n 3, 16, 0), (.goto 17, 19, 33)]
def iX4_at_0 : List (Instr × Nat × Nat) := aX4_at_0 ++ iX4_at_19
theorem kX4_at_0 : sr_is cX4_at 0 iX4_at_0 = true := by decide +kernel
theorem lX4_at_0 {d : Nat} {L : sr_L} {st : List Value} {b : Nat × Nat} {h : sr_H} {P : Option Value → sr_H → Prop} (w : sr_wp mX4_at d iX4_at_0 0 L st b h P) : sr_Go mX4_at d 0 L st b h P := sr_wp_go kX4_at_0 w
theorem kX4_at_19 : sr_is cX4_at 19 iX4_at_19 = true := sr_is_suf (as := aX4_at_0) kX4_at_0
theorem lX4_at_19 {d : Nat} {L : sr_L} {st : List Value} {b : Nat × Nat} {h : sr_H} {P : Option Value → sr_H → Prop} (w : sr_wp mX4_at d iX4_at_19 19 L st b h P) : sr_Go mX4_at d 19 L st b h P := sr_wp_go kX4_at_19 w
theorem kX4_at_33 : sr_is cX4_at 33 iX4_at_33 = true := sr_is_suf (as := aX4_at_19) kX4_at_19
theorem lX4_at_33 {d : Nat} {L : sr_L} {st : List Value} {b : Nat × Nat} {h : sr_H} {P : Option Value → sr_H → Prop} (w : sr_wp mX4_at d iX4_at_33 33 L st b h P) : sr_Go mX4_at d 33 L st b h P := sr_wp_go kX4_at_33 w
def iX4_tear_16 : List (Instr × Nat × Nat) := [(.aload_n 0, 17, 0), (.getfield 14, 20, 0), (.iload_n 1, 21, 0), (.invokevirtual 104, 24, 0), (.iconst 1, 25, 0), (.ireturn, 26, 0)]
def aX4_tear_0 : List (Instr × Nat × Nat) := [(.aload_n 0, 1, 0), (.aload_n 0, 2, 0), (.getfield 14, 5, 0), (.iload_n 1, 6, 0), (.invokevirtual 100, 9, 0), (.istore_n 2, 10, 0), (.iload_n 2, 11, 0), (.ifCond .eq 5, 14, 16), (.iload_n 2, 15, 0), (.ireturn, 16, 0)]
def iX4_tear_0 : List (Instr × Nat × Nat) := aX4_tear_0 ++ iX4_tear_16
theorem kX4_tear_0 : sr_is cX4_tear 0 iX4_tear_0 = true := by decide +kernel
theorem lX4_tear_0 {d : Nat} {L : sr_L} {st : List Value} {b : Nat × Nat} {h : sr_H} {P : Option Value → sr_H → Prop} (w : sr_wp mX4_tear d iX4_tear_0 0 L st b h P) : sr_Go mX4_tear d 0 L st b h P := sr_wp_go kX4_tear_0 w
theorem kX4_tear_16 : sr_is cX4_tear 16 iX4_tear_16 = true := sr_is_suf (as := aX4_tear_0) kX4_tear_0
theorem lX4_tear_16 {d : Nat} {L : sr_L} {st : List Value} {b : Nat × Nat} {h : sr_H} {P : Option Value → sr_H → Prop} (w : sr_wp mX4_tear d iX4_tear_16 16 L st b h P) : sr_Go mX4_tear d 16 L st b h P := sr_wp_go kX4_tear_16 w
def iX4_copy_98 : List (Instr × Nat × Nat) := [(.aload_n 0, 99, 0), (.getfield 14, 102, 0), (.iload_n 1, 103, 0), (.iload_n 2, 104, 0), (.iload_n 3, 105, 0), (.iload 4, 107, 0), (.iload 5, 109, 0), (.invokevirtual 123, 112, 0), (.iconst 1, 113, 0), (.ireturn, 114, 0)]
def aX4_copy_92 : List (Instr × Nat × Nat) := [(.aload_n 0, 93, 0), (.iconst 2, 94, 0), (.invokevirtual 112, 97, 0), (.ireturn, 98, 0)]
def iX4_copy_92 : List (Instr × Nat × Nat) := aX4_copy_92 ++ iX4_copy_98
def aX4_copy_63 : List (Instr × Nat × Nat) := [(.aload_n 0, 64, 0), (.getfield 14, 67, 0), (.iload_n 1, 68, 0), (.iload_n 2, 69, 0), (.iload 5, 71, 0), (.invokevirtual 119, 74, 0), (.ifCond .eq 18, 77, 92), (.aload_n 0, 78, 0), (.getfield 14, 81, 0), (.iload_n 3, 82, 0), (.iload 4, 84, 0), (.iload 5, 86, 0), (.invokevirtual 119, 89, 0), (.ifCond .ne 9, 92, 98)]
def iX4_copy_63 : List (Instr × Nat × Nat) := aX4_copy_63 ++ iX4_copy_92
def aX4_copy_57 : List (Instr × Nat × Nat) := [(.aload_n 0, 58, 0), (.iconst 1, 59, 0), (.invokevirtual 112, 62, 0), (.ireturn, 63, 0)]
def iX4_copy_57 : List (Instr × Nat × Nat) := aX4_copy_57 ++ iX4_copy_63
def aX4_copy_35 : List (Instr × Nat × Nat) := [(.aload_n 0, 36, 0), (.getfield 14, 39, 0), (.iload_n 1, 40, 0), (.invokevirtual 116, 43, 0), (.ifCond .ne 14, 46, 57), (.aload_n 0, 47, 0), (.getfield 14, 50, 0), (.iload_n 3, 51, 0), (.invokevirtual 116, 54, 0), (.ifCond .eq 9, 57, 63)]
def iX4_copy_35 : List (Instr × Nat × Nat) := aX4_copy_35 ++ iX4_copy_57
def aX4_copy_24 : List (Instr × Nat × Nat) := [(.iload 5, 26, 0), (.ifCond .ge 9, 29, 35), (.aload_n 0, 30, 0), (.iconst 5, 31, 0), (.invokevirtual 112, 34, 0), (.ireturn, 35, 0)]
def iX4_copy_24 : List (Instr × Nat × Nat) := aX4_copy_24 ++ iX4_copy_35
def aX4_copy_22 : List (Instr × Nat × Nat) := [(.iconst (-1), 23, 0), (.ireturn, 24, 0)]
def iX4_copy_22 : List (Instr × Nat × Nat) := aX4_copy_22 ++ iX4_copy_24
def aX4_copy_0 : List (Instr × Nat × Nat) := [(.aload_n 0, 1, 0), (.getfield 14, 4, 0), (.iload_n 1, 5, 0), (.invokevirtual 108, 8, 0), (.ifCond .eq 14, 11, 22), (.aload_n 0, 12, 0), (.getfield 14, 15, 0), (.iload_n 3, 16, 0), (.invokevirtual 108, 19, 0), (.ifCond .ne 5, 22, 24)]
def iX4_copy_0 : List (Instr × Nat × Nat) := aX4_copy_0 ++ iX4_copy_22
theorem kX4_copy_0 : sr_is cX4_copy 0 iX4_copy_0 = true := by decide +kernel
theorem lX4_copy_0 {d : Nat} {L : sr_L} {st : List Value} {b : Nat × Nat} {h : sr_H} {P : Option Value → sr_H → Prop} (w : sr_wp mX4_copy d iX4_copy_0 0 L st b h P) : sr_Go mX4_copy d 0 L st b h P := sr_wp_go kX4_copy_0 w
theorem kX4_copy_22 : sr_is cX4_copy 22 iX4_copy_22 = true := sr_is_suf (as := aX4_copy_0) kX4_copy_0
theorem lX4_copy_22 {d : Nat} {L : sr_L} {st : List Value} {b : Nat × Nat} {h : sr_H} {P : Option Value → sr_H → Prop} (w : sr_wp mX4_copy d iX4_copy_22 22 L st b h P) : sr_Go mX4_copy d 22 L st b h P := sr_wp_go kX4_copy_22 w
theorem kX4_copy_24 : sr_is cX4_copy 24 iX4_copy_24 = true := sr_is_suf (as := aX4_copy_22) kX4_copy_22
theorem lX4_copy_24 {d : Nat} {L : sr_L} {st : List Value} {b : Nat × Nat} {h : sr_H} {P : Option Value → sr_H → Prop} (w : sr_wp mX4_copy d iX4_copy_24 24 L st b h P) : sr_Go mX4_copy d 24 L st b h P := sr_wp_go kX4_copy_24 w
theorem kX4_copy_35 : sr_is cX4_copy 35 iX4_copy_35 = true := sr_is_suf (as := aX4_copy_24) kX4_copy_24
theorem lX4_copy_35 {d : Nat} {L : sr_L} {st : List Value} {b : Nat × Nat} {h : sr_H} {P : Option Value → sr_H → Prop} (w : sr_wp mX4_copy d iX4_copy_35 35 L st b h P) : sr_Go mX4_copy d 35 L st b h P := sr_wp_go kX4_copy_35 w
theorem kX4_copy_57 : sr_is cX4_copy 57 iX4_copy_57 = true := sr_is_suf (as := aX4_copy_35) kX4_copy_35
theorem lX4_copy_57 {d : Nat} {L : sr_L} {st : List Value} {b : Nat × Nat} {h : sr_H} {P : Option Value → sr_H → Prop} (w : sr_wp mX4_copy d iX4_copy_57 57 L st b h P) : sr_Go mX4_copy d 57 L st b h P := sr_wp_go kX4_copy_57 w
theorem kX4_copy_63 : sr_is cX4_copy 63 iX4_copy_63 = true := sr_is_suf (as := aX4_copy_57) kX4_copy_57
theorem lX4_copy_63 {d : Nat} {L : sr_L} {st : List Value} {b : Nat × Nat} {h : sr_H} {P : Option Value → sr_H → Prop} (w : sr_wp mX4_copy d iX4_copy_63 63 L st b h P) : sr_Go mX4_copy d 63 L st b h P := sr_wp_go kX4_copy_63 w
theorem kX4_copy_92 : sr_is cX4_copy 92 iX4_copy_92 = true := sr_is_suf (as := aX4_copy_63) kX4_copy_63
theorem lX4_copy_92 {d : Nat} {L : sr_L} {st : List Value} {b : Nat × Nat} {h : sr_H} {P : Option Value → sr_H → Prop} (w : sr_wp mX4_copy d iX4_copy_92 92 L st b h P) : sr_Go mX4_copy d 92 L st b h P := sr_wp_go kX4_copy_92 w
theorem kX4_copy_98 : sr_is cX4_copy 98 iX4_copy_98 = true := sr_is_suf (as := aX4_copy_92) kX4_copy_92
theorem lX4_copy_98 {d : Nat} {L : sr_L} {st : List Value} {b : Nat × Nat} {h : sr_H} {P : Option Value → sr_H → Prop} (w : sr_wp mX4_copy d iX4_copy_98 98 L st b h P) : sr_Go mX4_copy d 98 L st b h P := sr_wp_go kX4_copy_98 w
def iX4_mean_36 : List (Instr × Nat × Nat) := [(.aload_n 0, 37, 0), (.iconst 1, 38, 0), (.aload_n 0, 39, 0), (.getfield 14, 42, 0), (.iload_n 1, 43, 0), (.invokevirtual 130, 46, 0), (.iload_n 3, 47, 0), (.i2l, 48, 0), (.ldiv, 49, 0), (.l2i, 50, 0), (.invokevirtual 97, 53, 0), (.ireturn, 54, 0)]
def aX4_mean_16 : List (Instr × Nat × Nat) := [(.aload_n 0, 17, 0), (.getfield 14, 20, 0), (.iload_n 1, 21, 0), (.invokevirtual 127, 24, 0), (.istore_n 3, 25, 0), (.iload_n 3, 26, 0), (.iconst 1, 27, 0), (.if_icmp .ge 9, 30, 36), (.aload_n 0, 31, 0), (.iconst 4, 32, 0), (.invokevirtual 112, 35, 0), (.ireturn, 36, 0)]
def iX4_mean_16 : List (Instr × Nat × Nat) := aX4_mean_16 ++ iX4_mean_36
def aX4_mean_0 : List (Instr × Nat × Nat) := [(.aload_n 0, 1, 0), (.aload_n 0, 2, 0), (.getfield 14, 5, 0), (.iload_n 1, 6, 0), (.invokevirtual 100, 9, 0), (.istore_n 2, 10, 0), (.iload_n 2, 11, 0), (.ifCond .eq 5, 14, 16), (.iload_n 2, 15, 0), (.ireturn, 16, 0)]
def iX4_mean_0 : List (Instr × Nat × Nat) := aX4_mean_0 ++ iX4_mean_16
theorem kX4_mean_0 : sr_is cX4_mean 0 iX4_mean_0 = true := by decide +kernel
theorem lX4_mean_0 {d : Nat} {L : sr_L} {st : List Value} {b : Nat × Nat} {h : sr_H} {P : Option Value → sr_H → Prop} (w : sr_wp mX4_mean d iX4_mean_0 0 L st b h P) : sr_Go mX4_mean d 0 L st b h P := sr_wp_go kX4_mean_0 w
theorem kX4_mean_16 : sr_is cX4_mean 16 iX4_mean_16 = true := sr_is_suf (as := aX4_mean_0) kX4_mean_0
theorem lX4_mean_16 {d : Nat} {L : sr_L} {st : List Value} {b : Nat × Nat} {h : sr_H} {P : Option Value → sr_H → Prop} (w : sr_wp mX4_mean d iX4_mean_16 16 L st b h P) : sr_Go mX4_mean d 16 L st b h P := sr_wp_go kX4_mean_16 w
theorem kX4_mean_36 : sr_is cX4_mean 36 iX4_mean_36 = true := sr_is_suf (as := aX4_mean_16) kX4_mean_16
theorem lX4_mean_36 {d : Nat} {L : sr_L} {st : List Value} {b : Nat × Nat} {h : sr_H} {P : Option Value → sr_H → Prop} (w : sr_wp mX4_mean d iX4_mean_36 36 L st b h P) : sr_Go mX4_mean d 36 L st b h P := sr_wp_go kX4_mean_36 w
def iX4_text_0 : List (Instr × Nat × Nat) := [(.aload_n 0, 1, 0), (.aload_n 0, 2, 0), (.getfield 18, 5, 0), (.iload_n 1, 6, 0), (.iload_n 2, 7, 0), (.bipush 32, 9, 0), (.invokevirtual 81, 12, 0), (.ireturn, 13, 0)]
theorem kX4_text_0 : sr_is cX4_text 0 iX4_text_0 = true := by decide +kernel
theorem lX4_text_0 {d : Nat} {L : sr_L} {st : List Value} {b : Nat × Nat} {h : sr_H} {P : Option Value → sr_H → Prop} (w : sr_wp mX4_text d iX4_text_0 0 L st b h P) : sr_Go mX4_text d 0 L st b h P := sr_wp_go kX4_text_0 w
def iX4_put_20 : List (Instr × Nat × Nat) := [(.aload_n 0, 21, 0), (.getfield 18, 24, 0), (.iload_n 1, 25, 0), (.iload_n 2, 26, 0), (.invokevirtual 89, 29, 0), (.istore 5, 31, 0), (.aload_n 0, 32, 0), (.getfield 18, 35, 0), (.iload_n 1, 36, 0), (.iload_n 2, 37, 0), (.iload_n 3, 38, 0), (.i2b, 39, 0), (.invokevirtual 93, 42, 0), (.sipush 1000, 45, 0), (.iload 5, 47, 0), (.iadd, 48, 0), (.ireturn, 49, 0)]
def aX4_put_0 : List (Instr × Nat × Nat) := [(.aload_n 0, 1, 0), (.aload_n 0, 2, 0), (.getfield 18, 5, 0), (.iload_n 1, 6, 0), (.iload_n 2, 7, 0), (.invokevirtual 85, 10, 0), (.istore 4, 12, 0), (.iload 4, 14, 0), (.ifCond .eq 6, 17, 20), (.iload 4, 19, 0), (.ireturn, 20, 0)]
def iX4_put_0 : List (Instr × Nat × Nat) := aX4_put_0 ++ iX4_put_20
theorem kX4_put_0 : sr_is cX4_put 0 iX4_put_0 = true := by decide +kernel
theorem lX4_put_0 {d : Nat} {L : sr_L} {st : List Value} {b : Nat × Nat} {h : sr_H} {P : Option Value → sr_H → Prop} (w : sr_wp mX4_put d iX4_put_0 0 L st b h P) : sr_Go mX4_put d 0 L st b h P := sr_wp_go kX4_put_0 w
theorem kX4_put_20 : sr_is cX4_put 20 iX4_put_20 = true := sr_is_suf (as := aX4_put_0) kX4_put_0
theorem lX4_put_20 {d : Nat} {L : sr_L} {st : List Value} {b : Nat × Nat} {h : sr_H} {P : Option Value → sr_H → Prop} (w : sr_wp mX4_put d iX4_put_20 20 L st b h P) : sr_Go mX4_put d 20 L st b h P := sr_wp_go kX4_put_20 w
def iX4_fault_30 : List (Instr × Nat × Nat) := [(.ireturn, 31, 0)]
def aX4_fault_18 : List (Instr × Nat × Nat) := [(.aload_n 0, 19, 0), (.getfield 26, 22, 0), (.iload_n 1, 23, 0), (.aload_n 0, 24, 0), (.getfield 37, 27, 0), (.invokevirtual 134, 30, 0)]
def iX4_fault_18 : List (Instr × Nat × Nat) := aX4_fault_18 ++ iX4_fault_30
def aX4_fault_0 : List (Instr × Nat × Nat) := [(.aload_n 0, 1, 0), (.aload_n 0, 2, 0), (.getfield 18, 5, 0), (.iload_n 1, 6, 0), (.invokevirtual 100, 9, 0), (.istore_n 2, 10, 0), (.iload_n 2, 11, 0), (.ifCond .eq 7, 14, 18), (.iload_n 2, 15, 0), (.goto 15, 18, 30)]
def iX4_fault_0 : List (Instr × Nat × Nat) := aX4_fault_0 ++ iX4_fault_18
theorem kX4_fault_0 : sr_is cX4_fault 0 iX4_fault_0 = true := by decide +kernel
theorem lX4_fault_0 {d : Nat} {L : sr_L} {st : List Value} {b : Nat × Nat} {h : sr_H} {P : Option Value → sr_H → Prop} (w : sr_wp mX4_fault d iX4_fault_0 0 L st b h P) : sr_Go mX4_fault d 0 L st b h P := sr_wp_go kX4_fault_0 w
theorem kX4_fault_18 : sr_is cX4_fault 18 iX4_fault_18 = true := sr_is_suf (as := aX4_fault_0) kX4_fault_0
theorem lX4_fault_18 {d : Nat} {L : sr_L} {st : List Value} {b : Nat × Nat} {h : sr_H} {P : Option Value → sr_H → Prop} (w : sr_wp mX4_fault d iX4_fault_18 18 L st b h P) : sr_Go mX4_fault d 18 L st b h P := sr_wp_go kX4_fault_18 w
theorem kX4_fault_30 : sr_is cX4_fault 30 iX4_fault_30 = true := sr_is_suf (as := aX4_fault_18) kX4_fault_18
theorem lX4_fault_30 {d : Nat} {L : sr_L} {st : List Value} {b : Nat × Nat} {h : sr_H} {P : Option Value → sr_H → Prop} (w : sr_wp mX4_fault d iX4_fault_30 30 L st b h P) : sr_Go mX4_fault d 30 L st b h P := sr_wp_go kX4_fault_30 w
def iX4_hotel_36 : List (Instr × Nat × Nat) := [(.aload_n 0, 37, 0), (.getfield 33, 40, 0), (.aload_n 0, 41, 0), (.getfield 37, 44, 0), (.invokevirtual 138, 47, 0), (.aload_n 0, 48, 0), (.getfield 43, 51, 0), (.aload_n 0, 52, 0), (.getfield 33, 55, 0), (.invokevirtual 142, 58, 0), (.aload_n 0, 59, 0), (.invokevirtual 145, 62, 0), (.aload_n 0, 63, 0), (.getfield 33, 66, 0), (.getfield 148, 69, 0), (.ireturn, 70, 0)]
def aX4_hotel_16 : List (Instr × Nat × Nat) := [(.aload_n 0, 17, 0), (.getfield 26, 20, 0), (.iload_n 1, 21, 0), (.aload_n 0, 22, 0), (.getfield 37, 25, 0), (.invokevirtual 134, 28, 0), (.bipush (-9), 30, 0), (.if_icmp .eq 6, 33, 36), (.bipush (-4), 35, 0), (.ireturn, 36, 0)]
def iX4_hotel_16 : List (Instr × Nat × Nat) := aX4_hotel_16 ++ iX4_hotel_36
def aX4_hotel_0 : List (Instr × Nat × Nat) := [(.aload_n 0, 1, 0), (.aload_n 0, 2, 0), (.getfield 18, 5, 0), (.iload_n 1, 6, 0), (.invokevirtual 100, 9, 0), (.istore_n 2, 10, 0), (.iload_n 2, 11, 0), (.ifCond .eq 5, 14, 16), (.iload_n 2, 15, 0), (.ireturn, 16, 0)]
def iX4_hotel_0 : List (Instr × Nat × Nat) := aX4_hotel_0 ++ iX4_hotel_16
theorem kX4_hotel_0 : sr_is cX4_hotel 0 iX4_hotel_0 = true := by decide +kernel
theorem lX4_hotel_0 {d : Nat} {L : sr_L} {st : List Value} {b : Nat × Nat} {h : sr_H} {P : Option Value → sr_H → Prop} (w : sr_wp mX4_hotel d iX4_hotel_0 0 L st b h P) : sr_Go mX4_hotel d 0 L st b h P := sr_wp_go kX4_hotel_0 w
theorem kX4_hotel_16 : sr_is cX4_hotel 16 iX4_hotel_16 = true := sr_is_suf (as := aX4_hotel_0) kX4_hotel_0
theorem lX4_hotel_16 {d : Nat} {L : sr_L} {st : List Value} {b : Nat × Nat} {h : sr_H} {P : Option Value → sr_H → Prop} (w : sr_wp mX4_hotel d iX4_hotel_16 16 L st b h P) : sr_Go mX4_hotel d 16 L st b h P := sr_wp_go kX4_hotel_16 w
theorem kX4_hotel_36 : sr_is cX4_hotel 36 iX4_hotel_36 = true := sr_is_suf (as := aX4_hotel_16) kX4_hotel_16
theorem lX4_hotel_36 {d : Nat} {L : sr_L} {st : List Value} {b : Nat × Nat} {h : sr_H} {P : Option Value → sr_H → Prop} (w : sr_wp mX4_hotel d iX4_hotel_36 36 L st b h P) : sr_Go mX4_hotel d 36 L st b h P := sr_wp_go kX4_hotel_36 w
def iX4_guest_20 : List (Instr × Nat × Nat) := [(.aload_n 0, 21, 0), (.iconst 1, 22, 0), (.aload_n 0, 23, 0), (.iload_n 1, 24, 0), (.iload_n 2, 25, 0), (.invokevirtual 154, 28, 0), (.invokevirtual 97, 31, 0), (.ireturn, 32, 0)]
def aX4_guest_18 : List (Instr × Nat × Nat) := [(.iconst (-1), 19, 0), (.ireturn, 20, 0)]
def iX4_guest_18 : List (Instr × Nat × Nat) := aX4_guest_18 ++ iX4_guest_20
def aX4_guest_0 : List (Instr × Nat × Nat) := [(.aload_n 0, 1, 0), (.iload_n 1, 2, 0), (.invokevirtual 151, 5, 0), (.ifCond .eq 13, 8, 18), (.iload_n 2, 9, 0), (.ifCond .lt 9, 12, 18), (.iload_n 2, 13, 0), (.bipush 8, 15, 0), (.if_icmp .lt 5, 18, 20)]
def iX4_guest_0 : List (Instr × Nat × Nat) := aX4_guest_0 ++ iX4_guest_18
theorem kX4_guest_0 : sr_is cX4_guest 0 iX4_guest_0 = true := by decide +kernel
theorem lX4_guest_0 {d : Nat} {L : sr_L} {st : List Value} {b : Nat × Nat} {h : sr_H} {P : Option Value → sr_H → Prop} (w : sr_wp mX4_guest d iX4_guest_0 0 L st b h P) : sr_Go mX4_guest d 0 L st b h P := sr_wp_go kX4_guest_0 w
theorem kX4_guest_18 : sr_is cX4_guest 18 iX4_guest_18 = true := sr_is_suf (as := aX4_guest_0) kX4_guest_0
theorem lX4_guest_18 {d : Nat} {L : sr_L} {st : List Value} {b : Nat × Nat} {h : sr_H} {P : Option Value → sr_H → Prop} (w : sr_wp mX4_guest d iX4_guest_18 18 L st b h P) : sr_Go mX4_guest d 18 L st b h P := sr_wp_go kX4_guest_18 w
theorem kX4_guest_20 : sr_is cX4_guest 20 iX4_guest_20 = true := sr_is_suf (as := aX4_guest_18) kX4_guest_18
theorem lX4_guest_20 {d : Nat} {L : sr_L} {st : List Value} {b : Nat × Nat} {h : sr_H} {P : Option Value → sr_H → Prop} (w : sr_wp mX4_guest d iX4_guest_20 20 L st b h P) : sr_Go mX4_guest d 20 L st b h P := sr_wp_go kX4_guest_20 w
def iX4_mark_131 : List (Instr × Nat × Nat) := [(.aload_n 0, 132, 0), (.iload_n 1, 133, 0), (.iconst 0, 134, 0), (.invokevirtual 182, 137, 0), (.aload_n 0, 138, 0), (.iload_n 1, 139, 0), (.iconst 1, 140, 0), (.invokevirtual 182, 143, 0), (.iand, 144, 0), (.invokestatic 167, 147, 0), (.ireturn, 148, 0)]
def aX4_mark_121 : List (Instr × Nat × Nat) := [(.aload_n 0, 122, 0), (.getfield 33, 125, 0), (.invokevirtual 178, 128, 0), (.iconst 1, 129, 0), (.isub, 130, 0), (.ireturn, 131, 0)]
def iX4_mark_121 : List (Instr × Nat × Nat) := aX4_mark_121 ++ iX4_mark_131
def aX4_mark_112 : List (Instr × Nat × Nat) := [(.aload_n 0, 113, 0), (.getfield 43, 116, 0), (.iload_n 1, 117, 0), (.invokevirtual 175, 120, 0), (.ireturn, 121, 0)]
def iX4_mark_112 : List (Instr × Nat × Nat) := aX4_mark_112 ++ iX4_mark_121
def aX4_mark_87 : List (Instr × Nat × Nat) := [(.aload_n 0, 88, 0), (.getfield 33, 91, 0), (.getfield 161, 94, 0), (.iload_n 1, 95, 0), (.iaload, 96, 0), (.aload_n 0, 97, 0), (.getfield 43, 100, 0), (.getfield 172, 103, 0), (.iload_n 1, 104, 0), (.iaload, 105, 0), (.iconst 1, 106, 0), (.iadd, 107, 0), (.ishr, 108, 0), (.invokestatic 167, 111, 0), (.ireturn, 112, 0)]
def iX4_mark_87 : List (Instr × Nat × Nat) := aX4_mark_87 ++ iX4_mark_112
def aX4_mark_68 : List (Instr × Nat × Nat) := [(.aload_n 0, 69, 0), (.getfield 33, 72, 0), (.getfield 161, 75, 0), (.iload_n 1, 76, 0), (.iaload, 77, 0), (.aload_n 0, 78, 0), (.iload_n 1, 79, 0), (.invokevirtual 164, 82, 0), (.ixor, 83, 0), (.invokestatic 167, 86, 0), (.ireturn, 87, 0)]
def iX4_mark_68 : List (Instr × Nat × Nat) := aX4_mark_68 ++ iX4_mark_87
def aX4_mark_37 : List (Instr × Nat × Nat) := [(.iload_n 2, 38, 0), (.tableswitch 93 1 4 #[30, 49, 74, 83], 68, 0)]
def iX4_mark_37 : List (Instr × Nat × Nat) := aX4_mark_37 ++ iX4_mark_68
def aX4_mark_19 : List (Instr × Nat × Nat) := [(.aload_n 0, 20, 0), (.getfield 33, 23, 0), (.iload_n 1, 24, 0), (.iload_n 2, 25, 0), (.invokevirtual 157, 28, 0), (.ifCond .ne 9, 31, 37), (.aload_n 0, 32, 0), (.iconst 3, 33, 0), (.invokevirtual 112, 36, 0), (.ireturn, 37, 0)]
def iX4_mark_19 : List (Instr × Nat × Nat) := aX4_mark_19 ++ iX4_mark_37
def aX4_mark_17 : List (Instr × Nat × Nat) := [(.iconst (-1), 18, 0), (.ireturn, 19, 0)]
def iX4_mark_17 : List (Instr × Nat × Nat) := aX4_mark_17 ++ iX4_mark_19
def aX4_mark_0 : List (Instr × Nat × Nat) := [(.aload_n 0, 1, 0), (.iload_n 1, 2, 0), (.invokevirtual 151, 5, 0), (.ifCond .eq 12, 8, 17), (.iload_n 2, 9, 0), (.ifCond .le 8, 12, 17), (.iload_n 2, 13, 0), (.iconst 5, 14, 0), (.if_icmp .le 5, 17, 19)]
def iX4_mark_0 : List (Instr × Nat × Nat) := aX4_mark_0 ++ iX4_mark_17
theorem kX4_mark_0 : sr_is cX4_mark 0 iX4_mark_0 = true := by decide +kernel
theorem lX4_mark_0 {d : Nat} {L : sr_L} {st : List Value} {b : Nat × Nat} {h : sr_H} {P : Option Value → sr_H → Prop} (w : sr_wp mX4_mark d iX4_mark_0 0 L st b h P) : sr_Go mX4_mark d 0 L st b h P := sr_wp_go kX4_mark_0 w
theorem kX4_mark_17 : sr_is cX4_mark 17 iX4_mark_17 = true := sr_is_suf (as := aX4_mark_0) kX4_mark_0
theorem lX4_mark_17 {d : Nat} {L : sr_L} {st : List Value} {b : Nat × Nat} {h : sr_H} {P : Option Value → sr_H → Prop} (w : sr_wp mX4_mark d iX4_mark_17 17 L st b h P) : sr_Go mX4_mark d 17 L st b h P := sr_wp_go kX4_mark_17 w
theorem kX4_mark_19 : sr_is cX4_mark 19 iX4_mark_19 = true := sr_is_suf (as := aX4_mark_17) kX4_mark_17
theorem lX4_mark_19 {d : Nat} {L : sr_L} {st : List Value} {b : Nat × Nat} {h : sr_H} {P : Option Value → sr_H → Prop} (w : sr_wp mX4_mark d iX4_mark_19 19 L st b h P) : sr_Go mX4_mark d 19 L st b h P := sr_wp_go kX4_mark_19 w
theorem kX4_mark_37 : sr_is cX4_mark 37 iX4_mark_37 = true := sr_is_suf (as := aX4_mark_19) kX4_mark_19
theorem lX4_mark_37 {d : Nat} {L : sr_L} {st : List Value} {b : Nat × Nat} {h : sr_H} {P : Option Value → sr_H → Prop} (w : sr_wp mX4_mark d iX4_mark_37 37 L st b h P) : sr_Go mX4_mark d 37 L st b h P := sr_wp_go kX4_mark_37 w
theorem kX4_mark_68 : sr_is cX4_mark 68 iX4_mark_68 = true := sr_is_suf (as := aX4_mark_37) kX4_mark_37
theorem lX4_mark_68 {d : Nat} {L : sr_L} {st : List Value} {b : Nat × Nat} {h : sr_H} {P : Option Value → sr_H → Prop} (w : sr_wp mX4_mark d iX4_mark_68 68 L st b h P) : sr_Go mX4_mark d 68 L st b h P := sr_wp_go kX4_mark_68 w
theorem kX4_mark_87 : sr_is cX4_mark 87 iX4_mark_87 = true := sr_is_suf (as := aX4_mark_68) kX4_mark_68
theorem lX4_mark_87 {d : Nat} {L : sr_L} {st : List Value} {b : Nat × Nat} {h : sr_H} {P : Option Value → sr_H → Prop} (w : sr_wp mX4_mark d iX4_mark_87 87 L st b h P) : sr_Go mX4_mark d 87 L st b h P := sr_wp_go kX4_mark_87 w
theorem kX4_mark_112 : sr_is cX4_mark 112 iX4_mark_112 = true := sr_is_suf (as := aX4_mark_87) kX4_mark_87
theorem lX4_mark_112 {d : Nat} {L : sr_L} {st : List Value} {b : Nat × Nat} {h : sr_H} {P : Option Value → sr_H → Prop} (w : sr_wp mX4_mark d iX4_mark_112 112 L st b h P) : sr_Go mX4_mark d 112 L st b h P := sr_wp_go kX4_mark_112 w
theorem kX4_mark_121 : sr_is cX4_mark 121 iX4_mark_121 = true := sr_is_suf (as := aX4_mark_112) kX4_mark_112
theorem lX4_mark_121 {d : Nat} {L : sr_L} {st : List Value} {b : Nat × Nat} {h : sr_H} {P : Option Value → sr_H → Prop} (w : sr_wp mX4_mark d iX4_mark_121 121 L st b h P) : sr_Go mX4_mark d 121 L st b h P := sr_wp_go kX4_mark_121 w
theorem kX4_mark_131 : sr_is cX4_mark 131 iX4_mark_131 = true := sr_is_suf (as := aX4_mark_121) kX4_mark_121
theorem lX4_mark_131 {d : Nat} {L : sr_L} {st : List Value} {b : Nat × Nat} {h : sr_H} {P : Option Value → sr_H → Prop} (w : sr_wp mX4_mark d iX4_mark_131 131 L st b h P) : sr_Go mX4_mark d 131 L st b h P := sr_wp_go kX4_mark_131 w
def iX4_turn_38 : List (Instr × Nat × Nat) := [(.aload_n 0, 39, 0), (.getfield 43, 42, 0), (.getfield 172, 45, 0), (.iload_n 1, 46, 0), (.iaload, 47, 0), (.istore_n 3, 48, 0), (.aload_n 0, 49, 0), (.getfield 43, 52, 0), (.getfield 172, 55, 0), (.iload_n 1, 56, 0), (.iload_n 2, 57, 0), (.iastore, 58, 0), (.iload_n 3, 59, 0), (.ireturn, 60, 0)]
def aX4_turn_25 : List (Instr × Nat × Nat) := [(.aload_n 0, 26, 0), (.getfield 43, 29, 0), (.getfield 188, 32, 0), (.ifCond .le 6, 35, 38), (.bipush (-4), 37, 0), (.ireturn, 38, 0)]
def iX4_turn_25 : List (Instr × Nat × Nat) := aX4_turn_25 ++ iX4_turn_38
def aX4_turn_23 : List (Instr × Nat × Nat) := [(.iconst (-1), 24, 0), (.ireturn, 25, 0)]
def iX4_turn_23 : List (Instr × Nat × Nat) := aX4_turn_23 ++ iX4_turn_25
def aX4_turn_0 : List (Instr × Nat × Nat) := [(.aload_n 0, 1, 0), (.iload_n 1, 2, 0), (.invokevirtual 151, 5, 0), (.ifCond .eq 18, 8, 23), (.iload_n 2, 9, 0), (.ifCond .lt 14, 12, 23), (.iload_n 2, 13, 0), (.aload_n 0, 14, 0), (.getfield 33, 17, 0), (.getfield 185, 20, 0), (.if_icmp .lt 5, 23, 25)]
def iX4_turn_0 : List (Instr × Nat × Nat) := aX4_turn_0 ++ iX4_turn_23
theorem kX4_turn_0 : sr_is cX4_turn 0 iX4_turn_0 = true := by decide +kernel
theorem lX4_turn_0 {d : Nat} {L : sr_L} {st : List Value} {b : Nat × Nat} {h : sr_H} {P : Option Value → sr_H → Prop} (w : sr_wp mX4_turn d iX4_turn_0 0 L st b h P) : sr_Go mX4_turn d 0 L st b h P := sr_wp_go kX4_turn_0 w
theorem kX4_turn_23 : sr_is cX4_turn 23 iX4_turn_23 = true := sr_is_suf (as := aX4_turn_0) kX4_turn_0
theorem lX4_turn_23 {d : Nat} {L : sr_L} {st : List Value} {b : Nat × Nat} {h : sr_H} {P : Option Value → sr_H → Prop} (w : sr_wp mX4_turn d iX4_turn_23 23 L st b h P) : sr_Go mX4_turn d 23 L st b h P := sr_wp_go kX4_turn_23 w
theorem kX4_turn_25 : sr_is cX4_turn 25 iX4_turn_25 = true := sr_is_suf (as := aX4_turn_23) kX4_turn_23
theorem lX4_turn_25 {d : Nat} {L : sr_L} {st : List Value} {b : Nat × Nat} {h : sr_H} {P : Option Value → sr_H → Prop} (w : sr_wp mX4_turn d iX4_turn_25 25 L st b h P) : sr_Go mX4_turn d 25 L st b h P := sr_wp_go kX4_turn_25 w
theorem kX4_turn_38 : sr_is cX4_turn 38 iX4_turn_38 = true := sr_is_suf (as := aX4_turn_25) kX4_turn_25
theorem lX4_turn_38 {d : Nat} {L : sr_L} {st : List Value} {b : Nat × Nat} {h : sr_H} {P : Option Value → sr_H → Prop} (w : sr_wp mX4_turn d iX4_turn_38 38 L st b h P) : sr_Go mX4_turn d 38 L st b h P := sr_wp_go kX4_turn_38 w
def iX4_change_40 : List (Instr × Nat × Nat) := [(.aload_n 0, 41, 0), (.getfield 43, 44, 0), (.iconst 0, 45, 0), (.iload_n 1, 46, 0), (.invokevirtual 191, 49, 0), (.aload_n 0, 50, 0), (.getfield 43, 53, 0), (.iload_n 1, 54, 0), (.invokevirtual 194, 57, 0), (.ireturn, 58, 0)]
def aX4_change_25 : List (Instr × Nat × Nat) := [(.aload_n 0, 26, 0), (.getfield 43, 29, 0), (.getfield 188, 32, 0), (.bipush 60, 34, 0), (.if_icmp .lt 6, 37, 40), (.bipush (-2), 39, 0), (.ireturn, 40, 0)]
def iX4_change_25 : List (Instr × Nat × Nat) := aX4_change_25 ++ iX4_change_40
def aX4_change_10 : List (Instr × Nat × Nat) := [(.aload_n 0, 11, 0), (.getfield 43, 14, 0), (.iload_n 1, 15, 0), (.invokevirtual 175, 18, 0), (.iconst 1, 19, 0), (.if_icmp .ne 6, 22, 25), (.bipush (-4), 24, 0), (.ireturn, 25, 0)]
def iX4_change_10 : List (Instr × Nat × Nat) := aX4_change_10 ++ iX4_change_25
def aX4_change_0 : List (Instr × Nat × Nat) := [(.aload_n 0, 1, 0), (.iload_n 1, 2, 0), (.invokevirtual 151, 5, 0), (.ifCond .ne 5, 8, 10), (.iconst (-1), 9, 0), (.ireturn, 10, 0)]
def iX4_change_0 : List (Instr × Nat × Nat) := aX4_change_0 ++ iX4_change_10
theorem kX4_change_0 : sr_is cX4_change 0 iX4_change_0 = true := by decide +kernel
theorem lX4_change_0 {d : Nat} {L : sr_L} {st : List Value} {b : Nat × Nat} {h : sr_H} {P : Option Value → sr_H → Prop} (w : sr_wp mX4_change d iX4_change_0 0 L st b h P) : sr_Go mX4_change d 0 L st b h P := sr_wp_go kX4_change_0 w
theorem kX4_change_10 : sr_is cX4_change 10 iX4_change_10 = true := sr_is_suf (as := aX4_change_0) kX4_change_0
theorem lX4_change_10 {d : Nat} {L : sr_L} {st : List Value} {b : Nat × Nat} {h : sr_H} {P : Option Value → sr_H → Prop} (w : sr_wp mX4_change d iX4_change_10 10 L st b h P) : sr_Go mX4_change d 10 L st b h P := sr_wp_go kX4_change_10 w
theorem kX4_change_25 : sr_is cX4_change 25 iX4_change_25 = true := sr_is_suf (as := aX4_change_10) kX4_change_10
theorem lX4_change_25 {d : Nat} {L : sr_L} {st : List Value} {b : Nat × Nat} {h : sr_H} {P : Option Value → sr_H → Prop} (w : sr_wp mX4_change d iX4_change_25 25 L st b h P) : sr_Go mX4_change d 25 L st b h P := sr_wp_go kX4_change_25 w
theorem kX4_change_40 : sr_is cX4_change 40 iX4_change_40 = true := sr_is_suf (as := aX4_change_25) kX4_change_25
theorem lX4_change_40 {d : Nat} {L : sr_L} {st : List Value} {b : Nat × Nat} {h : sr_H} {P : Option Value → sr_H → Prop} (w : sr_wp mX4_change d iX4_change_40 40 L st b h P) : sr_Go mX4_change d 40 L st b h P := sr_wp_go kX4_change_40 w
def iX4_lock_49 : List (Instr × Nat × Nat) := [(.aload_n 0, 50, 0), (.getfield 43, 53, 0), (.iconst 1, 54, 0), (.iload_n 1, 55, 0), (.invokevirtual 191, 58, 0), (.aload_n 0, 59, 0), (.getfield 43, 62, 0), (.getfield 197, 65, 0), (.invokestatic 167, 68, 0), (.ireturn, 69, 0)]
def aX4_lock_34 : List (Instr × Nat × Nat) := [(.aload_n 0, 35, 0), (.getfield 43, 38, 0), (.getfield 188, 41, 0), (.bipush 60, 43, 0), (.if_icmp .lt 6, 46, 49), (.bipush (-2), 48, 0), (.ireturn, 49, 0)]
def iX4_lock_34 : List (Instr × Nat × Nat) := aX4_lock_34 ++ iX4_lock_49
def aX4_lock_19 : List (Instr × Nat × Nat) := [(.aload_n 0, 20, 0), (.getfield 43, 23, 0), (.iload_n 1, 24, 0), (.invokevirtual 175, 27, 0), (.iload_n 2, 28, 0), (.if_icmp .ne 6, 31, 34), (.bipush (-4), 33, 0), (.ireturn, 34, 0)]
def iX4_lock_19 : List (Instr × Nat × Nat) := aX4_lock_19 ++ iX4_lock_34
def aX4_lock_17 : List (Instr × Nat × Nat) := [(.iconst (-1), 18, 0), (.ireturn, 19, 0)]
def iX4_lock_17 : List (Instr × Nat × Nat) := aX4_lock_17 ++ iX4_lock_19
def aX4_lock_0 : List (Instr × Nat × Nat) := [(.aload_n 0, 1, 0), (.iload_n 1, 2, 0), (.invokevirtual 151, 5, 0), (.ifCond .eq 12, 8, 17), (.iload_n 2, 9, 0), (.ifCond .lt 8, 12, 17), (.iload_n 2, 13, 0), (.iconst 1, 14, 0), (.if_icmp .le 5, 17, 19)]
def iX4_lock_0 : List (Instr × Nat × Nat) := aX4_lock_0 ++ iX4_lock_17
theorem kX4_lock_0 : sr_is cX4_lock 0 iX4_lock_0 = true := by decide +kernel
theorem lX4_lock_0 {d : Nat} {L : sr_L} {st : List Value} {b : Nat × Nat} {h : sr_H} {P : Option Value → sr_H → Prop} (w : sr_wp mX4_lock d iX4_lock_0 0 L st b h P) : sr_Go mX4_lock d 0 L st b h P := sr_wp_go kX4_lock_0 w
theorem kX4_lock_17 : sr_is cX4_lock 17 iX4_lock_17 = true := sr_is_suf (as := aX4_lock_0) kX4_lock_0
theorem lX4_lock_17 {d : Nat} {L : sr_L} {st : List Value} {b : Nat × Nat} {h : sr_H} {P : Option Value → sr_H → Prop} (w : sr_wp mX4_lock d iX4_lock_17 17 L st b h P) : sr_Go mX4_lock d 17 L st b h P := sr_wp_go kX4_lock_17 w
theorem kX4_lock_19 : sr_is cX4_lock 19 iX4_lock_19 = true := sr_is_suf (as := aX4_lock_17) kX4_lock_17
theorem lX4_lock_19 {d : Nat} {L : sr_L} {st : List Value} {b : Nat × Nat} {h : sr_H} {P : Option Value → sr_H → Prop} (w : sr_wp mX4_lock d iX4_lock_19 19 L st b h P) : sr_Go mX4_lock d 19 L st b h P := sr_wp_go kX4_lock_19 w
theorem kX4_lock_34 : sr_is cX4_lock 34 iX4_lock_34 = true := sr_is_suf (as := aX4_lock_19) kX4_lock_19
theorem lX4_lock_34 {d : Nat} {L : sr_L} {st : List Value} {b : Nat × Nat} {h : sr_H} {P : Option Value → sr_H → Prop} (w : sr_wp mX4_lock d iX4_lock_34 34 L st b h P) : sr_Go mX4_lock d 34 L st b h P := sr_wp_go kX4_lock_34 w
theorem kX4_lock_49 : sr_is cX4_lock 49 iX4_lock_49 = true := sr_is_suf (as := aX4_lock_34) kX4_lock_34
theorem lX4_lock_49 {d : Nat} {L : sr_L} {st : List Value} {b : Nat × Nat} {h : sr_H} {P : Option Value → sr_H → Prop} (w : sr_wp mX4_lock d iX4_lock_49 49 L st b h P) : sr_Go mX4_lock d 49 L st b h P := sr_wp_go kX4_lock_49 w
def iX4_use_25 : List (Instr × Nat × Nat) := [(.aload_n 0, 26, 0), (.getfield 43, 29, 0), (.iconst 2, 30, 0), (.iload_n 1, 31, 0), (.invokevirtual 191, 34, 0), (.aload_n 0, 35, 0), (.getfield 43, 38, 0), (.iload_n 1, 39, 0), (.aload_n 0, 40, 0), (.getfield 43, 43, 0), (.iload_n 1, 44, 0), (.invokevirtual 194, 47, 0), (.invokevirtual 200, 50, 0), (.ireturn, 51, 0)]
def aX4_use_10 : List (Instr × Nat × Nat) := [(.aload_n 0, 11, 0), (.getfield 43, 14, 0), (.getfield 188, 17, 0), (.bipush 60, 19, 0), (.if_icmp .lt 6, 22, 25), (.bipush (-2), 24, 0), (.ireturn, 25, 0)]
def iX4_use_10 : List (Instr × Nat × Nat) := aX4_use_10 ++ iX4_use_25
def aX4_use_0 : List (Instr × Nat × Nat) := [(.aload_n 0, 1, 0), (.iload_n 1, 2, 0), (.invokevirtual 151, 5, 0), (.ifCond .ne 5, 8, 10), (.iconst (-1), 9, 0), (.ireturn, 10, 0)]
def iX4_use_0 : List (Instr × Nat × Nat) := aX4_use_0 ++ iX4_use_10
theorem kX4_use_0 : sr_is cX4_use 0 iX4_use_0 = true := by decide +kernel
theorem lX4_use_0 {d : Nat} {L : sr_L} {st : List Value} {b : Nat × Nat} {h : sr_H} {P : Option Value → sr_H → Prop} (w : sr_wp mX4_use d iX4_use_0 0 L st b h P) : sr_Go mX4_use d 0 L st b h P := sr_wp_go kX4_use_0 w
theorem kX4_use_10 : sr_is cX4_use 10 iX4_use_10 = true := sr_is_suf (as := aX4_use_0) kX4_use_0
theorem lX4_use_10 {d : Nat} {L : sr_L} {st : List Value} {b : Nat × Nat} {h : sr_H} {P : Option Value → sr_H → Prop} (w : sr_wp mX4_use d iX4_use_10 10 L st b h P) : sr_Go mX4_use d 10 L st b h P := sr_wp_go kX4_use_10 w
theorem kX4_use_25 : sr_is cX4_use 25 iX4_use_25 = true := sr_is_suf (as := aX4_use_10) kX4_use_10
theorem lX4_use_25 {d : Nat} {L : sr_L} {st : List Value} {b : Nat × Nat} {h : sr_H} {P : Option Value → sr_H → Prop} (w : sr_wp mX4_use d iX4_use_25 25 L st b h P) : sr_Go mX4_use d 25 L st b h P := sr_wp_go kX4_use_25 w
def iX4_undo_17 : List (Instr × Nat × Nat) := [(.aload_n 0, 18, 0), (.getfield 43, 21, 0), (.iload_n 1, 22, 0), (.invokevirtual 203, 25, 0), (.ireturn, 26, 0)]
def aX4_undo_15 : List (Instr × Nat × Nat) := [(.iconst (-1), 16, 0), (.ireturn, 17, 0)]
def iX4_undo_15 : List (Instr × Nat × Nat) := aX4_undo_15 ++ iX4_undo_17
def aX4_undo_0 : List (Instr × Nat × Nat) := [(.iload_n 1, 1, 0), (.ifCond .lt 14, 4, 15), (.iload_n 1, 5, 0), (.aload_n 0, 6, 0), (.getfield 43, 9, 0), (.getfield 188, 12, 0), (.if_icmp .le 5, 15, 17)]
def iX4_undo_0 : List (Instr × Nat × Nat) := aX4_undo_0 ++ iX4_undo_15
theorem kX4_undo_0 : sr_is cX4_undo 0 iX4_undo_0 = true := by decide +kernel
theorem lX4_undo_0 {d : Nat} {L : sr_L} {st : List Value} {b : Nat × Nat} {h : sr_H} {P : Option Value → sr_H → Prop} (w : sr_wp mX4_undo d iX4_undo_0 0 L st b h P) : sr_Go mX4_undo d 0 L st b h P := sr_wp_go kX4_undo_0 w
theorem kX4_undo_15 : sr_is cX4_undo 15 iX4_undo_15 = true := sr_is_suf (as := aX4_undo_0) kX4_undo_0
theorem lX4_undo_15 {d : Nat} {L : sr_L} {st : List Value} {b : Nat × Nat} {h : sr_H} {P : Option Value → sr_H → Prop} (w : sr_wp mX4_undo d iX4_undo_15 15 L st b h P) : sr_Go mX4_undo d 15 L st b h P := sr_wp_go kX4_undo_15 w
theorem kX4_undo_17 : sr_is cX4_undo 17 iX4_undo_17 = true := sr_is_suf (as := aX4_undo_15) kX4_undo_15
theorem lX4_undo_17 {d : Nat} {L : sr_L} {st : List Value} {b : Nat × Nat} {h : sr_H} {P : Option Value → sr_H → Prop} (w : sr_wp mX4_undo d iX4_undo_17 17 L st b h P) : sr_Go mX4_undo d 17 L st b h P := sr_wp_go kX4_undo_17 w
def iX4_keep_46 : List (Instr × Nat × Nat) := [(.aload_n 0, 47, 0), (.getfield 47, 50, 0), (.iload_n 1, 51, 0), (.aaload, 52, 0), (.aload_n 0, 53, 0), (.getfield 43, 56, 0), (.invokevirtual 206, 59, 0), (.aload_n 0, 60, 0), (.getfield 43, 63, 0), (.getfield 188, 66, 0), (.ireturn, 67, 0)]
def aX4_keep_24 : List (Instr × Nat × Nat) := [(.aload_n 0, 25, 0), (.getfield 47, 28, 0), (.iload_n 1, 29, 0), (.aaload, 30, 0), (.ifnonnull 16, 33, 46), (.aload_n 0, 34, 0), (.getfield 47, 37, 0), (.iload_n 1, 38, 0), (.new 40, 41, 0), (.dup, 42, 0), (.invokespecial 42, 45, 0), (.aastore, 46, 0)]
def iX4_keep_24 : List (Instr × Nat × Nat) := aX4_keep_24 ++ iX4_keep_46
def aX4_keep_11 : List (Instr × Nat × Nat) := [(.aload_n 0, 12, 0), (.getfield 33, 15, 0), (.getfield 148, 18, 0), (.ifCond .ne 6, 21, 24), (.bipush (-4), 23, 0), (.ireturn, 24, 0)]
def iX4_keep_11 : List (Instr × Nat × Nat) := aX4_keep_11 ++ iX4_keep_24
def aX4_keep_9 : List (Instr × Nat × Nat) := [(.iconst (-1), 10, 0), (.ireturn, 11, 0)]
def iX4_keep_9 : List (Instr × Nat × Nat) := aX4_keep_9 ++ iX4_keep_11
def aX4_keep_0 : List (Instr × Nat × Nat) := [(.iload_n 1, 1, 0), (.ifCond .lt 8, 4, 9), (.iload_n 1, 5, 0), (.iconst 3, 6, 0), (.if_icmp .lt 5, 9, 11)]
def iX4_keep_0 : List (Instr × Nat × Nat) := aX4_keep_0 ++ iX4_keep_9
theorem kX4_keep_0 : sr_is cX4_keep 0 iX4_keep_0 = true := by decide +kernel
theorem lX4_keep_0 {d : Nat} {L : sr_L} {st : List Value} {b : Nat × Nat} {h : sr_H} {P : Option Value → sr_H → Prop} (w : sr_wp mX4_keep d iX4_keep_0 0 L st b h P) : sr_Go mX4_keep d 0 L st b h P := sr_wp_go kX4_keep_0 w
theorem kX4_keep_9 : sr_is cX4_keep 9 iX4_keep_9 = true := sr_is_suf (as := aX4_keep_0) kX4_keep_0
theorem lX4_keep_9 {d : Nat} {L : sr_L} {st : List Value} {b : Nat × Nat} {h : sr_H} {P : Option Value → sr_H → Prop} (w : sr_wp mX4_keep d iX4_keep_9 9 L st b h P) : sr_Go mX4_keep d 9 L st b h P := sr_wp_go kX4_keep_9 w
theorem kX4_keep_11 : sr_is cX4_keep 11 iX4_keep_11 = true := sr_is_suf (as := aX4_keep_9) kX4_keep_9
theorem lX4_keep_11 {d : Nat} {L : sr_L} {st : List Value} {b : Nat × Nat} {h : sr_H} {P : Option Value → sr_H → Prop} (w : sr_wp mX4_keep d iX4_keep_11 11 L st b h P) : sr_Go mX4_keep d 11 L st b h P := sr_wp_go kX4_keep_11 w
theorem kX4_keep_24 : sr_is cX4_keep 24 iX4_keep_24 = true := sr_is_suf (as := aX4_keep_11) kX4_keep_11
theorem lX4_keep_24 {d : Nat} {L : sr_L} {st : List Value} {b : Nat × Nat} {h : sr_H} {P : Option Value → sr_H → Prop} (w : sr_wp mX4_keep d iX4_keep_24 24 L st b h P) : sr_Go mX4_keep d 24 L st b h P := sr_wp_go kX4_keep_24 w
theorem kX4_keep_46 : sr_is cX4_keep 46 iX4_keep_46 = true := sr_is_suf (as := aX4_keep_24) kX4_keep_24
theorem lX4_keep_46 {d : Nat} {L : sr_L} {st : List Value} {b : Nat × Nat} {h : sr_H} {P : Option Value → sr_H → Prop} (w : sr_wp mX4_keep d iX4_keep_46 46 L st b h P) : sr_Go mX4_keep d 46 L st b h P := sr_wp_go kX4_keep_46 w
def iX4_on_35 : List (Instr × Nat × Nat) := [(.aload_n 0, 36, 0), (.getfield 43, 39, 0), (.aload_n 2, 40, 0), (.invokevirtual 206, 43, 0), (.aload_n 0, 44, 0), (.getfield 43, 47, 0), (.getfield 188, 50, 0), (.ireturn, 51, 0)]
def aX4_on_29 : List (Instr × Nat × Nat) := [(.aload_n 0, 30, 0), (.iconst 1, 31, 0), (.invokevirtual 112, 34, 0), (.ireturn, 35, 0)]
def iX4_on_29 : List (Instr × Nat × Nat) := aX4_on_29 ++ iX4_on_35
def aX4_on_11 : List (Instr × Nat × Nat) := [(.aload_n 0, 12, 0), (.getfield 47, 15, 0), (.iload_n 1, 16, 0), (.aaload, 17, 0), (.astore_n 2, 18, 0), (.aload_n 2, 19, 0), (.ifnull 10, 22, 29), (.aload_n 2, 23, 0), (.invokevirtual 209, 26, 0), (.ifCond .eq 9, 29, 35)]
def iX4_on_11 : List (Instr × Nat × Nat) := aX4_on_11 ++ iX4_on_29
def aX4_on_9 : List (Instr × Nat × Nat) := [(.iconst (-1), 10, 0), (.ireturn, 11, 0)]
def iX4_on_9 : List (Instr × Nat × Nat) := aX4_on_9 ++ iX4_on_11
def aX4_on_0 : List (Instr × Nat × Nat) := [(.iload_n 1, 1, 0), (.ifCond .lt 8, 4, 9), (.iload_n 1, 5, 0), (.iconst 3, 6, 0), (.if_icmp .lt 5, 9, 11)]
def iX4_on_0 : List (Instr × Nat × Nat) := aX4_on_0 ++ iX4_on_9
theorem kX4_on_0 : sr_is cX4_on 0 iX4_on_0 = true := by decide +kernel
theorem lX4_on_0 {d : Nat} {L : sr_L} {st : List Value} {b : Nat × Nat} {h : sr_H} {P : Option Value → sr_H → Prop} (w : sr_wp mX4_on d iX4_on_0 0 L st b h P) : sr_Go mX4_on d 0 L st b h P := sr_wp_go kX4_on_0 w
theorem kX4_on_9 : sr_is cX4_on 9 iX4_on_9 = true := sr_is_suf (as := aX4_on_0) kX4_on_0
theorem lX4_on_9 {d : Nat} {L : sr_L} {st : List Value} {b : Nat × Nat} {h : sr_H} {P : Option Value → sr_H → Prop} (w : sr_wp mX4_on d iX4_on_9 9 L st b h P) : sr_Go mX4_on d 9 L st b h P := sr_wp_go kX4_on_9 w
theorem kX4_on_11 : sr_is cX4_on 11 iX4_on_11 = true := sr_is_suf (as := aX4_on_9) kX4_on_9
theorem lX4_on_11 {d : Nat} {L : sr_L} {st : List Value} {b : Nat × Nat} {h : sr_H} {P : Option Value → sr_H → Prop} (w : sr_wp mX4_on d iX4_on_11 11 L st b h P) : sr_Go mX4_on d 11 L st b h P := sr_wp_go kX4_on_11 w
theorem kX4_on_29 : sr_is cX4_on 29 iX4_on_29 = true := sr_is_suf (as := aX4_on_11) kX4_on_11
theorem lX4_on_29 {d : Nat} {L : sr_L} {st : List Value} {b : Nat × Nat} {h : sr_H} {P : Option Value → sr_H → Prop} (w : sr_wp mX4_on d iX4_on_29 29 L st b h P) : sr_Go mX4_on d 29 L st b h P := sr_wp_go kX4_on_29 w
theorem kX4_on_35 : sr_is cX4_on 35 iX4_on_35 = true := sr_is_suf (as := aX4_on_29) kX4_on_29
theorem lX4_on_35 {d : Nat} {L : sr_L} {st : List Value} {b : Nat × Nat} {h : sr_H} {P : Option Value → sr_H → Prop} (w : sr_wp mX4_on d iX4_on_35 35 L st b h P) : sr_Go mX4_on d 35 L st b h P := sr_wp_go kX4_on_35 w
def iX4_things_19 : List (Instr × Nat × Nat) := [(.aload_n 0, 20, 0), (.iload_n 1, 21, 0), (.iload_n 2, 22, 0), (.invokevirtual 182, 25, 0), (.ireturn, 26, 0)]
def aX4_things_17 : List (Instr × Nat × Nat) := [(.iconst (-1), 18, 0), (.ireturn, 19, 0)]
def iX4_things_17 : List (Instr × Nat × Nat) := aX4_things_17 ++ iX4_things_19
def aX4_things_0 : List (Instr × Nat × Nat) := [(.aload_n 0, 1, 0), (.iload_n 1, 2, 0), (.invokevirtual 151, 5, 0), (.ifCond .eq 12, 8, 17), (.iload_n 2, 9, 0), (.ifCond .lt 8, 12, 17), (.iload_n 2, 13, 0), (.iconst 1, 14, 0), (.if_icmp .le 5, 17, 19)]
def iX4_things_0 : List (Instr × Nat × Nat) := aX4_things_0 ++ iX4_things_17
theorem kX4_things_0 : sr_is cX4_things 0 iX4_things_0 = true := by decide +kernel
theorem lX4_things_0 {d : Nat} {L : sr_L} {st : List Value} {b : Nat × Nat} {h : sr_H} {P : Option Value → sr_H → Prop} (w : sr_wp mX4_things d iX4_things_0 0 L st b h P) : sr_Go mX4_things d 0 L st b h P := sr_wp_go kX4_things_0 w
theorem kX4_things_17 : sr_is cX4_things 17 iX4_things_17 = true := sr_is_suf (as := aX4_things_0) kX4_things_0
theorem lX4_things_17 {d : Nat} {L : sr_L} {st : List Value} {b : Nat × Nat} {h : sr_H} {P : Option Value → sr_H → Prop} (w : sr_wp mX4_things d iX4_things_17 17 L st b h P) : sr_Go mX4_things d 17 L st b h P := sr_wp_go kX4_things_17 w
theorem kX4_things_19 : sr_is cX4_things 19 iX4_things_19 = true := sr_is_suf (as := aX4_things_17) kX4_things_17
theorem lX4_things_19 {d : Nat} {L : sr_L} {st : List Value} {b : Nat × Nat} {h : sr_H} {P : Option Value → sr_H → Prop} (w : sr_wp mX4_things d iX4_things_19 19 L st b h P) : sr_Go mX4_things d 19 L st b h P := sr_wp_go kX4_things_19 w
def iX4_both_10 : List (Instr × Nat × Nat) := [(.aload_n 0, 11, 0), (.iload_n 1, 12, 0), (.iconst 0, 13, 0), (.invokevirtual 182, 16, 0), (.istore_n 2, 17, 0), (.aload_n 0, 18, 0), (.iload_n 1, 19, 0), (.iconst 1, 20, 0), (.invokevirtual 182, 23, 0), (.istore_n 3, 24, 0), (.aload_n 0, 25, 0), (.iload_n 2, 26, 0), (.iload_n 3, 27, 0), (.iand, 28, 0), (.iload_n 2, 29, 0), (.iload_n 3, 30, 0), (.ixor, 31, 0), (.invokevirtual 97, 34, 0), (.ireturn, 35, 0)]
def aX4_both_0 : List (Instr × Nat × Nat) := [(.aload_n 0, 1, 0), (.iload_n 1, 2, 0), (.invokevirtual 151, 5, 0), (.ifCond .ne 5, 8, 10), (.iconst (-1), 9, 0), (.ireturn, 10, 0)]
def iX4_both_0 : List (Instr × Nat × Nat) := aX4_both_0 ++ iX4_both_10
theorem kX4_both_0 : sr_is cX4_both 0 iX4_both_0 = true := by decide +kernel
theorem lX4_both_0 {d : Nat} {L : sr_L} {st : List Value} {b : Nat × Nat} {h : sr_H} {P : Option Value → sr_H → Prop} (w : sr_wp mX4_both d iX4_both_0 0 L st b h P) : sr_Go mX4_both d 0 L st b h P := sr_wp_go kX4_both_0 w
theorem kX4_both_10 : sr_is cX4_both 10 iX4_both_10 = true := sr_is_suf (as := aX4_both_0) kX4_both_0
theorem lX4_both_10 {d : Nat} {L : sr_L} {st : List Value} {b : Nat × Nat} {h : sr_H} {P : Option Value → sr_H → Prop} (w : sr_wp mX4_both d iX4_both_10 10 L st b h P) : sr_Go mX4_both d 10 L st b h P := sr_wp_go kX4_both_10 w
def iX4_apart_10 : List (Instr × Nat × Nat) := [(.aload_n 0, 11, 0), (.getfield 33, 14, 0), (.getfield 161, 17, 0), (.iload_n 1, 18, 0), (.iaload, 19, 0), (.aload_n 0, 20, 0), (.iload_n 1, 21, 0), (.invokevirtual 164, 24, 0), (.ixor, 25, 0), (.istore_n 2, 26, 0), (.aload_n 0, 27, 0), (.iload_n 2, 28, 0), (.invokestatic 167, 31, 0), (.iload_n 2, 32, 0), (.invokestatic 213, 35, 0), (.invokevirtual 97, 38, 0), (.ireturn, 39, 0)]
def aX4_apart_0 : List (Instr × Nat × Nat) := [(.aload_n 0, 1, 0), (.iload_n 1, 2, 0), (.invokevirtual 151, 5, 0), (.ifCond .ne 5, 8, 10), (.iconst (-1), 9, 0), (.ireturn, 10, 0)]
def iX4_apart_0 : List (Instr × Nat × Nat) := aX4_apart_0 ++ iX4_apart_10
theorem kX4_apart_0 : sr_is cX4_apart 0 iX4_apart_0 = true := by decide +kernel
theorem lX4_apart_0 {d : Nat} {L : sr_L} {st : List Value} {b : Nat × Nat} {h : sr_H} {P : Option Value → sr_H → Prop} (w : sr_wp mX4_apart d iX4_apart_0 0 L st b h P) : sr_Go mX4_apart d 0 L st b h P := sr_wp_go kX4_apart_0 w
theorem kX4_apart_10 : sr_is cX4_apart 10 iX4_apart_10 = true := sr_is_suf (as := aX4_apart_0) kX4_apart_0
theorem lX4_apart_10 {d : Nat} {L : sr_L} {st : List Value} {b : Nat × Nat} {h : sr_H} {P : Option Value → sr_H → Prop} (w : sr_wp mX4_apart d iX4_apart_10 10 L st b h P) : sr_Go mX4_apart d 10 L st b h P := sr_wp_go kX4_apart_10 w
def iX4_has_30 : List (Instr × Nat × Nat) := [(.aload_n 0, 31, 0), (.getfield 33, 34, 0), (.iload_n 1, 35, 0), (.invokevirtual 219, 38, 0), (.ireturn, 39, 0)]
def aX4_has_28 : List (Instr × Nat × Nat) := [(.iconst (-1), 29, 0), (.ireturn, 30, 0)]
def iX4_has_28 : List (Instr × Nat × Nat) := aX4_has_28 ++ iX4_has_30
def aX4_has_13 : List (Instr × Nat × Nat) := [(.iload_n 1, 14, 0), (.ifCond .lt 14, 17, 28), (.iload_n 1, 18, 0), (.aload_n 0, 19, 0), (.getfield 33, 22, 0), (.invokevirtual 216, 25, 0), (.if_icmp .lt 5, 28, 30)]
def iX4_has_13 : List (Instr × Nat × Nat) := aX4_has_13 ++ iX4_has_28
def aX4_has_0 : List (Instr × Nat × Nat) := [(.aload_n 0, 1, 0), (.getfield 33, 4, 0), (.getfield 148, 7, 0), (.ifCond .ne 6, 10, 13), (.bipush (-4), 12, 0), (.ireturn, 13, 0)]
def iX4_has_0 : List (Instr × Nat × Nat) := aX4_has_0 ++ iX4_has_13
theorem kX4_has_0 : sr_is cX4_has 0 iX4_has_0 = true := by decide +kernel
theorem lX4_has_0 {d : Nat} {L : sr_L} {st : List Value} {b : Nat × Nat} {h : sr_H} {P : Option Value → sr_H → Prop} (w : sr_wp mX4_has d iX4_has_0 0 L st b h P) : sr_Go mX4_has d 0 L st b h P := sr_wp_go kX4_has_0 w
theorem kX4_has_13 : sr_is cX4_has 13 iX4_has_13 = true := sr_is_suf (as := aX4_has_0) kX4_has_0
theorem lX4_has_13 {d : Nat} {L : sr_L} {st : List Value} {b : Nat × Nat} {h : sr_H} {P : Option Value → sr_H → Prop} (w : sr_wp mX4_has d iX4_has_13 13 L st b h P) : sr_Go mX4_has d 13 L st b h P := sr_wp_go kX4_has_13 w
theorem kX4_has_28 : sr_is cX4_has 28 iX4_has_28 = true := sr_is_suf (as := aX4_has_13) kX4_has_13
theorem lX4_has_28 {d : Nat} {L : sr_L} {st : List Value} {b : Nat × Nat} {h : sr_H} {P : Option Value → sr_H → Prop} (w : sr_wp mX4_has d iX4_has_28 28 L st b h P) : sr_Go mX4_has d 28 L st b h P := sr_wp_go kX4_has_28 w
theorem kX4_has_30 : sr_is cX4_has 30 iX4_has_30 = true := sr_is_suf (as := aX4_has_28) kX4_has_28
theorem lX4_has_30 {d : Nat} {L : sr_L} {st : List Value} {b : Nat × Nat} {h : sr_H} {P : Option Value → sr_H → Prop} (w : sr_wp mX4_has d iX4_has_30 30 L st b h P) : sr_Go mX4_has d 30 L st b h P := sr_wp_go kX4_has_30 w
def iX4_fits_59 : List (Instr × Nat × Nat) := [(.iload_n 3, 60, 0), (.ireturn, 61, 0)]
def aX4_fits_53 : List (Instr × Nat × Nat) := [(.iinc 4 1, 56, 0), (.goto (-33), 59, 23)]
def iX4_fits_53 : List (Instr × Nat × Nat) := aX4_fits_53 ++ iX4_fits_59
def aX4_fits_23 : List (Instr × Nat × Nat) := [(.iload 4, 25, 0), (.aload_n 0, 26, 0), (.getfield 33, 29, 0), (.getfield 185, 32, 0), (.if_icmp .ge 27, 35, 59), (.aload_n 0, 36, 0), (.iload_n 1, 37, 0), (.iload 4, 39, 0), (.invokevirtual 225, 42, 0), (.iload_n 2, 43, 0), (.if_icmp .ne 10, 46, 53), (.iload_n 3, 47, 0), (.iconst 1, 48, 0), (.iload 4, 50, 0), (.ishl, 51, 0), (.ior, 52, 0), (.istore_n 3, 53, 0)]
def iX4_fits_23 : List (Instr × Nat × Nat) := aX4_fits_23 ++ iX4_fits_53
def aX4_fits_18 : List (Instr × Nat × Nat) := [(.iconst 0, 19, 0), (.istore_n 3, 20, 0), (.iconst 0, 21, 0), (.istore 4, 23, 0)]
def iX4_fits_18 : List (Instr × Nat × Nat) := aX4_fits_18 ++ iX4_fits_23
def aX4_fits_16 : List (Instr × Nat × Nat) := [(.iconst (-1), 17, 0), (.ireturn, 18, 0)]
def iX4_fits_16 : List (Instr × Nat × Nat) := aX4_fits_16 ++ iX4_fits_18
def aX4_fits_0 : List (Instr × Nat × Nat) := [(.aload_n 0, 1, 0), (.iload_n 1, 2, 0), (.invokevirtual 151, 5, 0), (.ifCond .eq 11, 8, 16), (.aload_n 0, 9, 0), (.iload_n 2, 10, 0), (.invokevirtual 222, 13, 0), (.ifCond .ne 5, 16, 18)]
def iX4_fits_0 : List (Instr × Nat × Nat) := aX4_fits_0 ++ iX4_fits_16
theorem kX4_fits_0 : sr_is cX4_fits 0 iX4_fits_0 = true := by decide +kernel
theorem lX4_fits_0 {d : Nat} {L : sr_L} {st : List Value} {b : Nat × Nat} {h : sr_H} {P : Option Value → sr_H → Prop} (w : sr_wp mX4_fits d iX4_fits_0 0 L st b h P) : sr_Go mX4_fits d 0 L st b h P := sr_wp_go kX4_fits_0 w
theorem kX4_fits_16 : sr_is cX4_fits 16 iX4_fits_16 = true := sr_is_suf (as := aX4_fits_0) kX4_fits_0
theorem lX4_fits_16 {d : Nat} {L : sr_L} {st : List Value} {b : Nat × Nat} {h : sr_H} {P : Option Value → sr_H → Prop} (w : sr_wp mX4_fits d iX4_fits_16 16 L st b h P) : sr_Go mX4_fits d 16 L st b h P := sr_wp_go kX4_fits_16 w
theorem kX4_fits_18 : sr_is cX4_fits 18 iX4_fits_18 = true := sr_is_suf (as := aX4_fits_16) kX4_fits_16
theorem lX4_fits_18 {d : Nat} {L : sr_L} {st : List Value} {b : Nat × Nat} {h : sr_H} {P : Option Value → sr_H → Prop} (w : sr_wp mX4_fits d iX4_fits_18 18 L st b h P) : sr_Go mX4_fits d 18 L st b h P := sr_wp_go kX4_fits_18 w
theorem kX4_fits_23 : sr_is cX4_fits 23 iX4_fits_23 = true := sr_is_suf (as := aX4_fits_18) kX4_fits_18
theorem lX4_fits_23 {d : Nat} {L : sr_L} {st : List Value} {b : Nat × Nat} {h : sr_H} {P : Option Value → sr_H → Prop} (w : sr_wp mX4_fits d iX4_fits_23 23 L st b h P) : sr_Go mX4_fits d 23 L st b h P := sr_wp_go kX4_fits_23 w
theorem kX4_fits_53 : sr_is cX4_fits 53 iX4_fits_53 = true := sr_is_suf (as := aX4_fits_23) kX4_fits_23
theorem lX4_fits_53 {d : Nat} {L : sr_L} {st : List Value} {b : Nat × Nat} {h : sr_H} {P : Option Value → sr_H → Prop} (w : sr_wp mX4_fits d iX4_fits_53 53 L st b h P) : sr_Go mX4_fits d 53 L st b h P := sr_wp_go kX4_fits_53 w
theorem kX4_fits_59 : sr_is cX4_fits 59 iX4_fits_59 = true := sr_is_suf (as := aX4_fits_53) kX4_fits_53
theorem lX4_fits_59 {d : Nat} {L : sr_L} {st : List Value} {b : Nat × Nat} {h : sr_H} {P : Option Value → sr_H → Prop} (w : sr_wp mX4_fits d iX4_fits_59 59 L st b h P) : sr_Go mX4_fits d 59 L st b h P := sr_wp_go kX4_fits_59 w
def iX4_looks_73 : List (Instr × Nat × Nat) := [(.aload_n 0, 74, 0), (.invokevirtual 231, 77, 0), (.istore_n 2, 78, 0), (.aload_n 0, 79, 0), (.iload_n 2, 80, 0), (.invokestatic 167, 83, 0), (.iload_n 2, 84, 0), (.invokevirtual 97, 87, 0), (.ireturn, 88, 0)]
def aX4_looks_67 : List (Instr × Nat × Nat) := [(.iinc 2 1, 70, 0), (.goto (-53), 73, 17)]
def iX4_looks_67 : List (Instr × Nat × Nat) := aX4_looks_67 ++ iX4_looks_73
def aX4_looks_61 : List (Instr × Nat × Nat) := [(.iinc 3 1, 64, 0), (.goto (-34), 67, 30)]
def iX4_looks_61 : List (Instr × Nat × Nat) := aX4_looks_61 ++ iX4_looks_67
def aX4_looks_30 : List (Instr × Nat × Nat) := [(.iload_n 3, 31, 0), (.iload_n 2, 32, 0), (.if_icmp .ge 35, 35, 67), (.aload_n 0, 36, 0), (.iload_n 1, 37, 0), (.iload_n 2, 38, 0), (.invokevirtual 225, 41, 0), (.aload_n 0, 42, 0), (.iload_n 1, 43, 0), (.iload_n 3, 44, 0), (.invokevirtual 225, 47, 0), (.ixor, 48, 0), (.istore 4, 50, 0), (.iload 4, 52, 0), (.ifCond .eq 9, 55, 61), (.aload_n 0, 56, 0), (.iload 4, 58, 0), (.invokevirtual 228, 61, 0)]
def iX4_looks_30 : List (Instr × Nat × Nat) := aX4_looks_30 ++ iX4_looks_61
def aX4_looks_17 : List (Instr × Nat × Nat) := [(.iload_n 2, 18, 0), (.aload_n 0, 19, 0), (.getfield 33, 22, 0), (.getfield 185, 25, 0), (.if_icmp .ge 48, 28, 73), (.iconst 0, 29, 0), (.istore_n 3, 30, 0)]
def iX4_looks_17 : List (Instr × Nat × Nat) := aX4_looks_17 ++ iX4_looks_30
def aX4_looks_10 : List (Instr × Nat × Nat) := [(.aload_n 0, 11, 0), (.iconst 0, 12, 0), (.putfield 55, 15, 0), (.iconst 1, 16, 0), (.istore_n 2, 17, 0)]
def iX4_looks_10 : List (Instr × Nat × Nat) := aX4_looks_10 ++ iX4_looks_17
def aX4_looks_0 : List (Instr × Nat × Nat) := [(.aload_n 0, 1, 0), (.iload_n 1, 2, 0), (.invokevirtual 151, 5, 0), (.ifCond .ne 5, 8, 10), (.iconst (-1), 9, 0), (.ireturn, 10, 0)]
def iX4_looks_0 : List (Instr × Nat × Nat) := aX4_looks_0 ++ iX4_looks_10
theorem kX4_looks_0 : sr_is cX4_looks 0 iX4_looks_0 = true := by decide +kernel
theorem lX4_looks_0 {d : Nat} {L : sr_L} {st : List Value} {b : Nat × Nat} {h : sr_H} {P : Option Value → sr_H → Prop} (w : sr_wp mX4_looks d iX4_looks_0 0 L st b h P) : sr_Go mX4_looks d 0 L st b h P := sr_wp_go kX4_looks_0 w
theorem kX4_looks_10 : sr_is cX4_looks 10 iX4_looks_10 = true := sr_is_suf (as := aX4_looks_0) kX4_looks_0
theorem lX4_looks_10 {d : Nat} {L : sr_L} {st : List Value} {b : Nat × Nat} {h : sr_H} {P : Option Value → sr_H → Prop} (w : sr_wp mX4_looks d iX4_looks_10 10 L st b h P) : sr_Go mX4_looks d 10 L st b h P := sr_wp_go kX4_looks_10 w
theorem kX4_looks_17 : sr_is cX4_looks 17 iX4_looks_17 = true := sr_is_suf (as := aX4_looks_10) kX4_looks_10
theorem lX4_looks_17 {d : Nat} {L : sr_L} {st : List Value} {b : Nat × Nat} {h : sr_H} {P : Option Value → sr_H → Prop} (w : sr_wp mX4_looks d iX4_looks_17 17 L st b h P) : sr_Go mX4_looks d 17 L st b h P := sr_wp_go kX4_looks_17 w
theorem kX4_looks_30 : sr_is cX4_looks 30 iX4_looks_30 = true := sr_is_suf (as := aX4_looks_17) kX4_looks_17
theorem lX4_looks_30 {d : Nat} {L : sr_L} {st : List Value} {b : Nat × Nat} {h : sr_H} {P : Option Value → sr_H → Prop} (w : sr_wp mX4_looks d iX4_looks_30 30 L st b h P) : sr_Go mX4_looks d 30 L st b h P := sr_wp_go kX4_looks_30 w
theorem kX4_looks_61 : sr_is cX4_looks 61 iX4_looks_61 = true := sr_is_suf (as := aX4_looks_30) kX4_looks_30
theorem lX4_looks_61 {d : Nat} {L : sr_L} {st : List Value} {b : Nat × Nat} {h : sr_H} {P : Option Value → sr_H → Prop} (w : sr_wp mX4_looks d iX4_looks_61 61 L st b h P) : sr_Go mX4_looks d 61 L st b h P := sr_wp_go kX4_looks_61 w
theorem kX4_looks_67 : sr_is cX4_looks 67 iX4_looks_67 = true := sr_is_suf (as := aX4_looks_61) kX4_looks_61
theorem lX4_looks_67 {d : Nat} {L : sr_L} {st : List Value} {b : Nat × Nat} {h : sr_H} {P : Option Value → sr_H → Prop} (w : sr_wp mX4_looks d iX4_looks_67 67 L st b h P) : sr_Go mX4_looks d 67 L st b h P := sr_wp_go kX4_looks_67 w
theorem kX4_looks_73 : sr_is cX4_looks 73 iX4_looks_73 = true := sr_is_suf (as := aX4_looks_67) kX4_looks_67
theorem lX4_looks_73 {d : Nat} {L : sr_L} {st : List Value} {b : Nat × Nat} {h : sr_H} {P : Option Value → sr_H → Prop} (w : sr_wp mX4_looks d iX4_looks_73 73 L st b h P) : sr_Go mX4_looks d 73 L st b h P := sr_wp_go kX4_looks_73 w
def iX4_drawer_81 : List (Instr × Nat × Nat) := [(.aload_n 0, 82, 0), (.iload_n 2, 83, 0), (.iload_n 3, 84, 0), (.invokevirtual 97, 87, 0), (.ireturn, 88, 0)]
def aX4_drawer_75 : List (Instr × Nat × Nat) := [(.iinc 4 1, 78, 0), (.goto (-53), 81, 25)]
def iX4_drawer_75 : List (Instr × Nat × Nat) := aX4_drawer_75 ++ iX4_drawer_81
def aX4_drawer_25 : List (Instr × Nat × Nat) := [(.iload 4, 27, 0), (.aload_n 0, 28, 0), (.getfield 33, 31, 0), (.getfield 234, 34, 0), (.if_icmp .ge 47, 37, 81), (.aload_n 0, 38, 0), (.iload_n 1, 39, 0), (.iload 4, 41, 0), (.invokevirtual 237, 44, 0), (.istore 5, 46, 0), (.iload 5, 48, 0), (.aload_n 0, 49, 0), (.getfield 33, 52, 0), (.getfield 185, 55, 0), (.iload 5, 57, 0), (.isub, 58, 0), (.invokestatic 240, 61, 0), (.istore 6, 63, 0), (.iload 6, 65, 0), (.iload_n 3, 66, 0), (.if_icmp .ge 9, 69, 75), (.iload 4, 71, 0), (.istore_n 2, 72, 0), (.iload 6, 74, 0), (.istore_n 3, 75, 0)]
def iX4_drawer_25 : List (Instr × Nat × Nat) := aX4_drawer_25 ++ iX4_drawer_75
def aX4_drawer_10 : List (Instr × Nat × Nat) := [(.iconst 0, 11, 0), (.istore_n 2, 12, 0), (.aload_n 0, 13, 0), (.getfield 33, 16, 0), (.getfield 185, 19, 0), (.iconst 1, 20, 0), (.iadd, 21, 0), (.istore_n 3, 22, 0), (.iconst 0, 23, 0), (.istore 4, 25, 0)]
def iX4_drawer_10 : List (Instr × Nat × Nat) := aX4_drawer_10 ++ iX4_drawer_25
def aX4_drawer_0 : List (Instr × Nat × Nat) := [(.aload_n 0, 1, 0), (.iload_n 1, 2, 0), (.invokevirtual 151, 5, 0), (.ifCond .ne 5, 8, 10), (.iconst (-1), 9, 0), (.ireturn, 10, 0)]
def iX4_drawer_0 : List (Instr × Nat × Nat) := aX4_drawer_0 ++ iX4_drawer_10
theorem kX4_drawer_0 : sr_is cX4_drawer 0 iX4_drawer_0 = true := by decide +kernel
theorem lX4_drawer_0 {d : Nat} {L : sr_L} {st : List Value} {b : Nat × Nat} {h : sr_H} {P : Option Value → sr_H → Prop} (w : sr_wp mX4_drawer d iX4_drawer_0 0 L st b h P) : sr_Go mX4_drawer d 0 L st b h P := sr_wp_go kX4_drawer_0 w
theorem kX4_drawer_10 : sr_is cX4_drawer 10 iX4_drawer_10 = true := sr_is_suf (as := aX4_drawer_0) kX4_drawer_0
theorem lX4_drawer_10 {d : Nat} {L : sr_L} {st : List Value} {b : Nat × Nat} {h : sr_H} {P : Option Value → sr_H → Prop} (w : sr_wp mX4_drawer d iX4_drawer_10 10 L st b h P) : sr_Go mX4_drawer d 10 L st b h P := sr_wp_go kX4_drawer_10 w
theorem kX4_drawer_25 : sr_is cX4_drawer 25 iX4_drawer_25 = true := sr_is_suf (as := aX4_drawer_10) kX4_drawer_10
theorem lX4_drawer_25 {d : Nat} {L : sr_L} {st : List Value} {b : Nat × Nat} {h : sr_H} {P : Option Value → sr_H → Prop} (w : sr_wp mX4_drawer d iX4_drawer_25 25 L st b h P) : sr_Go mX4_drawer d 25 L st b h P := sr_wp_go kX4_drawer_25 w
theorem kX4_drawer_75 : sr_is cX4_drawer 75 iX4_drawer_75 = true := sr_is_suf (as := aX4_drawer_25) kX4_drawer_25
theorem lX4_drawer_75 {d : Nat} {L : sr_L} {st : List Value} {b : Nat × Nat} {h : sr_H} {P : Option Value → sr_H → Prop} (w : sr_wp mX4_drawer d iX4_drawer_75 75 L st b h P) : sr_Go mX4_drawer d 75 L st b h P := sr_wp_go kX4_drawer_75 w
theorem kX4_drawer_81 : sr_is cX4_drawer 81 iX4_drawer_81 = true := sr_is_suf (as := aX4_drawer_75) kX4_drawer_75
theorem lX4_drawer_81 {d : Nat} {L : sr_L} {st : List Value} {b : Nat × Nat} {h : sr_H} {P : Option Value → sr_H → Prop} (w : sr_wp mX4_drawer d iX4_drawer_81 81 L st b h P) : sr_Go mX4_drawer d 81 L st b h P := sr_wp_go kX4_drawer_81 w
def iX4_lives_76 : List (Instr × Nat × Nat) := [(.aload_n 0, 77, 0), (.iload_n 2, 78, 0), (.iload_n 3, 79, 0), (.invokevirtual 97, 82, 0), (.ireturn, 83, 0)]
def aX4_lives_70 : List (Instr × Nat × Nat) := [(.iinc 4 1, 73, 0), (.goto (-42), 76, 31)]
def iX4_lives_70 : List (Instr × Nat × Nat) := aX4_lives_70 ++ iX4_lives_76
def aX4_lives_66 : List (Instr × Nat × Nat) := [(.istore_n 3, 67, 0), (.iinc 2 1, 70, 0)]
def iX4_lives_66 : List (Instr × Nat × Nat) := aX4_lives_66 ++ iX4_lives_70
def aX4_lives_65 : List (Instr × Nat × Nat) := [(.iload_n 3, 66, 0)]
def iX4_lives_65 : List (Instr × Nat × Nat) := aX4_lives_65 ++ iX4_lives_66
def aX4_lives_31 : List (Instr × Nat × Nat) := [(.iload 4, 33, 0), (.aload_n 0, 34, 0), (.getfield 33, 37, 0), (.invokevirtual 216, 40, 0), (.if_icmp .ge 36, 43, 76), (.aload_n 0, 44, 0), (.getfield 33, 47, 0), (.iload 4, 49, 0), (.invokevirtual 219, 52, 0), (.iload_n 1, 53, 0), (.if_icmp .ne 17, 56, 70), (.iload_n 2, 57, 0), (.ifCond .ne 8, 60, 65), (.iload 4, 62, 0), (.goto 4, 65, 66)]
def iX4_lives_31 : List (Instr × Nat × Nat) := aX4_lives_31 ++ iX4_lives_65
def aX4_lives_23 : List (Instr × Nat × Nat) := [(.iconst 0, 24, 0), (.istore_n 2, 25, 0), (.bipush (-9), 27, 0), (.istore_n 3, 28, 0), (.iconst 0, 29, 0), (.istore 4, 31, 0)]
def iX4_lives_23 : List (Instr × Nat × Nat) := aX4_lives_23 ++ iX4_lives_31
def aX4_lives_13 : List (Instr × Nat × Nat) := [(.aload_n 0, 14, 0), (.iload_n 1, 15, 0), (.invokevirtual 222, 18, 0), (.ifCond .ne 5, 21, 23), (.iconst (-1), 22, 0), (.ireturn, 23, 0)]
def iX4_lives_13 : List (Instr × Nat × Nat) := aX4_lives_13 ++ iX4_lives_23
def aX4_lives_0 : List (Instr × Nat × Nat) := [(.aload_n 0, 1, 0), (.getfield 33, 4, 0), (.getfield 148, 7, 0), (.ifCond .ne 6, 10, 13), (.bipush (-4), 12, 0), (.ireturn, 13, 0)]
def iX4_lives_0 : List (Instr × Nat × Nat) := aX4_lives_0 ++ iX4_lives_13
theorem kX4_lives_0 : sr_is cX4_lives 0 iX4_lives_0 = true := by decide +kernel
theorem lX4_lives_0 {d : Nat} {L : sr_L} {st : List Value} {b : Nat × Nat} {h : sr_H} {P : Option Value → sr_H → Prop} (w : sr_wp mX4_lives d iX4_lives_0 0 L st b h P) : sr_Go mX4_lives d 0 L st b h P := sr_wp_go kX4_lives_0 w
theorem kX4_lives_13 : sr_is cX4_lives 13 iX4_lives_13 = true := sr_is_suf (as := aX4_lives_0) kX4_lives_0
theorem lX4_lives_13 {d : Nat} {L : sr_L} {st : List Value} {b : Nat × Nat} {h : sr_H} {P : Option Value → sr_H → Prop} (w : sr_wp mX4_lives d iX4_lives_13 13 L st b h P) : sr_Go mX4_lives d 13 L st b h P := sr_wp_go kX4_lives_13 w
theorem kX4_lives_23 : sr_is cX4_lives 23 iX4_lives_23 = true := sr_is_suf (as := aX4_lives_13) kX4_lives_13
theorem lX4_lives_23 {d : Nat} {L : sr_L} {st : List Value} {b : Nat × Nat} {h : sr_H} {P : Option Value → sr_H → Prop} (w : sr_wp mX4_lives d iX4_lives_23 23 L st b h P) : sr_Go mX4_lives d 23 L st b h P := sr_wp_go kX4_lives_23 w
theorem kX4_lives_31 : sr_is cX4_lives 31 iX4_lives_31 = true := sr_is_suf (as := aX4_lives_23) kX4_lives_23
theorem lX4_lives_31 {d : Nat} {L : sr_L} {st : List Value} {b : Nat × Nat} {h : sr_H} {P : Option Value → sr_H → Prop} (w : sr_wp mX4_lives d iX4_lives_31 31 L st b h P) : sr_Go mX4_lives d 31 L st b h P := sr_wp_go kX4_lives_31 w
theorem kX4_lives_65 : sr_is cX4_lives 65 iX4_lives_65 = true := sr_is_suf (as := aX4_lives_31) kX4_lives_31
theorem lX4_lives_65 {d : Nat} {L : sr_L} {st : List Value} {b : Nat × Nat} {h : sr_H} {P : Option Value → sr_H → Prop} (w : sr_wp mX4_lives d iX4_lives_65 65 L st b h P) : sr_Go mX4_lives d 65 L st b h P := sr_wp_go kX4_lives_65 w
theorem kX4_lives_66 : sr_is cX4_lives 66 iX4_lives_66 = true := sr_is_suf (as := aX4_lives_65) kX4_lives_65
theorem lX4_lives_66 {d : Nat} {L : sr_L} {st : List Value} {b : Nat × Nat} {h : sr_H} {P : Option Value → sr_H → Prop} (w : sr_wp mX4_lives d iX4_lives_66 66 L st b h P) : sr_Go mX4_lives d 66 L st b h P := sr_wp_go kX4_lives_66 w
theorem kX4_lives_70 : sr_is cX4_lives 70 iX4_lives_70 = true := sr_is_suf (as := aX4_lives_66) kX4_lives_66
theorem lX4_lives_70 {d : Nat} {L : sr_L} {st : List Value} {b : Nat × Nat} {h : sr_H} {P : Option Value → sr_H → Prop} (w : sr_wp mX4_lives d iX4_lives_70 70 L st b h P) : sr_Go mX4_lives d 70 L st b h P := sr_wp_go kX4_lives_70 w
theorem kX4_lives_76 : sr_is cX4_lives 76 iX4_lives_76 = true := sr_is_suf (as := aX4_lives_70) kX4_lives_70
theorem lX4_lives_76 {d : Nat} {L : sr_L} {st : List Value} {b : Nat × Nat} {h : sr_H} {P : Option Value → sr_H → Prop} (w : sr_wp mX4_lives d iX4_lives_76 76 L st b h P) : sr_Go mX4_lives d 76 L st b h P := sr_wp_go kX4_lives_76 w
def iX4_nearest_115 : List (Instr × Nat × Nat) := [(.ireturn, 116, 0)]
def aX4_nearest_108 : List (Instr × Nat × Nat) := [(.aload_n 0, 109, 0), (.iload 4, 111, 0), (.iload_n 3, 112, 0), (.invokevirtual 97, 115, 0)]
def iX4_nearest_108 : List (Instr × Nat × Nat) := aX4_nearest_108 ++ iX4_nearest_115
def aX4_nearest_97 : List (Instr × Nat × Nat) := [(.iload_n 3, 98, 0), (.bipush (-9), 100, 0), (.if_icmp .ne 8, 103, 108), (.bipush (-9), 105, 0), (.goto 10, 108, 115)]
def iX4_nearest_97 : List (Instr × Nat × Nat) := aX4_nearest_97 ++ iX4_nearest_108
def aX4_nearest_91 : List (Instr × Nat × Nat) := [(.iinc 5 1, 94, 0), (.goto (-59), 97, 35)]
def iX4_nearest_91 : List (Instr × Nat × Nat) := aX4_nearest_91 ++ iX4_nearest_97
def aX4_nearest_35 : List (Instr × Nat × Nat) := [(.iload 5, 37, 0), (.aload_n 0, 38, 0), (.getfield 33, 41, 0), (.invokevirtual 216, 44, 0), (.if_icmp .ge 53, 47, 97), (.iload 5, 49, 0), (.aload_n 0, 50, 0), (.getfield 33, 53, 0), (.getfield 161, 56, 0), (.iload_n 1, 57, 0), (.iaload, 58, 0), (.ixor, 59, 0), (.invokestatic 167, 62, 0), (.istore 6, 64, 0), (.iload 6, 66, 0), (.iload 4, 68, 0), (.if_icmp .ge 23, 71, 91), (.aload_n 0, 72, 0), (.getfield 33, 75, 0), (.iload 5, 77, 0), (.iload_n 2, 78, 0), (.invokevirtual 248, 81, 0), (.ifCond .eq 10, 84, 91), (.iload 5, 86, 0), (.istore_n 3, 87, 0), (.iload 6, 89, 0), (.istore 4, 91, 0)]
def iX4_nearest_35 : List (Instr × Nat × Nat) := aX4_nearest_35 ++ iX4_nearest_91
def aX4_nearest_18 : List (Instr × Nat × Nat) := [(.bipush (-9), 20, 0), (.istore_n 3, 21, 0), (.aload_n 0, 22, 0), (.getfield 33, 25, 0), (.getfield 185, 28, 0), (.iconst 1, 29, 0), (.iadd, 30, 0), (.istore 4, 32, 0), (.iconst 0, 33, 0), (.istore 5, 35, 0)]
def iX4_nearest_18 : List (Instr × Nat × Nat) := aX4_nearest_18 ++ iX4_nearest_35
def aX4_nearest_16 : List (Instr × Nat × Nat) := [(.iconst (-1), 17, 0), (.ireturn, 18, 0)]
def iX4_nearest_16 : List (Instr × Nat × Nat) := aX4_nearest_16 ++ iX4_nearest_18
def aX4_nearest_0 : List (Instr × Nat × Nat) := [(.aload_n 0, 1, 0), (.iload_n 1, 2, 0), (.invokevirtual 151, 5, 0), (.ifCond .eq 11, 8, 16), (.aload_n 0, 9, 0), (.iload_n 2, 10, 0), (.invokevirtual 245, 13, 0), (.ifCond .ne 5, 16, 18)]
def iX4_nearest_0 : List (Instr × Nat × Nat) := aX4_nearest_0 ++ iX4_nearest_16
theorem kX4_nearest_0 : sr_is cX4_nearest 0 iX4_nearest_0 = true := by decide +kernel
theorem lX4_nearest_0 {d : Nat} {L : sr_L} {st : List Value} {b : Nat × Nat} {h : sr_H} {P : Option Value → sr_H → Prop} (w : sr_wp mX4_nearest d iX4_nearest_0 0 L st b h P) : sr_Go mX4_nearest d 0 L st b h P := sr_wp_go kX4_nearest_0 w
theorem kX4_nearest_16 : sr_is cX4_nearest 16 iX4_nearest_16 = true := sr_is_suf (as := aX4_nearest_0) kX4_nearest_0
theorem lX4_nearest_16 {d : Nat} {L : sr_L} {st : List Value} {b : Nat × Nat} {h : sr_H} {P : Option Value → sr_H → Prop} (w : sr_wp mX4_nearest d iX4_nearest_16 16 L st b h P) : sr_Go mX4_nearest d 16 L st b h P := sr_wp_go kX4_nearest_16 w
theorem kX4_nearest_18 : sr_is cX4_nearest 18 iX4_nearest_18 = true := sr_is_suf (as := aX4_nearest_16) kX4_nearest_16
theorem lX4_nearest_18 {d : Nat} {L : sr_L} {st : List Value} {b : Nat × Nat} {h : sr_H} {P : Option Value → sr_H → Prop} (w : sr_wp mX4_nearest d iX4_nearest_18 18 L st b h P) : sr_Go mX4_nearest d 18 L st b h P := sr_wp_go kX4_nearest_18 w
theorem kX4_nearest_35 : sr_is cX4_nearest 35 iX4_nearest_35 = true := sr_is_suf (as := aX4_nearest_18) kX4_nearest_18
theorem lX4_nearest_35 {d : Nat} {L : sr_L} {st : List Value} {b : Nat × Nat} {h : sr_H} {P : Option Value → sr_H → Prop} (w : sr_wp mX4_nearest d iX4_nearest_35 35 L st b h P) : sr_Go mX4_nearest d 35 L st b h P := sr_wp_go kX4_nearest_35 w
theorem kX4_nearest_91 : sr_is cX4_nearest 91 iX4_nearest_91 = true := sr_is_suf (as := aX4_nearest_35) kX4_nearest_35
theorem lX4_nearest_91 {d : Nat} {L : sr_L} {st : List Value} {b : Nat × Nat} {h : sr_H} {P : Option Value → sr_H → Prop} (w : sr_wp mX4_nearest d iX4_nearest_91 91 L st b h P) : sr_Go mX4_nearest d 91 L st b h P := sr_wp_go kX4_nearest_91 w
theorem kX4_nearest_97 : sr_is cX4_nearest 97 iX4_nearest_97 = true := sr_is_suf (as := aX4_nearest_91) kX4_nearest_91
theorem lX4_nearest_97 {d : Nat} {L : sr_L} {st : List Value} {b : Nat × Nat} {h : sr_H} {P : Option Value → sr_H → Prop} (w : sr_wp mX4_nearest d iX4_nearest_97 97 L st b h P) : sr_Go mX4_nearest d 97 L st b h P := sr_wp_go kX4_nearest_97 w
theorem kX4_nearest_108 : sr_is cX4_nearest 108 iX4_nearest_108 = true := sr_is_suf (as := aX4_nearest_97) kX4_nearest_97
theorem lX4_nearest_108 {d : Nat} {L : sr_L} {st : List Value} {b : Nat × Nat} {h : sr_H} {P : Option Value → sr_H → Prop} (w : sr_wp mX4_nearest d iX4_nearest_108 108 L st b h P) : sr_Go mX4_nearest d 108 L st b h P := sr_wp_go kX4_nearest_108 w
theorem kX4_nearest_115 : sr_is cX4_nearest 115 iX4_nearest_115 = true := sr_is_suf (as := aX4_nearest_108) kX4_nearest_108
theorem lX4_nearest_115 {d : Nat} {L : sr_L} {st : List Value} {b : Nat × Nat} {h : sr_H} {P : Option Value → sr_H → Prop} (w : sr_wp mX4_nearest d iX4_nearest_115 115 L st b h P) : sr_Go mX4_nearest d 115 L st b h P := sr_wp_go kX4_nearest_115 w
def iX4_twins_51 : List (Instr × Nat × Nat) := [(.iload_n 2, 52, 0), (.ireturn, 53, 0)]
def aX4_twins_45 : List (Instr × Nat × Nat) := [(.iinc 3 1, 48, 0), (.goto (-34), 51, 14)]
def iX4_twins_45 : List (Instr × Nat × Nat) := aX4_twins_45 ++ iX4_twins_51
def aX4_twins_14 : List (Instr × Nat × Nat) := [(.iload_n 3, 15, 0), (.aload_n 0, 16, 0), (.getfield 33, 19, 0), (.getfield 148, 22, 0), (.if_icmp .ge 29, 25, 51), (.iload_n 3, 26, 0), (.iload_n 1, 27, 0), (.if_icmp .eq 18, 30, 45), (.aload_n 0, 31, 0), (.iload_n 3, 32, 0), (.iload_n 1, 33, 0), (.invokevirtual 251, 36, 0), (.ifCond .eq 9, 39, 45), (.iload_n 2, 40, 0), (.iconst 1, 41, 0), (.iload_n 3, 42, 0), (.ishl, 43, 0), (.ior, 44, 0), (.istore_n 2, 45, 0)]
def iX4_twins_14 : List (Instr × Nat × Nat) := aX4_twins_14 ++ iX4_twins_45
def aX4_twins_10 : List (Instr × Nat × Nat) := [(.iconst 0, 11, 0), (.istore_n 2, 12, 0), (.iconst 0, 13, 0), (.istore_n 3, 14, 0)]
def iX4_twins_10 : List (Instr × Nat × Nat) := aX4_twins_10 ++ iX4_twins_14
def aX4_twins_0 : List (Instr × Nat × Nat) := [(.aload_n 0, 1, 0), (.iload_n 1, 2, 0), (.invokevirtual 151, 5, 0), (.ifCond .ne 5, 8, 10), (.iconst (-1), 9, 0), (.ireturn, 10, 0)]
def iX4_twins_0 : List (Instr × Nat × Nat) := aX4_twins_0 ++ iX4_twins_10
theorem kX4_twins_0 : sr_is cX4_twins 0 iX4_twins_0 = true := by decide +kernel
theorem lX4_twins_0 {d : Nat} {L : sr_L} {st : List Value} {b : Nat × Nat} {h : sr_H} {P : Option Value → sr_H → Prop} (w : sr_wp mX4_twins d iX4_twins_0 0 L st b h P) : sr_Go mX4_twins d 0 L st b h P := sr_wp_go kX4_twins_0 w
theorem kX4_twins_10 : sr_is cX4_twins 10 iX4_twins_10 = true := sr_is_suf (as := aX4_twins_0) kX4_twins_0
theorem lX4_twins_10 {d : Nat} {L : sr_L} {st : List Value} {b : Nat × Nat} {h : sr_H} {P : Option Value → sr_H → Prop} (w : sr_wp mX4_twins d iX4_twins_10 10 L st b h P) : sr_Go mX4_twins d 10 L st b h P := sr_wp_go kX4_twins_10 w
theorem kX4_twins_14 : sr_is cX4_twins 14 iX4_twins_14 = true := sr_is_suf (as := aX4_twins_10) kX4_twins_10
theorem lX4_twins_14 {d : Nat} {L : sr_L} {st : List Value} {b : Nat × Nat} {h : sr_H} {P : Option Value → sr_H → Prop} (w : sr_wp mX4_twins d iX4_twins_14 14 L st b h P) : sr_Go mX4_twins d 14 L st b h P := sr_wp_go kX4_twins_14 w
theorem kX4_twins_45 : sr_is cX4_twins 45 iX4_twins_45 = true := sr_is_suf (as := aX4_twins_14) kX4_twins_14
theorem lX4_twins_45 {d : Nat} {L : sr_L} {st : List Value} {b : Nat × Nat} {h : sr_H} {P : Option Value → sr_H → Prop} (w : sr_wp mX4_twins d iX4_twins_45 45 L st b h P) : sr_Go mX4_twins d 45 L st b h P := sr_wp_go kX4_twins_45 w
theorem kX4_twins_51 : sr_is cX4_twins 51 iX4_twins_51 = true := sr_is_suf (as := aX4_twins_45) kX4_twins_45
theorem lX4_twins_51 {d : Nat} {L : sr_L} {st : List Value} {b : Nat × Nat} {h : sr_H} {P : Option Value → sr_H → Prop} (w : sr_wp mX4_twins d iX4_twins_51 51 L st b h P) : sr_Go mX4_twins d 51 L st b h P := sr_wp_go kX4_twins_51 w
def iX4_pairs_86 : List (Instr × Nat × Nat) := [(.aload_n 0, 87, 0), (.iload_n 1, 88, 0), (.iload_n 2, 89, 0), (.invokevirtual 97, 92, 0), (.ireturn, 93, 0)]
def aX4_pairs_80 : List (Instr × Nat × Nat) := [(.iinc 3 1, 83, 0), (.goto (-76), 86, 7)]
def iX4_pairs_80 : List (Instr × Nat × Nat) := aX4_pairs_80 ++ iX4_pairs_86
def aX4_pairs_74 : List (Instr × Nat × Nat) := [(.iinc 4 1, 77, 0), (.goto (-54), 80, 23)]
def iX4_pairs_74 : List (Instr × Nat × Nat) := aX4_pairs_74 ++ iX4_pairs_80
def aX4_pairs_70 : List (Instr × Nat × Nat) := [(.istore_n 2, 71, 0), (.iinc 1 1, 74, 0)]
def iX4_pairs_70 : List (Instr × Nat × Nat) := aX4_pairs_70 ++ iX4_pairs_74
def aX4_pairs_69 : List (Instr × Nat × Nat) := [(.iload_n 2, 70, 0)]
def iX4_pairs_69 : List (Instr × Nat × Nat) := aX4_pairs_69 ++ iX4_pairs_70
def aX4_pairs_23 : List (Instr × Nat × Nat) := [(.iload 4, 25, 0), (.aload_n 0, 26, 0), (.getfield 33, 29, 0), (.getfield 148, 32, 0), (.if_icmp .ge 48, 35, 80), (.aload_n 0, 36, 0), (.iload 4, 38, 0), (.iload_n 3, 39, 0), (.invokevirtual 251, 42, 0), (.ifCond .eq 32, 45, 74), (.aload_n 0, 46, 0), (.iload_n 3, 47, 0), (.iload 4, 49, 0), (.invokevirtual 251, 52, 0), (.ifCond .eq 22, 55, 74), (.iload_n 1, 56, 0), (.ifCond .ne 13, 59, 69), (.bipush 6, 61, 0), (.iload_n 3, 62, 0), (.imul, 63, 0), (.iload 4, 65, 0), (.iadd, 66, 0), (.goto 4, 69, 70)]
def iX4_pairs_23 : List (Instr × Nat × Nat) := aX4_pairs_23 ++ iX4_pairs_69
def aX4_pairs_7 : List (Instr × Nat × Nat) := [(.iload_n 3, 8, 0), (.aload_n 0, 9, 0), (.getfield 33, 12, 0), (.getfield 148, 15, 0), (.if_icmp .ge 71, 18, 86), (.iload_n 3, 19, 0), (.iconst 1, 20, 0), (.iadd, 21, 0), (.istore 4, 23, 0)]
def iX4_pairs_7 : List (Instr × Nat × Nat) := aX4_pairs_7 ++ iX4_pairs_23
def aX4_pairs_0 : List (Instr × Nat × Nat) := [(.iconst 0, 1, 0), (.istore_n 1, 2, 0), (.bipush (-9), 4, 0), (.istore_n 2, 5, 0), (.iconst 0, 6, 0), (.istore_n 3, 7, 0)]
def iX4_pairs_0 : List (Instr × Nat × Nat) := aX4_pairs_0 ++ iX4_pairs_7
theorem kX4_pairs_0 : sr_is cX4_pairs 0 iX4_pairs_0 = true := by decide +kernel
theorem lX4_pairs_0 {d : Nat} {L : sr_L} {st : List Value} {b : Nat × Nat} {h : sr_H} {P : Option Value → sr_H → Prop} (w : sr_wp mX4_pairs d iX4_pairs_0 0 L st b h P) : sr_Go mX4_pairs d 0 L st b h P := sr_wp_go kX4_pairs_0 w
theorem kX4_pairs_7 : sr_is cX4_pairs 7 iX4_pairs_7 = true := sr_is_suf (as := aX4_pairs_0) kX4_pairs_0
theorem lX4_pairs_7 {d : Nat} {L : sr_L} {st : List Value} {b : Nat × Nat} {h : sr_H} {P : Option Value → sr_H → Prop} (w : sr_wp mX4_pairs d iX4_pairs_7 7 L st b h P) : sr_Go mX4_pairs d 7 L st b h P := sr_wp_go kX4_pairs_7 w
theorem kX4_pairs_23 : sr_is cX4_pairs 23 iX4_pairs_23 = true := sr_is_suf (as := aX4_pairs_7) kX4_pairs_7
theorem lX4_pairs_23 {d : Nat} {L : sr_L} {st : List Value} {b : Nat × Nat} {h : sr_H} {P : Option Value → sr_H → Prop} (w : sr_wp mX4_pairs d iX4_pairs_23 23 L st b h P) : sr_Go mX4_pairs d 23 L st b h P := sr_wp_go kX4_pairs_23 w
theorem kX4_pairs_69 : sr_is cX4_pairs 69 iX4_pairs_69 = true := sr_is_suf (as := aX4_pairs_23) kX4_pairs_23
theorem lX4_pairs_69 {d : Nat} {L : sr_L} {st : List Value} {b : Nat × Nat} {h : sr_H} {P : Option Value → sr_H → Prop} (w : sr_wp mX4_pairs d iX4_pairs_69 69 L st b h P) : sr_Go mX4_pairs d 69 L st b h P := sr_wp_go kX4_pairs_69 w
theorem kX4_pairs_70 : sr_is cX4_pairs 70 iX4_pairs_70 = true := sr_is_suf (as := aX4_pairs_69) kX4_pairs_69
theorem lX4_pairs_70 {d : Nat} {L : sr_L} {st : List Value} {b : Nat × Nat} {h : sr_H} {P : Option Value → sr_H → Prop} (w : sr_wp mX4_pairs d iX4_pairs_70 70 L st b h P) : sr_Go mX4_pairs d 70 L st b h P := sr_wp_go kX4_pairs_70 w
theorem kX4_pairs_74 : sr_is cX4_pairs 74 iX4_pairs_74 = true := sr_is_suf (as := aX4_pairs_70) kX4_pairs_70
theorem lX4_pairs_74 {d : Nat} {L : sr_L} {st : List Value} {b : Nat × Nat} {h : sr_H} {P : Option Value → sr_H → Prop} (w : sr_wp mX4_pairs d iX4_pairs_74 74 L st b h P) : sr_Go mX4_pairs d 74 L st b h P := sr_wp_go kX4_pairs_74 w
theorem kX4_pairs_80 : sr_is cX4_pairs 80 iX4_pairs_80 = true := sr_is_suf (as := aX4_pairs_74) kX4_pairs_74
theorem lX4_pairs_80 {d : Nat} {L : sr_L} {st : List Value} {b : Nat × Nat} {h : sr_H} {P : Option Value → sr_H → Prop} (w : sr_wp mX4_pairs d iX4_pairs_80 80 L st b h P) : sr_Go mX4_pairs d 80 L st b h P := sr_wp_go kX4_pairs_80 w
theorem kX4_pairs_86 : sr_is cX4_pairs 86 iX4_pairs_86 = true := sr_is_suf (as := aX4_pairs_80) kX4_pairs_80
theorem lX4_pairs_86 {d : Nat} {L : sr_L} {st : List Value} {b : Nat × Nat} {h : sr_H} {P : Option Value → sr_H → Prop} (w : sr_wp mX4_pairs d iX4_pairs_86 86 L st b h P) : sr_Go mX4_pairs d 86 L st b h P := sr_wp_go kX4_pairs_86 w
def iX4_ring_92 : List (Instr × Nat × Nat) := [(.ireturn, 93, 0)]
def aX4_ring_86 : List (Instr × Nat × Nat) := [(.aload_n 0, 87, 0), (.iload_n 2, 88, 0), (.iload_n 1, 89, 0), (.invokevirtual 97, 92, 0)]
def iX4_ring_86 : List (Instr × Nat × Nat) := aX4_ring_86 ++ iX4_ring_92
def aX4_ring_77 : List (Instr × Nat × Nat) := [(.iload_n 1, 78, 0), (.ifCond .ne 8, 81, 86), (.bipush (-9), 83, 0), (.goto 9, 86, 92)]
def iX4_ring_77 : List (Instr × Nat × Nat) := aX4_ring_77 ++ iX4_ring_86
def aX4_ring_71 : List (Instr × Nat × Nat) := [(.iinc 3 1, 74, 0), (.goto (-67), 77, 7)]
def iX4_ring_71 : List (Instr × Nat × Nat) := aX4_ring_71 ++ iX4_ring_77
def aX4_ring_7 : List (Instr × Nat × Nat) := [(.iload_n 3, 8, 0), (.iconst 1, 9, 0), (.aload_n 0, 10, 0), (.getfield 33, 13, 0), (.getfield 148, 16, 0), (.ishl, 17, 0), (.if_icmp .ge 60, 20, 77), (.aload_n 0, 21, 0), (.getfield 62, 24, 0), (.iload_n 3, 25, 0), (.aload_n 0, 26, 0), (.iload_n 3, 27, 0), (.invokevirtual 254, 30, 0), (.iastore, 31, 0), (.iload_n 3, 32, 0), (.invokestatic 167, 35, 0), (.istore 4, 37, 0), (.iload 4, 39, 0), (.iconst 1, 40, 0), (.if_icmp .le 31, 43, 71), (.iload 4, 45, 0), (.iload_n 2, 46, 0), (.if_icmp .ge 25, 49, 71), (.aload_n 0, 50, 0), (.aload_n 0, 51, 0), (.getfield 62, 54, 0), (.iload_n 3, 55, 0), (.iaload, 56, 0), (.iload_n 3, 57, 0), (.invokestatic 213, 60, 0), (.invokevirtual 257, 63, 0), (.ifCond .eq 8, 66, 71), (.iload_n 3, 67, 0), (.istore_n 1, 68, 0), (.iload 4, 70, 0), (.istore_n 2, 71, 0)]
def iX4_ring_7 : List (Instr × Nat × Nat) := aX4_ring_7 ++ iX4_ring_71
def aX4_ring_0 : List (Instr × Nat × Nat) := [(.iconst 0, 1, 0), (.istore_n 1, 2, 0), (.bipush 6, 4, 0), (.istore_n 2, 5, 0), (.iconst 1, 6, 0), (.istore_n 3, 7, 0)]
def iX4_ring_0 : List (Instr × Nat × Nat) := aX4_ring_0 ++ iX4_ring_7
theorem kX4_ring_0 : sr_is cX4_ring 0 iX4_ring_0 = true := by decide +kernel
theorem lX4_ring_0 {d : Nat} {L : sr_L} {st : List Value} {b : Nat × Nat} {h : sr_H} {P : Option Value → sr_H → Prop} (w : sr_wp mX4_ring d iX4_ring_0 0 L st b h P) : sr_Go mX4_ring d 0 L st b h P := sr_wp_go kX4_ring_0 w
theorem kX4_ring_7 : sr_is cX4_ring 7 iX4_ring_7 = true := sr_is_suf (as := aX4_ring_0) kX4_ring_0
theorem lX4_ring_7 {d : Nat} {L : sr_L} {st : List Value} {b : Nat × Nat} {h : sr_H} {P : Option Value → sr_H → Prop} (w : sr_wp mX4_ring d iX4_ring_7 7 L st b h P) : sr_Go mX4_ring d 7 L st b h P := sr_wp_go kX4_ring_7 w
theorem kX4_ring_71 : sr_is cX4_ring 71 iX4_ring_71 = true := sr_is_suf (as := aX4_ring_7) kX4_ring_7
theorem lX4_ring_71 {d : Nat} {L : sr_L} {st : List Value} {b : Nat × Nat} {h : sr_H} {P : Option Value → sr_H → Prop} (w : sr_wp mX4_ring d iX4_ring_71 71 L st b h P) : sr_Go mX4_ring d 71 L st b h P := sr_wp_go kX4_ring_71 w
theorem kX4_ring_77 : sr_is cX4_ring 77 iX4_ring_77 = true := sr_is_suf (as := aX4_ring_71) kX4_ring_71
theorem lX4_ring_77 {d : Nat} {L : sr_L} {st : List Value} {b : Nat × Nat} {h : sr_H} {P : Option Value → sr_H → Prop} (w : sr_wp mX4_ring d iX4_ring_77 77 L st b h P) : sr_Go mX4_ring d 77 L st b h P := sr_wp_go kX4_ring_77 w
theorem kX4_ring_86 : sr_is cX4_ring 86 iX4_ring_86 = true := sr_is_suf (as := aX4_ring_77) kX4_ring_77
theorem lX4_ring_86 {d : Nat} {L : sr_L} {st : List Value} {b : Nat × Nat} {h : sr_H} {P : Option Value → sr_H → Prop} (w : sr_wp mX4_ring d iX4_ring_86 86 L st b h P) : sr_Go mX4_ring d 86 L st b h P := sr_wp_go kX4_ring_86 w
theorem kX4_ring_92 : sr_is cX4_ring 92 iX4_ring_92 = true := sr_is_suf (as := aX4_ring_86) kX4_ring_86
theorem lX4_ring_92 {d : Nat} {L : sr_L} {st : List Value} {b : Nat × Nat} {h : sr_H} {P : Option Value → sr_H → Prop} (w : sr_wp mX4_ring d iX4_ring_92 92 L st b h P) : sr_Go mX4_ring d 92 L st b h P := sr_wp_go kX4_ring_92 w
def iX4_who_53 : List (Instr × Nat × Nat) := [(.istore 4, 55, 0), (.iload_n 3, 56, 0), (.iload 4, 58, 0), (.iadd, 59, 0), (.ireturn, 60, 0)]
def aX4_who_52 : List (Instr × Nat × Nat) := [(.iconst 0, 53, 0)]
def iX4_who_52 : List (Instr × Nat × Nat) := aX4_who_52 ++ iX4_who_53
def aX4_who_35 : List (Instr × Nat × Nat) := [(.istore_n 3, 36, 0), (.aload_n 0, 37, 0), (.iload_n 1, 38, 0), (.iconst 1, 39, 0), (.invokevirtual 182, 42, 0), (.iload_n 2, 43, 0), (.iand, 44, 0), (.iload_n 2, 45, 0), (.if_icmp .ne 7, 48, 52), (.iconst 2, 49, 0), (.goto 4, 52, 53)]
def iX4_who_35 : List (Instr × Nat × Nat) := aX4_who_35 ++ iX4_who_52
def aX4_who_34 : List (Instr × Nat × Nat) := [(.iconst 0, 35, 0)]
def iX4_who_34 : List (Instr × Nat × Nat) := aX4_who_34 ++ iX4_who_35
def aX4_who_18 : List (Instr × Nat × Nat) := [(.aload_n 0, 19, 0), (.iload_n 1, 20, 0), (.iconst 0, 21, 0), (.invokevirtual 182, 24, 0), (.iload_n 2, 25, 0), (.iand, 26, 0), (.iload_n 2, 27, 0), (.if_icmp .ne 7, 30, 34), (.iconst 1, 31, 0), (.goto 4, 34, 35)]
def iX4_who_18 : List (Instr × Nat × Nat) := aX4_who_18 ++ iX4_who_34
def aX4_who_16 : List (Instr × Nat × Nat) := [(.iconst (-1), 17, 0), (.ireturn, 18, 0)]
def iX4_who_16 : List (Instr × Nat × Nat) := aX4_who_16 ++ iX4_who_18
def aX4_who_0 : List (Instr × Nat × Nat) := [(.aload_n 0, 1, 0), (.iload_n 1, 2, 0), (.invokevirtual 151, 5, 0), (.ifCond .eq 11, 8, 16), (.aload_n 0, 9, 0), (.iload_n 2, 10, 0), (.invokevirtual 222, 13, 0), (.ifCond .ne 5, 16, 18)]
def iX4_who_0 : List (Instr × Nat × Nat) := aX4_who_0 ++ iX4_who_16
theorem kX4_who_0 : sr_is cX4_who 0 iX4_who_0 = true := by decide +kernel
theorem lX4_who_0 {d : Nat} {L : sr_L} {st : List Value} {b : Nat × Nat} {h : sr_H} {P : Option Value → sr_H → Prop} (w : sr_wp mX4_who d iX4_who_0 0 L st b h P) : sr_Go mX4_who d 0 L st b h P := sr_wp_go kX4_who_0 w
theorem kX4_who_16 : sr_is cX4_who 16 iX4_who_16 = true := sr_is_suf (as := aX4_who_0) kX4_who_0
theorem lX4_who_16 {d : Nat} {L : sr_L} {st : List Value} {b : Nat × Nat} {h : sr_H} {P : Option Value → sr_H → Prop} (w : sr_wp mX4_who d iX4_who_16 16 L st b h P) : sr_Go mX4_who d 16 L st b h P := sr_wp_go kX4_who_16 w
theorem kX4_who_18 : sr_is cX4_who 18 iX4_who_18 = true := sr_is_suf (as := aX4_who_16) kX4_who_16
theorem lX4_who_18 {d : Nat} {L : sr_L} {st : List Value} {b : Nat × Nat} {h : sr_H} {P : Option Value → sr_H → Prop} (w : sr_wp mX4_who d iX4_who_18 18 L st b h P) : sr_Go mX4_who d 18 L st b h P := sr_wp_go kX4_who_18 w
theorem kX4_who_34 : sr_is cX4_who 34 iX4_who_34 = true := sr_is_suf (as := aX4_who_18) kX4_who_18
theorem lX4_who_34 {d : Nat} {L : sr_L} {st : List Value} {b : Nat × Nat} {h : sr_H} {P : Option Value → sr_H → Prop} (w : sr_wp mX4_who d iX4_who_34 34 L st b h P) : sr_Go mX4_who d 34 L st b h P := sr_wp_go kX4_who_34 w
theorem kX4_who_35 : sr_is cX4_who 35 iX4_who_35 = true := sr_is_suf (as := aX4_who_34) kX4_who_34
theorem lX4_who_35 {d : Nat} {L : sr_L} {st : List Value} {b : Nat × Nat} {h : sr_H} {P : Option Value → sr_H → Prop} (w : sr_wp mX4_who d iX4_who_35 35 L st b h P) : sr_Go mX4_who d 35 L st b h P := sr_wp_go kX4_who_35 w
theorem kX4_who_52 : sr_is cX4_who 52 iX4_who_52 = true := sr_is_suf (as := aX4_who_35) kX4_who_35
theorem lX4_who_52 {d : Nat} {L : sr_L} {st : List Value} {b : Nat × Nat} {h : sr_H} {P : Option Value → sr_H → Prop} (w : sr_wp mX4_who d iX4_who_52 52 L st b h P) : sr_Go mX4_who d 52 L st b h P := sr_wp_go kX4_who_52 w
theorem kX4_who_53 : sr_is cX4_who 53 iX4_who_53 = true := sr_is_suf (as := aX4_who_52) kX4_who_52
theorem lX4_who_53 {d : Nat} {L : sr_L} {st : List Value} {b : Nat × Nat} {h : sr_H} {P : Option Value → sr_H → Prop} (w : sr_wp mX4_who d iX4_who_53 53 L st b h P) : sr_Go mX4_who d 53 L st b h P := sr_wp_go kX4_who_53 w
def iX4_marks_161 : List (Instr × Nat × Nat) := [(.ireturn, 162, 0)]
def aX4_marks_152 : List (Instr × Nat × Nat) := [(.aload_n 0, 153, 0), (.iload_n 1, 154, 0), (.invokestatic 167, 157, 0), (.iload_n 1, 158, 0), (.invokevirtual 97, 161, 0)]
def iX4_marks_152 : List (Instr × Nat × Nat) := aX4_marks_152 ++ iX4_marks_161
def aX4_marks_136 : List (Instr × Nat × Nat) := [(.aload_n 0, 137, 0), (.invokevirtual 231, 140, 0), (.istore_n 1, 141, 0), (.iload_n 1, 142, 0), (.bipush (-9), 144, 0), (.if_icmp .ne 8, 147, 152), (.bipush (-9), 149, 0), (.goto 12, 152, 161)]
def iX4_marks_136 : List (Instr × Nat × Nat) := aX4_marks_136 ++ iX4_marks_152
def aX4_marks_130 : List (Instr × Nat × Nat) := [(.iinc 1 1, 133, 0), (.goto (-75), 136, 58)]
def iX4_marks_130 : List (Instr × Nat × Nat) := aX4_marks_130 ++ iX4_marks_136
def aX4_marks_124 : List (Instr × Nat × Nat) := [(.iinc 2 1, 127, 0), (.goto (-54), 130, 73)]
def iX4_marks_124 : List (Instr × Nat × Nat) := aX4_marks_124 ++ iX4_marks_130
def aX4_marks_73 : List (Instr × Nat × Nat) := [(.iload_n 2, 74, 0), (.iload_n 1, 75, 0), (.if_icmp .ge 55, 78, 130), (.aload_n 0, 79, 0), (.getfield 59, 82, 0), (.iload_n 1, 83, 0), (.iaload, 84, 0), (.aload_n 0, 85, 0), (.getfield 59, 88, 0), (.iload_n 2, 89, 0), (.iaload, 90, 0), (.if_icmp .eq 34, 93, 124), (.aload_n 0, 94, 0), (.aload_n 0, 95, 0), (.getfield 33, 98, 0), (.aload_n 0, 99, 0), (.getfield 59, 102, 0), (.iload_n 1, 103, 0), (.iaload, 104, 0), (.invokevirtual 219, 107, 0), (.aload_n 0, 108, 0), (.getfield 33, 111, 0), (.aload_n 0, 112, 0), (.getfield 59, 115, 0), (.iload_n 2, 116, 0), (.iaload, 117, 0), (.invokevirtual 219, 120, 0), (.ixor, 121, 0), (.invokevirtual 228, 124, 0)]
def iX4_marks_73 : List (Instr × Nat × Nat) := aX4_marks_73 ++ iX4_marks_124
def aX4_marks_58 : List (Instr × Nat × Nat) := [(.iload_n 1, 59, 0), (.iconst 2, 60, 0), (.aload_n 0, 61, 0), (.getfield 33, 64, 0), (.getfield 148, 67, 0), (.imul, 68, 0), (.if_icmp .ge 68, 71, 136), (.iconst 0, 72, 0), (.istore_n 2, 73, 0)]
def iX4_marks_58 : List (Instr × Nat × Nat) := aX4_marks_58 ++ iX4_marks_73
def aX4_marks_51 : List (Instr × Nat × Nat) := [(.aload_n 0, 52, 0), (.iconst 0, 53, 0), (.putfield 55, 56, 0), (.iconst 1, 57, 0), (.istore_n 1, 58, 0)]
def iX4_marks_51 : List (Instr × Nat × Nat) := aX4_marks_51 ++ iX4_marks_58
def aX4_marks_2 : List (Instr × Nat × Nat) := [(.iload_n 1, 3, 0), (.aload_n 0, 4, 0), (.getfield 33, 7, 0), (.getfield 148, 10, 0), (.if_icmp .ge 41, 13, 51), (.aload_n 0, 14, 0), (.getfield 59, 17, 0), (.iconst 2, 18, 0), (.iload_n 1, 19, 0), (.imul, 20, 0), (.aload_n 0, 21, 0), (.getfield 33, 24, 0), (.getfield 161, 27, 0), (.iload_n 1, 28, 0), (.iaload, 29, 0), (.iastore, 30, 0), (.aload_n 0, 31, 0), (.getfield 59, 34, 0), (.iconst 2, 35, 0), (.iload_n 1, 36, 0), (.imul, 37, 0), (.iconst 1, 38, 0), (.iadd, 39, 0), (.aload_n 0, 40, 0), (.iload_n 1, 41, 0), (.invokevirtual 164, 44, 0), (.iastore, 45, 0), (.iinc 1 1, 48, 0), (.goto (-46), 51, 2)]
def iX4_marks_2 : List (Instr × Nat × Nat) := aX4_marks_2 ++ iX4_marks_51
def aX4_marks_0 : List (Instr × Nat × Nat) := [(.iconst 0, 1, 0), (.istore_n 1, 2, 0)]
def iX4_marks_0 : List (Instr × Nat × Nat) := aX4_marks_0 ++ iX4_marks_2
theorem kX4_marks_0 : sr_is cX4_marks 0 iX4_marks_0 = true := by decide +kernel
theorem lX4_marks_0 {d : Nat} {L : sr_L} {st : List Value} {b : Nat × Nat} {h : sr_H} {P : Option Value → sr_H → Prop} (w : sr_wp mX4_marks d iX4_marks_0 0 L st b h P) : sr_Go mX4_marks d 0 L st b h P := sr_wp_go kX4_marks_0 w
theorem kX4_marks_2 : sr_is cX4_marks 2 iX4_marks_2 = true := sr_is_suf (as := aX4_marks_0) kX4_marks_0
theorem lX4_marks_2 {d : Nat} {L : sr_L} {st : List Value} {b : Nat × Nat} {h : sr_H} {P : Option Value → sr_H → Prop} (w : sr_wp mX4_marks d iX4_marks_2 2 L st b h P) : sr_Go mX4_marks d 2 L st b h P := sr_wp_go kX4_marks_2 w
theorem kX4_marks_51 : sr_is cX4_marks 51 iX4_marks_51 = true := sr_is_suf (as := aX4_marks_2) kX4_marks_2
theorem lX4_marks_51 {d : Nat} {L : sr_L} {st : List Value} {b : Nat × Nat} {h : sr_H} {P : Option Value → sr_H → Prop} (w : sr_wp mX4_marks d iX4_marks_51 51 L st b h P) : sr_Go mX4_marks d 51 L st b h P := sr_wp_go kX4_marks_51 w
theorem kX4_marks_58 : sr_is cX4_marks 58 iX4_marks_58 = true := sr_is_suf (as := aX4_marks_51) kX4_marks_51
theorem lX4_marks_58 {d : Nat} {L : sr_L} {st : List Value} {b : Nat × Nat} {h : sr_H} {P : Option Value → sr_H → Prop} (w : sr_wp mX4_marks d iX4_marks_58 58 L st b h P) : sr_Go mX4_marks d 58 L st b h P := sr_wp_go kX4_marks_58 w
theorem kX4_marks_73 : sr_is cX4_marks 73 iX4_marks_73 = true := sr_is_suf (as := aX4_marks_58) kX4_marks_58
theorem lX4_marks_73 {d : Nat} {L : sr_L} {st : List Value} {b : Nat × Nat} {h : sr_H} {P : Option Value → sr_H → Prop} (w : sr_wp mX4_marks d iX4_marks_73 73 L st b h P) : sr_Go mX4_marks d 73 L st b h P := sr_wp_go kX4_marks_73 w
theorem kX4_marks_124 : sr_is cX4_marks 124 iX4_marks_124 = true := sr_is_suf (as := aX4_marks_73) kX4_marks_73
theorem lX4_marks_124 {d : Nat} {L : sr_L} {st : List Value} {b : Nat × Nat} {h : sr_H} {P : Option Value → sr_H → Prop} (w : sr_wp mX4_marks d iX4_marks_124 124 L st b h P) : sr_Go mX4_marks d 124 L st b h P := sr_wp_go kX4_marks_124 w
theorem kX4_marks_130 : sr_is cX4_marks 130 iX4_marks_130 = true := sr_is_suf (as := aX4_marks_124) kX4_marks_124
theorem lX4_marks_130 {d : Nat} {L : sr_L} {st : List Value} {b : Nat × Nat} {h : sr_H} {P : Option Value → sr_H → Prop} (w : sr_wp mX4_marks d iX4_marks_130 130 L st b h P) : sr_Go mX4_marks d 130 L st b h P := sr_wp_go kX4_marks_130 w
theorem kX4_marks_136 : sr_is cX4_marks 136 iX4_marks_136 = true := sr_is_suf (as := aX4_marks_130) kX4_marks_130
theorem lX4_marks_136 {d : Nat} {L : sr_L} {st : List Value} {b : Nat × Nat} {h : sr_H} {P : Option Value → sr_H → Prop} (w : sr_wp mX4_marks d iX4_marks_136 136 L st b h P) : sr_Go mX4_marks d 136 L st b h P := sr_wp_go kX4_marks_136 w
theorem kX4_marks_152 : sr_is cX4_marks 152 iX4_marks_152 = true := sr_is_suf (as := aX4_marks_136) kX4_marks_136
theorem lX4_marks_152 {d : Nat} {L : sr_L} {st : List Value} {b : Nat × Nat} {h : sr_H} {P : Option Value → sr_H → Prop} (w : sr_wp mX4_marks d iX4_marks_152 152 L st b h P) : sr_Go mX4_marks d 152 L st b h P := sr_wp_go kX4_marks_152 w
theorem kX4_marks_161 : sr_is cX4_marks 161 iX4_marks_161 = true := sr_is_suf (as := aX4_marks_152) kX4_marks_152
theorem lX4_marks_161 {d : Nat} {L : sr_L} {st : List Value} {b : Nat × Nat} {h : sr_H} {P : Option Value → sr_H → Prop} (w : sr_wp mX4_marks d iX4_marks_161 161 L st b h P) : sr_Go mX4_marks d 161 L st b h P := sr_wp_go kX4_marks_161 w
def iX4_bill_17 : List (Instr × Nat × Nat) := [(.aload_n 0, 18, 0), (.iload_n 1, 19, 0), (.iload_n 2, 20, 0), (.aload_n 0, 21, 0), (.getfield 43, 24, 0), (.iload_n 1, 25, 0), (.iconst 0, 26, 0), (.invokevirtual 200, 29, 0), (.aload_n 0, 30, 0), (.getfield 43, 33, 0), (.iload_n 1, 34, 0), (.iconst 1, 35, 0), (.invokevirtual 200, 38, 0), (.invokevirtual 263, 41, 0), (.ireturn, 42, 0)]
def aX4_bill_15 : List (Instr × Nat × Nat) := [(.iconst (-1), 16, 0), (.ireturn, 17, 0)]
def iX4_bill_15 : List (Instr × Nat × Nat) := aX4_bill_15 ++ iX4_bill_17
def aX4_bill_0 : List (Instr × Nat × Nat) := [(.aload_n 0, 1, 0), (.iload_n 1, 2, 0), (.invokevirtual 151, 5, 0), (.ifCond .eq 10, 8, 15), (.iload_n 2, 9, 0), (.invokestatic 260, 12, 0), (.ifCond .ne 5, 15, 17)]
def iX4_bill_0 : List (Instr × Nat × Nat) := aX4_bill_0 ++ iX4_bill_15
theorem kX4_bill_0 : sr_is cX4_bill 0 iX4_bill_0 = true := by decide +kernel
theorem lX4_bill_0 {d : Nat} {L : sr_L} {st : List Value} {b : Nat × Nat} {h : sr_H} {P : Option Value → sr_H → Prop} (w : sr_wp mX4_bill d iX4_bill_0 0 L st b h P) : sr_Go mX4_bill d 0 L st b h P := sr_wp_go kX4_bill_0 w
theorem kX4_bill_15 : sr_is cX4_bill 15 iX4_bill_15 = true := sr_is_suf (as := aX4_bill_0) kX4_bill_0
theorem lX4_bill_15 {d : Nat} {L : sr_L} {st : List Value} {b : Nat × Nat} {h : sr_H} {P : Option Value → sr_H → Prop} (w : sr_wp mX4_bill d iX4_bill_15 15 L st b h P) : sr_Go mX4_bill d 15 L st b h P := sr_wp_go kX4_bill_15 w
theorem kX4_bill_17 : sr_is cX4_bill 17 iX4_bill_17 = true := sr_is_suf (as := aX4_bill_15) kX4_bill_15
theorem lX4_bill_17 {d : Nat} {L : sr_L} {st : List Value} {b : Nat × Nat} {h : sr_H} {P : Option Value → sr_H → Prop} (w : sr_wp mX4_bill d iX4_bill_17 17 L st b h P) : sr_Go mX4_bill d 17 L st b h P := sr_wp_go kX4_bill_17 w
def iX4_pays_78 : List (Instr × Nat × Nat) := [(.iload 4, 80, 0), (.ireturn, 81, 0)]
def aX4_pays_72 : List (Instr × Nat × Nat) := [(.iinc 5 1, 75, 0), (.goto (-39), 78, 36)]
def iX4_pays_72 : List (Instr × Nat × Nat) := aX4_pays_72 ++ iX4_pays_78
def aX4_pays_36 : List (Instr × Nat × Nat) := [(.iload 5, 38, 0), (.iconst 3, 39, 0), (.if_icmp .ge 39, 42, 78), (.aload_n 0, 43, 0), (.iload_n 1, 44, 0), (.iload 5, 46, 0), (.iload_n 3, 47, 0), (.iload_n 2, 48, 0), (.invokevirtual 263, 51, 0), (.aload_n 0, 52, 0), (.iload_n 1, 53, 0), (.iload 5, 55, 0), (.iload_n 2, 56, 0), (.iload_n 3, 57, 0), (.invokevirtual 263, 60, 0), (.if_icmp .ge 12, 63, 72), (.iload 4, 65, 0), (.iconst 1, 66, 0), (.iload 5, 68, 0), (.ishl, 69, 0), (.ior, 70, 0), (.istore 4, 72, 0)]
def iX4_pays_36 : List (Instr × Nat × Nat) := aX4_pays_36 ++ iX4_pays_72
def aX4_pays_10 : List (Instr × Nat × Nat) := [(.aload_n 0, 11, 0), (.getfield 43, 14, 0), (.iload_n 1, 15, 0), (.iconst 0, 16, 0), (.invokevirtual 200, 19, 0), (.istore_n 2, 20, 0), (.aload_n 0, 21, 0), (.getfield 43, 24, 0), (.iload_n 1, 25, 0), (.iconst 1, 26, 0), (.invokevirtual 200, 29, 0), (.istore_n 3, 30, 0), (.iconst 0, 31, 0), (.istore 4, 33, 0), (.iconst 0, 34, 0), (.istore 5, 36, 0)]
def iX4_pays_10 : List (Instr × Nat × Nat) := aX4_pays_10 ++ iX4_pays_36
def aX4_pays_0 : List (Instr × Nat × Nat) := [(.aload_n 0, 1, 0), (.iload_n 1, 2, 0), (.invokevirtual 151, 5, 0), (.ifCond .ne 5, 8, 10), (.iconst (-1), 9, 0), (.ireturn, 10, 0)]
def iX4_pays_0 : List (Instr × Nat × Nat) := aX4_pays_0 ++ iX4_pays_10
theorem kX4_pays_0 : sr_is cX4_pays 0 iX4_pays_0 = true := by decide +kernel
theorem lX4_pays_0 {d : Nat} {L : sr_L} {st : List Value} {b : Nat × Nat} {h : sr_H} {P : Option Value → sr_H → Prop} (w : sr_wp mX4_pays d iX4_pays_0 0 L st b h P) : sr_Go mX4_pays d 0 L st b h P := sr_wp_go kX4_pays_0 w
theorem kX4_pays_10 : sr_is cX4_pays 10 iX4_pays_10 = true := sr_is_suf (as := aX4_pays_0) kX4_pays_0
theorem lX4_pays_10 {d : Nat} {L : sr_L} {st : List Value} {b : Nat × Nat} {h : sr_H} {P : Option Value → sr_H → Prop} (w : sr_wp mX4_pays d iX4_pays_10 10 L st b h P) : sr_Go mX4_pays d 10 L st b h P := sr_wp_go kX4_pays_10 w
theorem kX4_pays_36 : sr_is cX4_pays 36 iX4_pays_36 = true := sr_is_suf (as := aX4_pays_10) kX4_pays_10
theorem lX4_pays_36 {d : Nat} {L : sr_L} {st : List Value} {b : Nat × Nat} {h : sr_H} {P : Option Value → sr_H → Prop} (w : sr_wp mX4_pays d iX4_pays_36 36 L st b h P) : sr_Go mX4_pays d 36 L st b h P := sr_wp_go kX4_pays_36 w
theorem kX4_pays_72 : sr_is cX4_pays 72 iX4_pays_72 = true := sr_is_suf (as := aX4_pays_36) kX4_pays_36
theorem lX4_pays_72 {d : Nat} {L : sr_L} {st : List Value} {b : Nat × Nat} {h : sr_H} {P : Option Value → sr_H → Prop} (w : sr_wp mX4_pays d iX4_pays_72 72 L st b h P) : sr_Go mX4_pays d 72 L st b h P := sr_wp_go kX4_pays_72 w
theorem kX4_pays_78 : sr_is cX4_pays 78 iX4_pays_78 = true := sr_is_suf (as := aX4_pays_72) kX4_pays_72
theorem lX4_pays_78 {d : Nat} {L : sr_L} {st : List Value} {b : Nat × Nat} {h : sr_H} {P : Option Value → sr_H → Prop} (w : sr_wp mX4_pays d iX4_pays_78 78 L st b h P) : sr_Go mX4_pays d 78 L st b h P := sr_wp_go kX4_pays_78 w
def iX4_cheapest_94 : List (Instr × Nat × Nat) := [(.aload_n 0, 95, 0), (.iload 4, 97, 0), (.iload 5, 99, 0), (.invokevirtual 97, 102, 0), (.ireturn, 103, 0)]
def aX4_cheapest_88 : List (Instr × Nat × Nat) := [(.iinc 6 1, 91, 0), (.goto (-38), 94, 53)]
def iX4_cheapest_88 : List (Instr × Nat × Nat) := aX4_cheapest_88 ++ iX4_cheapest_94
def aX4_cheapest_53 : List (Instr × Nat × Nat) := [(.iload 6, 55, 0), (.iload_n 3, 56, 0), (.if_icmp .gt 38, 59, 94), (.aload_n 0, 60, 0), (.iload_n 1, 61, 0), (.iload_n 2, 62, 0), (.iload_n 3, 63, 0), (.iload 6, 65, 0), (.isub, 66, 0), (.iload 6, 68, 0), (.invokevirtual 263, 71, 0), (.istore 7, 73, 0), (.iload 7, 75, 0), (.iload 5, 77, 0), (.if_icmp .ge 11, 80, 88), (.iload 6, 82, 0), (.istore 4, 84, 0), (.iload 7, 86, 0), (.istore 5, 88, 0)]
def iX4_cheapest_53 : List (Instr × Nat × Nat) := aX4_cheapest_53 ++ iX4_cheapest_88
def aX4_cheapest_17 : List (Instr × Nat × Nat) := [(.aload_n 0, 18, 0), (.getfield 43, 21, 0), (.iload_n 1, 22, 0), (.iconst 0, 23, 0), (.invokevirtual 200, 26, 0), (.aload_n 0, 27, 0), (.getfield 43, 30, 0), (.iload_n 1, 31, 0), (.iconst 1, 32, 0), (.invokevirtual 200, 35, 0), (.iadd, 36, 0), (.istore_n 3, 37, 0), (.iconst 0, 38, 0), (.istore 4, 40, 0), (.aload_n 0, 41, 0), (.iload_n 1, 42, 0), (.iload_n 2, 43, 0), (.iload_n 3, 44, 0), (.iconst 0, 45, 0), (.invokevirtual 263, 48, 0), (.istore 5, 50, 0), (.iconst 1, 51, 0), (.istore 6, 53, 0)]
def iX4_cheapest_17 : List (Instr × Nat × Nat) := aX4_cheapest_17 ++ iX4_cheapest_53
def aX4_cheapest_15 : List (Instr × Nat × Nat) := [(.iconst (-1), 16, 0), (.ireturn, 17, 0)]
def iX4_cheapest_15 : List (Instr × Nat × Nat) := aX4_cheapest_15 ++ iX4_cheapest_17
def aX4_cheapest_0 : List (Instr × Nat × Nat) := [(.aload_n 0, 1, 0), (.iload_n 1, 2, 0), (.invokevirtual 151, 5, 0), (.ifCond .eq 10, 8, 15), (.iload_n 2, 9, 0), (.invokestatic 260, 12, 0), (.ifCond .ne 5, 15, 17)]
def iX4_cheapest_0 : List (Instr × Nat × Nat) := aX4_cheapest_0 ++ iX4_cheapest_15
theorem kX4_cheapest_0 : sr_is cX4_cheapest 0 iX4_cheapest_0 = true := by decide +kernel
theorem lX4_cheapest_0 {d : Nat} {L : sr_L} {st : List Value} {b : Nat × Nat} {h : sr_H} {P : Option Value → sr_H → Prop} (w : sr_wp mX4_cheapest d iX4_cheapest_0 0 L st b h P) : sr_Go mX4_cheapest d 0 L st b h P := sr_wp_go kX4_cheapest_0 w
theorem kX4_cheapest_15 : sr_is cX4_cheapest 15 iX4_cheapest_15 = true := sr_is_suf (as := aX4_cheapest_0) kX4_cheapest_0
theorem lX4_cheapest_15 {d : Nat} {L : sr_L} {st : List Value} {b : Nat × Nat} {h : sr_H} {P : Option Value → sr_H → Prop} (w : sr_wp mX4_cheapest d iX4_cheapest_15 15 L st b h P) : sr_Go mX4_cheapest d 15 L st b h P := sr_wp_go kX4_cheapest_15 w
theorem kX4_cheapest_17 : sr_is cX4_cheapest 17 iX4_cheapest_17 = true := sr_is_suf (as := aX4_cheapest_15) kX4_cheapest_15
theorem lX4_cheapest_17 {d : Nat} {L : sr_L} {st : List Value} {b : Nat × Nat} {h : sr_H} {P : Option Value → sr_H → Prop} (w : sr_wp mX4_cheapest d iX4_cheapest_17 17 L st b h P) : sr_Go mX4_cheapest d 17 L st b h P := sr_wp_go kX4_cheapest_17 w
theorem kX4_cheapest_53 : sr_is cX4_cheapest 53 iX4_cheapest_53 = true := sr_is_suf (as := aX4_cheapest_17) kX4_cheapest_17
theorem lX4_cheapest_53 {d : Nat} {L : sr_L} {st : List Value} {b : Nat × Nat} {h : sr_H} {P : Option Value → sr_H → Prop} (w : sr_wp mX4_cheapest d iX4_cheapest_53 53 L st b h P) : sr_Go mX4_cheapest d 53 L st b h P := sr_wp_go kX4_cheapest_53 w
theorem kX4_cheapest_88 : sr_is cX4_cheapest 88 iX4_cheapest_88 = true := sr_is_suf (as := aX4_cheapest_53) kX4_cheapest_53
theorem lX4_cheapest_88 {d : Nat} {L : sr_L} {st : List Value} {b : Nat × Nat} {h : sr_H} {P : Option Value → sr_H → Prop} (w : sr_wp mX4_cheapest d iX4_cheapest_88 88 L st b h P) : sr_Go mX4_cheapest d 88 L st b h P := sr_wp_go kX4_cheapest_88 w
theorem kX4_cheapest_94 : sr_is cX4_cheapest 94 iX4_cheapest_94 = true := sr_is_suf (as := aX4_cheapest_88) kX4_cheapest_88
theorem lX4_cheapest_94 {d : Nat} {L : sr_L} {st : List Value} {b : Nat × Nat} {h : sr_H} {P : Option Value → sr_H → Prop} (w : sr_wp mX4_cheapest d iX4_cheapest_94 94 L st b h P) : sr_Go mX4_cheapest d 94 L st b h P := sr_wp_go kX4_cheapest_94 w
def iX4_spread_56 : List (Instr × Nat × Nat) := [(.aload_n 0, 57, 0), (.iload_n 2, 58, 0), (.aload_n 0, 59, 0), (.getfield 33, 62, 0), (.getfield 185, 65, 0), (.invokevirtual 270, 68, 0), (.iconst 1, 69, 0), (.ireturn, 70, 0)]
def aX4_spread_14 : List (Instr × Nat × Nat) := [(.iload_n 3, 15, 0), (.aload_n 0, 16, 0), (.getfield 33, 19, 0), (.getfield 185, 22, 0), (.if_icmp .ge 34, 25, 56), (.iload_n 2, 26, 0), (.aload_n 0, 27, 0), (.getfield 33, 30, 0), (.getfield 161, 33, 0), (.iload_n 1, 34, 0), (.iaload, 35, 0), (.aload_n 0, 36, 0), (.getfield 33, 39, 0), (.iload_n 1, 40, 0), (.iload_n 3, 41, 0), (.invokevirtual 267, 44, 0), (.ixor, 45, 0), (.invokestatic 167, 48, 0), (.iadd, 49, 0), (.istore_n 2, 50, 0), (.iinc 3 1, 53, 0), (.goto (-39), 56, 14)]
def iX4_spread_14 : List (Instr × Nat × Nat) := aX4_spread_14 ++ iX4_spread_56
def aX4_spread_10 : List (Instr × Nat × Nat) := [(.iconst 0, 11, 0), (.istore_n 2, 12, 0), (.iconst 0, 13, 0), (.istore_n 3, 14, 0)]
def iX4_spread_10 : List (Instr × Nat × Nat) := aX4_spread_10 ++ iX4_spread_14
def aX4_spread_0 : List (Instr × Nat × Nat) := [(.aload_n 0, 1, 0), (.iload_n 1, 2, 0), (.invokevirtual 151, 5, 0), (.ifCond .ne 5, 8, 10), (.iconst (-1), 9, 0), (.ireturn, 10, 0)]
def iX4_spread_0 : List (Instr × Nat × Nat) := aX4_spread_0 ++ iX4_spread_10
theorem kX4_spread_0 : sr_is cX4_spread 0 iX4_spread_0 = true := by decide +kernel
theorem lX4_spread_0 {d : Nat} {L : sr_L} {st : List Value} {b : Nat × Nat} {h : sr_H} {P : Option Value → sr_H → Prop} (w : sr_wp mX4_spread d iX4_spread_0 0 L st b h P) : sr_Go mX4_spread d 0 L st b h P := sr_wp_go kX4_spread_0 w
theorem kX4_spread_10 : sr_is cX4_spread 10 iX4_spread_10 = true := sr_is_suf (as := aX4_spread_0) kX4_spread_0
theorem lX4_spread_10 {d : Nat} {L : sr_L} {st : List Value} {b : Nat × Nat} {h : sr_H} {P : Option Value → sr_H → Prop} (w : sr_wp mX4_spread d iX4_spread_10 10 L st b h P) : sr_Go mX4_spread d 10 L st b h P := sr_wp_go kX4_spread_10 w
theorem kX4_spread_14 : sr_is cX4_spread 14 iX4_spread_14 = true := sr_is_suf (as := aX4_spread_10) kX4_spread_10
theorem lX4_spread_14 {d : Nat} {L : sr_L} {st : List Value} {b : Nat × Nat} {h : sr_H} {P : Option Value → sr_H → Prop} (w : sr_wp mX4_spread d iX4_spread_14 14 L st b h P) : sr_Go mX4_spread d 14 L st b h P := sr_wp_go kX4_spread_14 w
theorem kX4_spread_56 : sr_is cX4_spread 56 iX4_spread_56 = true := sr_is_suf (as := aX4_spread_14) kX4_spread_14
theorem lX4_spread_56 {d : Nat} {L : sr_L} {st : List Value} {b : Nat × Nat} {h : sr_H} {P : Option Value → sr_H → Prop} (w : sr_wp mX4_spread d iX4_spread_56 56 L st b h P) : sr_Go mX4_spread d 56 L st b h P := sr_wp_go kX4_spread_56 w
def iX4_odds_18 : List (Instr × Nat × Nat) := [(.aload_n 0, 19, 0), (.aload_n 0, 20, 0), (.iload_n 1, 21, 0), (.iload_n 2, 22, 0), (.invokevirtual 237, 25, 0), (.aload_n 0, 26, 0), (.getfield 33, 29, 0), (.getfield 185, 32, 0), (.invokevirtual 270, 35, 0), (.iconst 1, 36, 0), (.ireturn, 37, 0)]
def aX4_odds_16 : List (Instr × Nat × Nat) := [(.iconst (-1), 17, 0), (.ireturn, 18, 0)]
def iX4_odds_16 : List (Instr × Nat × Nat) := aX4_odds_16 ++ iX4_odds_18
def aX4_odds_0 : List (Instr × Nat × Nat) := [(.aload_n 0, 1, 0), (.iload_n 1, 2, 0), (.invokevirtual 151, 5, 0), (.ifCond .eq 11, 8, 16), (.aload_n 0, 9, 0), (.iload_n 2, 10, 0), (.invokevirtual 245, 13, 0), (.ifCond .ne 5, 16, 18)]
def iX4_odds_0 : List (Instr × Nat × Nat) := aX4_odds_0 ++ iX4_odds_16
theorem kX4_odds_0 : sr_is cX4_odds 0 iX4_odds_0 = true := by decide +kernel
theorem lX4_odds_0 {d : Nat} {L : sr_L} {st : List Value} {b : Nat × Nat} {h : sr_H} {P : Option Value → sr_H → Prop} (w : sr_wp mX4_odds d iX4_odds_0 0 L st b h P) : sr_Go mX4_odds d 0 L st b h P := sr_wp_go kX4_odds_0 w
theorem kX4_odds_16 : sr_is cX4_odds 16 iX4_odds_16 = true := sr_is_suf (as := aX4_odds_0) kX4_odds_0
theorem lX4_odds_16 {d : Nat} {L : sr_L} {st : List Value} {b : Nat × Nat} {h : sr_H} {P : Option Value → sr_H → Prop} (w : sr_wp mX4_odds d iX4_odds_16 16 L st b h P) : sr_Go mX4_odds d 16 L st b h P := sr_wp_go kX4_odds_16 w
theorem kX4_odds_18 : sr_is cX4_odds 18 iX4_odds_18 = true := sr_is_suf (as := aX4_odds_16) kX4_odds_16
theorem lX4_odds_18 {d : Nat} {L : sr_L} {st : List Value} {b : Nat × Nat} {h : sr_H} {P : Option Value → sr_H → Prop} (w : sr_wp mX4_odds d iX4_odds_18 18 L st b h P) : sr_Go mX4_odds d 18 L st b h P := sr_wp_go kX4_odds_18 w
def iX4_lots_112 : List (Instr × Nat × Nat) := [(.aload_n 0, 113, 0), (.getfield 43, 116, 0), (.getfield 284, 119, 0), (.invokestatic 167, 122, 0), (.ireturn, 123, 0)]
def aX4_lots_67 : List (Instr × Nat × Nat) := [(.iload 6, 69, 0), (.iload_n 1, 70, 0), (.if_icmp .ge 42, 73, 112), (.ldc2_w 275, 76, 0), (.lload 4, 78, 0), (.lmul, 79, 0), (.ldc2_w 273, 82, 0), (.lrem, 83, 0), (.lstore 4, 85, 0), (.aload_n 0, 86, 0), (.lload 4, 88, 0), (.iload_n 3, 89, 0), (.i2l, 90, 0), (.lrem, 91, 0), (.l2i, 92, 0), (.lload 4, 94, 0), (.ldc2_w 277, 97, 0), (.ldiv, 98, 0), (.ldc2_w 279, 101, 0), (.lrem, 102, 0), (.l2i, 103, 0), (.invokevirtual 281, 106, 0), (.iinc 6 1, 109, 0), (.goto (-42), 112, 67)]
def iX4_lots_67 : List (Instr × Nat × Nat) := aX4_lots_67 ++ iX4_lots_112
def aX4_lots_60 : List (Instr × Nat × Nat) := [(.iload_n 2, 61, 0), (.i2l, 62, 0), (.lstore 4, 64, 0), (.iconst 0, 65, 0), (.istore 6, 67, 0)]
def iX4_lots_60 : List (Instr × Nat × Nat) := aX4_lots_60 ++ iX4_lots_67
def aX4_lots_43 : List (Instr × Nat × Nat) := [(.aload_n 0, 44, 0), (.getfield 43, 47, 0), (.getfield 188, 50, 0), (.iload_n 1, 51, 0), (.iadd, 52, 0), (.bipush 60, 54, 0), (.if_icmp .le 6, 57, 60), (.bipush (-2), 59, 0), (.ireturn, 60, 0)]
def iX4_lots_43 : List (Instr × Nat × Nat) := aX4_lots_43 ++ iX4_lots_60
def aX4_lots_27 : List (Instr × Nat × Nat) := [(.aload_n 0, 28, 0), (.getfield 33, 31, 0), (.getfield 148, 34, 0), (.istore_n 3, 35, 0), (.iload_n 3, 36, 0), (.iconst 1, 37, 0), (.if_icmp .ge 6, 40, 43), (.bipush (-4), 42, 0), (.ireturn, 43, 0)]
def iX4_lots_27 : List (Instr × Nat × Nat) := aX4_lots_27 ++ iX4_lots_43
def aX4_lots_25 : List (Instr × Nat × Nat) := [(.iconst (-1), 26, 0), (.ireturn, 27, 0)]
def iX4_lots_25 : List (Instr × Nat × Nat) := aX4_lots_25 ++ iX4_lots_27
def aX4_lots_0 : List (Instr × Nat × Nat) := [(.iload_n 1, 1, 0), (.iconst 1, 2, 0), (.if_icmp .lt 23, 5, 25), (.iload_n 1, 6, 0), (.bipush 30, 8, 0), (.if_icmp .gt 17, 11, 25), (.iload_n 2, 12, 0), (.iconst 1, 13, 0), (.if_icmp .lt 12, 16, 25), (.iload_n 2, 17, 0), (.i2l, 18, 0), (.ldc2_w 273, 21, 0), (.lcmp, 22, 0), (.ifCond .lt 5, 25, 27)]
def iX4_lots_0 : List (Instr × Nat × Nat) := aX4_lots_0 ++ iX4_lots_25
theorem kX4_lots_0 : sr_is cX4_lots 0 iX4_lots_0 = true := by decide +kernel
theorem lX4_lots_0 {d : Nat} {L : sr_L} {st : List Value} {b : Nat × Nat} {h : sr_H} {P : Option Value → sr_H → Prop} (w : sr_wp mX4_lots d iX4_lots_0 0 L st b h P) : sr_Go mX4_lots d 0 L st b h P := sr_wp_go kX4_lots_0 w
theorem kX4_lots_25 : sr_is cX4_lots 25 iX4_lots_25 = true := sr_is_suf (as := aX4_lots_0) kX4_lots_0
theorem lX4_lots_25 {d : Nat} {L : sr_L} {st : List Value} {b : Nat × Nat} {h : sr_H} {P : Option Value → sr_H → Prop} (w : sr_wp mX4_lots d iX4_lots_25 25 L st b h P) : sr_Go mX4_lots d 25 L st b h P := sr_wp_go kX4_lots_25 w
theorem kX4_lots_27 : sr_is cX4_lots 27 iX4_lots_27 = true := sr_is_suf (as := aX4_lots_25) kX4_lots_25
theorem lX4_lots_27 {d : Nat} {L : sr_L} {st : List Value} {b : Nat × Nat} {h : sr_H} {P : Option Value → sr_H → Prop} (w : sr_wp mX4_lots d iX4_lots_27 27 L st b h P) : sr_Go mX4_lots d 27 L st b h P := sr_wp_go kX4_lots_27 w
theorem kX4_lots_43 : sr_is cX4_lots 43 iX4_lots_43 = true := sr_is_suf (as := aX4_lots_27) kX4_lots_27
theorem lX4_lots_43 {d : Nat} {L : sr_L} {st : List Value} {b : Nat × Nat} {h : sr_H} {P : Option Value → sr_H → Prop} (w : sr_wp mX4_lots d iX4_lots_43 43 L st b h P) : sr_Go mX4_lots d 43 L st b h P := sr_wp_go kX4_lots_43 w
theorem kX4_lots_60 : sr_is cX4_lots 60 iX4_lots_60 = true := sr_is_suf (as := aX4_lots_43) kX4_lots_43
theorem lX4_lots_60 {d : Nat} {L : sr_L} {st : List Value} {b : Nat × Nat} {h : sr_H} {P : Option Value → sr_H → Prop} (w : sr_wp mX4_lots d iX4_lots_60 60 L st b h P) : sr_Go mX4_lots d 60 L st b h P := sr_wp_go kX4_lots_60 w
theorem kX4_lots_67 : sr_is cX4_lots 67 iX4_lots_67 = true := sr_is_suf (as := aX4_lots_60) kX4_lots_60
theorem lX4_lots_67 {d : Nat} {L : sr_L} {st : List Value} {b : Nat × Nat} {h : sr_H} {P : Option Value → sr_H → Prop} (w : sr_wp mX4_lots d iX4_lots_67 67 L st b h P) : sr_Go mX4_lots d 67 L st b h P := sr_wp_go kX4_lots_67 w
theorem kX4_lots_112 : sr_is cX4_lots 112 iX4_lots_112 = true := sr_is_suf (as := aX4_lots_67) kX4_lots_67
theorem lX4_lots_112 {d : Nat} {L : sr_L} {st : List Value} {b : Nat × Nat} {h : sr_H} {P : Option Value → sr_H → Prop} (w : sr_wp mX4_lots d iX4_lots_112 112 L st b h P) : sr_Go mX4_lots d 112 L st b h P := sr_wp_go kX4_lots_112 w
def iX4_asked_0 : List (Instr × Nat × Nat) := [(.aload_n 0, 1, 0), (.getfield 65, 4, 0), (.ireturn, 5, 0)]
theorem kX4_asked_0 : sr_is cX4_asked 0 iX4_asked_0 = true := by decide +kernel
theorem lX4_asked_0 {d : Nat} {L : sr_L} {st : List Value} {b : Nat × Nat} {h : sr_H} {P : Option Value → sr_H → Prop} (w : sr_wp mX4_asked d iX4_asked_0 0 L st b h P) : sr_Go mX4_asked d 0 L st b h P := sr_wp_go kX4_asked_0 w
def iX4_upper_0 : List (Instr × Nat × Nat) := [(.aload_n 0, 1, 0), (.getfield 68, 4, 0), (.lreturn, 5, 0)]
theorem kX4_upper_0 : sr_is cX4_upper 0 iX4_upper_0 = true := by decide +kernel
theorem lX4_upper_0 {d : Nat} {L : sr_L} {st : List Value} {b : Nat × Nat} {h : sr_H} {P : Option Value → sr_H → Prop} (w : sr_wp mX4_upper d iX4_upper_0 0 L st b h P) : sr_Go mX4_upper d 0 L st b h P := sr_wp_go kX4_upper_0 w
def iX4_lower_0 : List (Instr × Nat × Nat) := [(.aload_n 0, 1, 0), (.getfield 72, 4, 0), (.lreturn, 5, 0)]
theorem kX4_lower_0 : sr_is cX4_lower 0 iX4_lower_0 = true := by decide +kernel
theorem lX4_lower_0 {d : Nat} {L : sr_L} {st : List Value} {b : Nat × Nat} {h : sr_H} {P : Option Value → sr_H → Prop} (w : sr_wp mX4_lower d iX4_lower_0 0 L st b h P) : sr_Go mX4_lower d 0 L st b h P := sr_wp_go kX4_lower_0 w
def iX4_count_133 : List (Instr × Nat × Nat) := [(.iconst (-1), 134, 0), (.ireturn, 135, 0)]
def aX4_count_128 : List (Instr × Nat × Nat) := [(.aload_n 0, 129, 0), (.invokevirtual 290, 132, 0), (.ireturn, 133, 0)]
def iX4_count_128 : List (Instr × Nat × Nat) := aX4_count_128 ++ iX4_count_133
def aX4_count_120 : List (Instr × Nat × Nat) := [(.aload_n 0, 121, 0), (.getfield 18, 124, 0), (.invokevirtual 287, 127, 0), (.ireturn, 128, 0)]
def iX4_count_120 : List (Instr × Nat × Nat) := aX4_count_120 ++ iX4_count_128
def aX4_count_112 : List (Instr × Nat × Nat) := [(.aload_n 0, 113, 0), (.getfield 14, 116, 0), (.invokevirtual 287, 119, 0), (.ireturn, 120, 0)]
def iX4_count_112 : List (Instr × Nat × Nat) := aX4_count_112 ++ iX4_count_120
def aX4_count_104 : List (Instr × Nat × Nat) := [(.aload_n 0, 105, 0), (.getfield 33, 108, 0), (.invokevirtual 178, 111, 0), (.ireturn, 112, 0)]
def iX4_count_104 : List (Instr × Nat × Nat) := aX4_count_104 ++ iX4_count_112
def aX4_count_96 : List (Instr × Nat × Nat) := [(.aload_n 0, 97, 0), (.getfield 43, 100, 0), (.getfield 197, 103, 0), (.ireturn, 104, 0)]
def iX4_count_96 : List (Instr × Nat × Nat) := aX4_count_96 ++ iX4_count_104
def aX4_count_88 : List (Instr × Nat × Nat) := [(.aload_n 0, 89, 0), (.getfield 43, 92, 0), (.getfield 284, 95, 0), (.ireturn, 96, 0)]
def iX4_count_88 : List (Instr × Nat × Nat) := aX4_count_88 ++ iX4_count_96
def aX4_count_80 : List (Instr × Nat × Nat) := [(.aload_n 0, 81, 0), (.getfield 43, 84, 0), (.getfield 188, 87, 0), (.ireturn, 88, 0)]
def iX4_count_80 : List (Instr × Nat × Nat) := aX4_count_80 ++ iX4_count_88
def aX4_count_72 : List (Instr × Nat × Nat) := [(.aload_n 0, 73, 0), (.getfield 33, 76, 0), (.getfield 234, 79, 0), (.ireturn, 80, 0)]
def iX4_count_72 : List (Instr × Nat × Nat) := aX4_count_72 ++ iX4_count_80
def aX4_count_64 : List (Instr × Nat × Nat) := [(.aload_n 0, 65, 0), (.getfield 33, 68, 0), (.getfield 185, 71, 0), (.ireturn, 72, 0)]
def iX4_count_64 : List (Instr × Nat × Nat) := aX4_count_64 ++ iX4_count_72
def aX4_count_56 : List (Instr × Nat × Nat) := [(.aload_n 0, 57, 0), (.getfield 33, 60, 0), (.getfield 148, 63, 0), (.ireturn, 64, 0)]
def iX4_count_56 : List (Instr × Nat × Nat) := aX4_count_56 ++ iX4_count_64
def aX4_count_0 : List (Instr × Nat × Nat) := [(.iload_n 1, 1, 0), (.tableswitch 132 0 9 #[55, 63, 71, 79, 87, 95, 103, 111, 119, 127], 56, 0)]
def iX4_count_0 : List (Instr × Nat × Nat) := aX4_count_0 ++ iX4_count_56
theorem kX4_count_0 : sr_is cX4_count 0 iX4_count_0 = true := by decide +kernel
theorem lX4_count_0 {d : Nat} {L : sr_L} {st : List Value} {b : Nat × Nat} {h : sr_H} {P : Option Value → sr_H → Prop} (w : sr_wp mX4_count d iX4_count_0 0 L st b h P) : sr_Go mX4_count d 0 L st b h P := sr_wp_go kX4_count_0 w
theorem kX4_count_56 : sr_is cX4_count 56 iX4_count_56 = true := sr_is_suf (as := aX4_count_0) kX4_count_0
theorem lX4_count_56 {d : Nat} {L : sr_L} {st : List Value} {b : Nat × Nat} {h : sr_H} {P : Option Value → sr_H → Prop} (w : sr_wp mX4_count d iX4_count_56 56 L st b h P) : sr_Go mX4_count d 56 L st b h P := sr_wp_go kX4_count_56 w
theorem kX4_count_64 : sr_is cX4_count 64 iX4_count_64 = true := sr_is_suf (as := aX4_count_56) kX4_count_56
theorem lX4_count_64 {d : Nat} {L : sr_L} {st : List Value} {b : Nat × Nat} {h : sr_H} {P : Option Value → sr_H → Prop} (w : sr_wp mX4_count d iX4_count_64 64 L st b h P) : sr_Go mX4_count d 64 L st b h P := sr_wp_go kX4_count_64 w
theorem kX4_count_72 : sr_is cX4_count 72 iX4_count_72 = true := sr_is_suf (as := aX4_count_64) kX4_count_64
theorem lX4_count_72 {d : Nat} {L : sr_L} {st : List Value} {b : Nat × Nat} {h : sr_H} {P : Option Value → sr_H → Prop} (w : sr_wp mX4_count d iX4_count_72 72 L st b h P) : sr_Go mX4_count d 72 L st b h P := sr_wp_go kX4_count_72 w
theorem kX4_count_80 : sr_is cX4_count 80 iX4_count_80 = true := sr_is_suf (as := aX4_count_72) kX4_count_72
theorem lX4_count_80 {d : Nat} {L : sr_L} {st : List Value} {b : Nat × Nat} {h : sr_H} {P : Option Value → sr_H → Prop} (w : sr_wp mX4_count d iX4_count_80 80 L st b h P) : sr_Go mX4_count d 80 L st b h P := sr_wp_go kX4_count_80 w
theorem kX4_count_88 : sr_is cX4_count 88 iX4_count_88 = true := sr_is_suf (as := aX4_count_80) kX4_count_80
theorem lX4_count_88 {d : Nat} {L : sr_L} {st : List Value} {b : Nat × Nat} {h : sr_H} {P : Option Value → sr_H → Prop} (w : sr_wp mX4_count d iX4_count_88 88 L st b h P) : sr_Go mX4_count d 88 L st b h P := sr_wp_go kX4_count_88 w
theorem kX4_count_96 : sr_is cX4_count 96 iX4_count_96 = true := sr_is_suf (as := aX4_count_88) kX4_count_88
theorem lX4_count_96 {d : Nat} {L : sr_L} {st : List Value} {b : Nat × Nat} {h : sr_H} {P : Option Value → sr_H → Prop} (w : sr_wp mX4_count d iX4_count_96 96 L st b h P) : sr_Go mX4_count d 96 L st b h P := sr_wp_go kX4_count_96 w
theorem kX4_count_104 : sr_is cX4_count 104 iX4_count_104 = true := sr_is_suf (as := aX4_count_96) kX4_count_96
theorem lX4_count_104 {d : Nat} {L : sr_L} {st : List Value} {b : Nat × Nat} {h : sr_H} {P : Option Value → sr_H → Prop} (w : sr_wp mX4_count d iX4_count_104 104 L st b h P) : sr_Go mX4_count d 104 L st b h P := sr_wp_go kX4_count_104 w
theorem kX4_count_112 : sr_is cX4_count 112 iX4_count_112 = true := sr_is_suf (as := aX4_count_104) kX4_count_104
theorem lX4_count_112 {d : Nat} {L : sr_L} {st : List Value} {b : Nat × Nat} {h : sr_H} {P : Option Value → sr_H → Prop} (w : sr_wp mX4_count d iX4_count_112 112 L st b h P) : sr_Go mX4_count d 112 L st b h P := sr_wp_go kX4_count_112 w
theorem kX4_count_120 : sr_is cX4_count 120 iX4_count_120 = true := sr_is_suf (as := aX4_count_112) kX4_count_112
theorem lX4_count_120 {d : Nat} {L : sr_L} {st : List Value} {b : Nat × Nat} {h : sr_H} {P : Option Value → sr_H → Prop} (w : sr_wp mX4_count d iX4_count_120 120 L st b h P) : sr_Go mX4_count d 120 L st b h P := sr_wp_go kX4_count_120 w
theorem kX4_count_128 : sr_is cX4_count 128 iX4_count_128 = true := sr_is_suf (as := aX4_count_120) kX4_count_120
theorem lX4_count_128 {d : Nat} {L : sr_L} {st : List Value} {b : Nat × Nat} {h : sr_H} {P : Option Value → sr_H → Prop} (w : sr_wp mX4_count d iX4_count_128 128 L st b h P) : sr_Go mX4_count d 128 L st b h P := sr_wp_go kX4_count_128 w
theorem kX4_count_133 : sr_is cX4_count 133 iX4_count_133 = true := sr_is_suf (as := aX4_count_128) kX4_count_128
theorem lX4_count_133 {d : Nat} {L : sr_L} {st : List Value} {b : Nat × Nat} {h : sr_H} {P : Option Value → sr_H → Prop} (w : sr_wp mX4_count d iX4_count_133 133 L st b h P) : sr_Go mX4_count d 133 L st b h P := sr_wp_go kX4_count_133 w
def iX4_finding_0 : List (Instr × Nat × Nat) := [(.aload_n 0, 1, 0), (.getfield 75, 4, 0), (.ireturn, 5, 0)]
theorem kX4_finding_0 : sr_is cX4_finding 0 iX4_finding_0 = true := by decide +kernel
theorem lX4_finding_0 {d : Nat} {L : sr_L} {st : List Value} {b : Nat × Nat} {h : sr_H} {P : Option Value → sr_H → Prop} (w : sr_wp mX4_finding d iX4_finding_0 0 L st b h P) : sr_Go mX4_finding d 0 L st b h P := sr_wp_go kX4_finding_0 w
def iX4_findings_20 : List (Instr × Nat × Nat) := [(.ireturn, 21, 0)]
def aX4_findings_14 : List (Instr × Nat × Nat) := [(.aload_n 0, 15, 0), (.getfield 78, 18, 0), (.iload_n 1, 19, 0), (.iaload, 20, 0)]
def iX4_findings_14 : List (Instr × Nat × Nat) := aX4_findings_14 ++ iX4_findings_20
def aX4_findings_10 : List (Instr × Nat × Nat) := [(.iconst (-1), 11, 0), (.goto 9, 14, 20)]
def iX4_findings_10 : List (Instr × Nat × Nat) := aX4_findings_10 ++ iX4_findings_14
def aX4_findings_0 : List (Instr × Nat × Nat) := [(.iload_n 1, 1, 0), (.iconst 1, 2, 0), (.if_icmp .lt 8, 5, 10), (.iload_n 1, 6, 0), (.iconst 5, 7, 0), (.if_icmp .le 7, 10, 14)]
def iX4_findings_0 : List (Instr × Nat × Nat) := aX4_findings_0 ++ iX4_findings_10
theorem kX4_findings_0 : sr_is cX4_findings 0 iX4_findings_0 = true := by decide +kernel
theorem lX4_findings_0 {d : Nat} {L : sr_L} {st : List Value} {b : Nat × Nat} {h : sr_H} {P : Option Value → sr_H → Prop} (w : sr_wp mX4_findings d iX4_findings_0 0 L st b h P) : sr_Go mX4_findings d 0 L st b h P := sr_wp_go kX4_findings_0 w
theorem kX4_findings_10 : sr_is cX4_findings 10 iX4_findings_10 = true := sr_is_suf (as := aX4_findings_0) kX4_findings_0
theorem lX4_findings_10 {d : Nat} {L : sr_L} {st : List Value} {b : Nat × Nat} {h : sr_H} {P : Option Value → sr_H → Prop} (w : sr_wp mX4_findings d iX4_findings_10 10 L st b h P) : sr_Go mX4_findings d 10 L st b h P := sr_wp_go kX4_findings_10 w
theorem kX4_findings_14 : sr_is cX4_findings 14 iX4_findings_14 = true := sr_is_suf (as := aX4_findings_10) kX4_findings_10
theorem lX4_findings_14 {d : Nat} {L : sr_L} {st : List Value} {b : Nat × Nat} {h : sr_H} {P : Option Value → sr_H → Prop} (w : sr_wp mX4_findings d iX4_findings_14 14 L st b h P) : sr_Go mX4_findings d 14 L st b h P := sr_wp_go kX4_findings_14 w
theorem kX4_findings_20 : sr_is cX4_findings 20 iX4_findings_20 = true := sr_is_suf (as := aX4_findings_14) kX4_findings_14
theorem lX4_findings_20 {d : Nat} {L : sr_L} {st : List Value} {b : Nat × Nat} {h : sr_H} {P : Option Value → sr_H → Prop} (w : sr_wp mX4_findings d iX4_findings_20 20 L st b h P) : sr_Go mX4_findings d 20 L st b h P := sr_wp_go kX4_findings_20 w
def iX4_digest_107 : List (Instr × Nat × Nat) := [(.aload_n 0, 108, 0), (.getfield 18, 111, 0), (.aload_n 0, 112, 0), (.getfield 14, 115, 0), (.lload_n 1, 116, 0), (.invokevirtual 303, 119, 0), (.invokevirtual 303, 122, 0), (.lreturn, 123, 0)]
def aX4_digest_83 : List (Instr × Nat × Nat) := [(.iload_n 3, 84, 0), (.iconst 3, 85, 0), (.if_icmp .ge 22, 88, 107), (.ldc2_w 295, 91, 0), (.lload_n 1, 92, 0), (.lmul, 93, 0), (.aload_n 0, 94, 0), (.iload_n 3, 95, 0), (.invokevirtual 300, 98, 0), (.i2l, 99, 0), (.ladd, 100, 0), (.lstore_n 1, 101, 0), (.iinc 3 1, 104, 0), (.goto (-21), 107, 83)]
def iX4_digest_83 : List (Instr × Nat × Nat) := aX4_digest_83 ++ iX4_digest_107
def aX4_digest_81 : List (Instr × Nat × Nat) := [(.iconst 0, 82, 0), (.istore_n 3, 83, 0)]
def iX4_digest_81 : List (Instr × Nat × Nat) := aX4_digest_81 ++ iX4_digest_83
def aX4_digest_75 : List (Instr × Nat × Nat) := [(.iinc 3 1, 78, 0), (.goto (-45), 81, 33)]
def iX4_digest_75 : List (Instr × Nat × Nat) := aX4_digest_75 ++ iX4_digest_81
def aX4_digest_47 : List (Instr × Nat × Nat) := [(.iload 4, 49, 0), (.bipush 8, 51, 0), (.if_icmp .ge 24, 54, 75), (.ldc2_w 295, 57, 0), (.lload_n 1, 58, 0), (.lmul, 59, 0), (.aload_n 0, 60, 0), (.iload_n 3, 61, 0), (.iload 4, 63, 0), (.invokevirtual 154, 66, 0), (.i2l, 67, 0), (.ladd, 68, 0), (.lstore_n 1, 69, 0), (.iinc 4 1, 72, 0), (.goto (-25), 75, 47)]
def iX4_digest_47 : List (Instr × Nat × Nat) := aX4_digest_47 ++ iX4_digest_75
def aX4_digest_33 : List (Instr × Nat × Nat) := [(.iload_n 3, 34, 0), (.aload_n 0, 35, 0), (.getfield 33, 38, 0), (.getfield 148, 41, 0), (.if_icmp .ge 40, 44, 81), (.iconst 0, 45, 0), (.istore 4, 47, 0)]
def iX4_digest_33 : List (Instr × Nat × Nat) := aX4_digest_33 ++ iX4_digest_47
def aX4_digest_31 : List (Instr × Nat × Nat) := [(.iconst 0, 32, 0), (.istore_n 3, 33, 0)]
def iX4_digest_31 : List (Instr × Nat × Nat) := aX4_digest_31 ++ iX4_digest_33
def aX4_digest_6 : List (Instr × Nat × Nat) := [(.iload_n 3, 7, 0), (.bipush 10, 9, 0), (.if_icmp .ge 22, 12, 31), (.ldc2_w 295, 15, 0), (.lload_n 1, 16, 0), (.lmul, 17, 0), (.aload_n 0, 18, 0), (.iload_n 3, 19, 0), (.invokevirtual 297, 22, 0), (.i2l, 23, 0), (.ladd, 24, 0), (.lstore_n 1, 25, 0), (.iinc 3 1, 28, 0), (.goto (-22), 31, 6)]
def iX4_digest_6 : List (Instr × Nat × Nat) := aX4_digest_6 ++ iX4_digest_31
def aX4_digest_0 : List (Instr × Nat × Nat) := [(.ldc2_w 293, 3, 0), (.lstore_n 1, 4, 0), (.iconst 0, 5, 0), (.istore_n 3, 6, 0)]
def iX4_digest_0 : List (Instr × Nat × Nat) := aX4_digest_0 ++ iX4_digest_6
theorem kX4_digest_0 : sr_is cX4_digest 0 iX4_digest_0 = true := by decide +kernel
theorem lX4_digest_0 {d : Nat} {L : sr_L} {st : List Value} {b : Nat × Nat} {h : sr_H} {P : Option Value → sr_H → Prop} (w : sr_wp mX4_digest d iX4_digest_0 0 L st b h P) : sr_Go mX4_digest d 0 L st b h P := sr_wp_go kX4_digest_0 w
theorem kX4_digest_6 : sr_is cX4_digest 6 iX4_digest_6 = true := sr_is_suf (as := aX4_digest_0) kX4_digest_0
theorem lX4_digest_6 {d : Nat} {L : sr_L} {st : List Value} {b : Nat × Nat} {h : sr_H} {P : Option Value → sr_H → Prop} (w : sr_wp mX4_digest d iX4_digest_6 6 L st b h P) : sr_Go mX4_digest d 6 L st b h P := sr_wp_go kX4_digest_6 w
theorem kX4_digest_31 : sr_is cX4_digest 31 iX4_digest_31 = true := sr_is_suf (as := aX4_digest_6) kX4_digest_6
theorem lX4_digest_31 {d : Nat} {L : sr_L} {st : List Value} {b : Nat × Nat} {h : sr_H} {P : Option Value → sr_H → Prop} (w : sr_wp mX4_digest d iX4_digest_31 31 L st b h P) : sr_Go mX4_digest d 31 L st b h P := sr_wp_go kX4_digest_31 w
theorem kX4_digest_33 : sr_is cX4_digest 33 iX4_digest_33 = true := sr_is_suf (as := aX4_digest_31) kX4_digest_31
theorem lX4_digest_33 {d : Nat} {L : sr_L} {st : List Value} {b : Nat × Nat} {h : sr_H} {P : Option Value → sr_H → Prop} (w : sr_wp mX4_digest d iX4_digest_33 33 L st b h P) : sr_Go mX4_digest d 33 L st b h P := sr_wp_go kX4_digest_33 w
theorem kX4_digest_47 : sr_is cX4_digest 47 iX4_digest_47 = true := sr_is_suf (as := aX4_digest_33) kX4_digest_33
theorem lX4_digest_47 {d : Nat} {L : sr_L} {st : List Value} {b : Nat × Nat} {h : sr_H} {P : Option Value → sr_H → Prop} (w : sr_wp mX4_digest d iX4_digest_47 47 L st b h P) : sr_Go mX4_digest d 47 L st b h P := sr_wp_go kX4_digest_47 w
theorem kX4_digest_75 : sr_is cX4_digest 75 iX4_digest_75 = true := sr_is_suf (as := aX4_digest_47) kX4_digest_47
theorem lX4_digest_75 {d : Nat} {L : sr_L} {st : List Value} {b : Nat × Nat} {h : sr_H} {P : Option Value → sr_H → Prop} (w : sr_wp mX4_digest d iX4_digest_75 75 L st b h P) : sr_Go mX4_digest d 75 L st b h P := sr_wp_go kX4_digest_75 w
theorem kX4_digest_81 : sr_is cX4_digest 81 iX4_digest_81 = true := sr_is_suf (as := aX4_digest_75) kX4_digest_75
theorem lX4_digest_81 {d : Nat} {L : sr_L} {st : List Value} {b : Nat × Nat} {h : sr_H} {P : Option Value → sr_H → Prop} (w : sr_wp mX4_digest d iX4_digest_81 81 L st b h P) : sr_Go mX4_digest d 81 L st b h P := sr_wp_go kX4_digest_81 w
theorem kX4_digest_83 : sr_is cX4_digest 83 iX4_digest_83 = true := sr_is_suf (as := aX4_digest_81) kX4_digest_81
theorem lX4_digest_83 {d : Nat} {L : sr_L} {st : List Value} {b : Nat × Nat} {h : sr_H} {P : Option Value → sr_H → Prop} (w : sr_wp mX4_digest d iX4_digest_83 83 L st b h P) : sr_Go mX4_digest d 83 L st b h P := sr_wp_go kX4_digest_83 w
theorem kX4_digest_107 : sr_is cX4_digest 107 iX4_digest_107 = true := sr_is_suf (as := aX4_digest_83) kX4_digest_83
theorem lX4_digest_107 {d : Nat} {L : sr_L} {st : List Value} {b : Nat × Nat} {h : sr_H} {P : Option Value → sr_H → Prop} (w : sr_wp mX4_digest d iX4_digest_107 107 L st b h P) : sr_Go mX4_digest d 107 L st b h P := sr_wp_go kX4_digest_107 w
def iX4_found_0 : List (Instr × Nat × Nat) := [(.aload_n 0, 1, 0), (.iload_n 1, 2, 0), (.putfield 75, 5, 0), (.aload_n 0, 6, 0), (.getfield 78, 9, 0), (.iload_n 1, 10, 0), (.dup2, 11, 0), (.iaload, 12, 0), (.iconst 1, 13, 0), (.iadd, 14, 0), (.iastore, 15, 0), (.bipush (-3), 17, 0), (.ireturn, 18, 0)]
theorem kX4_found_0 : sr_is cX4_found 0 iX4_found_0 = true := by decide +kernel
theorem lX4_found_0 {d : Nat} {L : sr_L} {st : List Value} {b : Nat × Nat} {h : sr_H} {P : Option Value → sr_H → Prop} (w : sr_wp mX4_found d iX4_found_0 0 L st b h P) : sr_Go mX4_found d 0 L st b h P := sr_wp_go kX4_found_0 w
def iX4_makePaper_28 : List (Instr × Nat × Nat) := [(.aload_n 1, 29, 0), (.iload_n 2, 30, 0), (.iload_n 3, 31, 0), (.iload 4, 33, 0), (.invokevirtual 310, 36, 0), (.iload_n 3, 37, 0), (.ireturn, 38, 0)]
def aX4_makePaper_18 : List (Instr × Nat × Nat) := [(.iload_n 3, 19, 0), (.ifCond .ge 9, 22, 28), (.aload_n 0, 23, 0), (.iconst 5, 24, 0), (.invokevirtual 112, 27, 0), (.ireturn, 28, 0)]
def iX4_makePaper_18 : List (Instr × Nat × Nat) := aX4_makePaper_18 ++ iX4_makePaper_28
def aX4_makePaper_16 : List (Instr × Nat × Nat) := [(.iconst (-1), 17, 0), (.ireturn, 18, 0)]
def iX4_makePaper_16 : List (Instr × Nat × Nat) := aX4_makePaper_16 ++ iX4_makePaper_18
def aX4_makePaper_0 : List (Instr × Nat × Nat) := [(.aload_n 1, 1, 0), (.iload_n 2, 2, 0), (.invokevirtual 108, 5, 0), (.ifCond .eq 11, 8, 16), (.iload_n 3, 9, 0), (.aload_n 1, 10, 0), (.getfield 307, 13, 0), (.if_icmp .le 5, 16, 18)]
def iX4_makePaper_0 : List (Instr × Nat × Nat) := aX4_makePaper_0 ++ iX4_makePaper_16
theorem kX4_makePaper_0 : sr_is cX4_makePaper 0 iX4_makePaper_0 = true := by decide +kernel
theorem lX4_makePaper_0 {d : Nat} {L : sr_L} {st : List Value} {b : Nat × Nat} {h : sr_H} {P : Option Value → sr_H → Prop} (w : sr_wp mX4_makePaper d iX4_makePaper_0 0 L st b h P) : sr_Go mX4_makePaper d 0 L st b h P := sr_wp_go kX4_makePaper_0 w
theorem kX4_makePaper_16 : sr_is cX4_makePaper 16 iX4_makePaper_16 = true := sr_is_suf (as := aX4_makePaper_0) kX4_makePaper_0
theorem lX4_makePaper_16 {d : Nat} {L : sr_L} {st : List Value} {b : Nat × Nat} {h : sr_H} {P : Option Value → sr_H → Prop} (w : sr_wp mX4_makePaper d iX4_makePaper_16 16 L st b h P) : sr_Go mX4_makePaper d 16 L st b h P := sr_wp_go kX4_makePaper_16 w
theorem kX4_makePaper_18 : sr_is cX4_makePaper 18 iX4_makePaper_18 = true := sr_is_suf (as := aX4_makePaper_16) kX4_makePaper_16
theorem lX4_makePaper_18 {d : Nat} {L : sr_L} {st : List Value} {b : Nat × Nat} {h : sr_H} {P : Option Value → sr_H → Prop} (w : sr_wp mX4_makePaper d iX4_makePaper_18 18 L st b h P) : sr_Go mX4_makePaper d 18 L st b h P := sr_wp_go kX4_makePaper_18 w
theorem kX4_makePaper_28 : sr_is cX4_makePaper 28 iX4_makePaper_28 = true := sr_is_suf (as := aX4_makePaper_18) kX4_makePaper_18
theorem lX4_makePaper_28 {d : Nat} {L : sr_L} {st : List Value} {b : Nat × Nat} {h : sr_H} {P : Option Value → sr_H → Prop} (w : sr_wp mX4_makePaper d iX4_makePaper_28 28 L st b h P) : sr_Go mX4_makePaper d 28 L st b h P := sr_wp_go kX4_makePaper_28 w
def iX4_refusalOfPaper_27 : List (Instr × Nat × Nat) := [(.ireturn, 28, 0)]
def aX4_refusalOfPaper_26 : List (Instr × Nat × Nat) := [(.iconst 0, 27, 0)]
def iX4_refusalOfPaper_26 : List (Instr × Nat × Nat) := aX4_refusalOfPaper_26 ++ iX4_refusalOfPaper_27
def aX4_refusalOfPaper_10 : List (Instr × Nat × Nat) := [(.aload_n 1, 11, 0), (.iload_n 2, 12, 0), (.invokevirtual 116, 15, 0), (.ifCond .eq 11, 18, 26), (.aload_n 0, 19, 0), (.iconst 1, 20, 0), (.invokevirtual 112, 23, 0), (.goto 4, 26, 27)]
def iX4_refusalOfPaper_10 : List (Instr × Nat × Nat) := aX4_refusalOfPaper_10 ++ iX4_refusalOfPaper_26
def aX4_refusalOfPaper_0 : List (Instr × Nat × Nat) := [(.aload_n 1, 1, 0), (.iload_n 2, 2, 0), (.invokevirtual 108, 5, 0), (.ifCond .ne 5, 8, 10), (.iconst (-1), 9, 0), (.ireturn, 10, 0)]
def iX4_refusalOfPaper_0 : List (Instr × Nat × Nat) := aX4_refusalOfPaper_0 ++ iX4_refusalOfPaper_10
theorem kX4_refusalOfPaper_0 : sr_is cX4_refusalOfPaper 0 iX4_refusalOfPaper_0 = true := by decide +kernel
theorem lX4_refusalOfPaper_0 {d : Nat} {L : sr_L} {st : List Value} {b : Nat × Nat} {h : sr_H} {P : Option Value → sr_H → Prop} (w : sr_wp mX4_refusalOfPaper d iX4_refusalOfPaper_0 0 L st b h P) : sr_Go mX4_refusalOfPaper d 0 L st b h P := sr_wp_go kX4_refusalOfPaper_0 w
theorem kX4_refusalOfPaper_10 : sr_is cX4_refusalOfPaper 10 iX4_refusalOfPaper_10 = true := sr_is_suf (as := aX4_refusalOfPaper_0) kX4_refusalOfPaper_0
theorem lX4_refusalOfPaper_10 {d : Nat} {L : sr_L} {st : List Value} {b : Nat × Nat} {h : sr_H} {P : Option Value → sr_H → Prop} (w : sr_wp mX4_refusalOfPaper d iX4_refusalOfPaper_10 10 L st b h P) : sr_Go mX4_refusalOfPaper d 10 L st b h P := sr_wp_go kX4_refusalOfPaper_10 w
theorem kX4_refusalOfPaper_26 : sr_is cX4_refusalOfPaper 26 iX4_refusalOfPaper_26 = true := sr_is_suf (as := aX4_refusalOfPaper_10) kX4_refusalOfPaper_10
theorem lX4_refusalOfPaper_26 {d : Nat} {L : sr_L} {st : List Value} {b : Nat × Nat} {h : sr_H} {P : Option Value → sr_H → Prop} (w : sr_wp mX4_refusalOfPaper d iX4_refusalOfPaper_26 26 L st b h P) : sr_Go mX4_refusalOfPaper d 26 L st b h P := sr_wp_go kX4_refusalOfPaper_26 w
theorem kX4_refusalOfPaper_27 : sr_is cX4_refusalOfPaper 27 iX4_refusalOfPaper_27 = true := sr_is_suf (as := aX4_refusalOfPaper_26) kX4_refusalOfPaper_26
theorem lX4_refusalOfPaper_27 {d : Nat} {L : sr_L} {st : List Value} {b : Nat × Nat} {h : sr_H} {P : Option Value → sr_H → Prop} (w : sr_wp mX4_refusalOfPaper d iX4_refusalOfPaper_27 27 L st b h P) : sr_Go mX4_refusalOfPaper d 27 L st b h P := sr_wp_go kX4_refusalOfPaper_27 w
def iX4_refusalOfPlace_34 : List (Instr × Nat × Nat) := [(.ireturn, 35, 0)]
def aX4_refusalOfPlace_29 : List (Instr × Nat × Nat) := [(.aload_n 0, 30, 0), (.iconst 2, 31, 0), (.invokevirtual 112, 34, 0)]
def iX4_refusalOfPlace_29 : List (Instr × Nat × Nat) := aX4_refusalOfPlace_29 ++ iX4_refusalOfPlace_34
def aX4_refusalOfPlace_16 : List (Instr × Nat × Nat) := [(.aload_n 1, 17, 0), (.iload_n 2, 18, 0), (.iload_n 3, 19, 0), (.invokevirtual 313, 22, 0), (.ifCond .eq 7, 25, 29), (.iconst 0, 26, 0), (.goto 8, 29, 34)]
def iX4_refusalOfPlace_16 : List (Instr × Nat × Nat) := aX4_refusalOfPlace_16 ++ iX4_refusalOfPlace_29
def aX4_refusalOfPlace_0 : List (Instr × Nat × Nat) := [(.aload_n 0, 1, 0), (.aload_n 1, 2, 0), (.iload_n 2, 3, 0), (.invokevirtual 100, 6, 0), (.istore 4, 8, 0), (.iload 4, 10, 0), (.ifCond .eq 6, 13, 16), (.iload 4, 15, 0), (.ireturn, 16, 0)]
def iX4_refusalOfPlace_0 : List (Instr × Nat × Nat) := aX4_refusalOfPlace_0 ++ iX4_refusalOfPlace_16
theorem kX4_refusalOfPlace_0 : sr_is cX4_refusalOfPlace 0 iX4_refusalOfPlace_0 = true := by decide +kernel
theorem lX4_refusalOfPlace_0 {d : Nat} {L : sr_L} {st : List Value} {b : Nat × Nat} {h : sr_H} {P : Option Value → sr_H → Prop} (w : sr_wp mX4_refusalOfPlace d iX4_refusalOfPlace_0 0 L st b h P) : sr_Go mX4_refusalOfPlace d 0 L st b h P := sr_wp_go kX4_refusalOfPlace_0 w
theorem kX4_refusalOfPlace_16 : sr_is cX4_refusalOfPlace 16 iX4_refusalOfPlace_16 = true := sr_is_suf (as := aX4_refusalOfPlace_0) kX4_refusalOfPlace_0
theorem lX4_refusalOfPlace_16 {d : Nat} {L : sr_L} {st : List Value} {b : Nat × Nat} {h : sr_H} {P : Option Value → sr_H → Prop} (w : sr_wp mX4_refusalOfPlace d iX4_refusalOfPlace_16 16 L st b h P) : sr_Go mX4_refusalOfPlace d 16 L st b h P := sr_wp_go kX4_refusalOfPlace_16 w
theorem kX4_refusalOfPlace_29 : sr_is cX4_refusalOfPlace 29 iX4_refusalOfPlace_29 = true := sr_is_suf (as := aX4_refusalOfPlace_16) kX4_refusalOfPlace_16
theorem lX4_refusalOfPlace_29 {d : Nat} {L : sr_L} {st : List Value} {b : Nat × Nat} {h : sr_H} {P : Option Value → sr_H → Prop} (w : sr_wp mX4_refusalOfPlace d iX4_refusalOfPlace_29 29 L st b h P) : sr_Go mX4_refusalOfPlace d 29 L st b h P := sr_wp_go kX4_refusalOfPlace_29 w
theorem kX4_refusalOfPlace_34 : sr_is cX4_refusalOfPlace 34 iX4_refusalOfPlace_34 = true := sr_is_suf (as := aX4_refusalOfPlace_29) kX4_refusalOfPlace_29
theorem lX4_refusalOfPlace_34 {d : Nat} {L : sr_L} {st : List Value} {b : Nat × Nat} {h : sr_H} {P : Option Value → sr_H → Prop} (w : sr_wp mX4_refusalOfPlace d iX4_refusalOfPlace_34 34 L st b h P) : sr_Go mX4_refusalOfPlace d 34 L st b h P := sr_wp_go kX4_refusalOfPlace_34 w
def iX4_tell_0 : List (Instr × Nat × Nat) := [(.aload_n 0, 1, 0), (.iload_n 2, 2, 0), (.putfield 65, 5, 0), (.iload_n 1, 6, 0), (.ireturn, 7, 0)]
theorem kX4_tell_0 : sr_is cX4_tell 0 iX4_tell_0 = true := by decide +kernel
theorem lX4_tell_0 {d : Nat} {L : sr_L} {st : List Value} {b : Nat × Nat} {h : sr_H} {P : Option Value → sr_H → Prop} (w : sr_wp mX4_tell d iX4_tell_0 0 L st b h P) : sr_Go mX4_tell d 0 L st b h P := sr_wp_go kX4_tell_0 w
def iX4_tellShare_0 : List (Instr × Nat × Nat) := [(.iconst 1, 1, 0), (.iload_n 1, 2, 0), (.iload_n 2, 3, 0), (.invokestatic 316, 6, 0), (.invokestatic 240, 9, 0), (.istore_n 3, 10, 0), (.aload_n 0, 11, 0), (.iload_n 1, 12, 0), (.iload_n 3, 13, 0), (.idiv, 14, 0), (.i2l, 15, 0), (.putfield 68, 18, 0), (.aload_n 0, 19, 0), (.iload_n 2, 20, 0), (.iload_n 3, 21, 0), (.idiv, 22, 0), (.i2l, 23, 0), (.putfield 72, 26, 0), (.return_, 27, 0)]
theorem kX4_tellShare_0 : sr_is cX4_tellShare 0 iX4_tellShare_0 = true := by decide +kernel
theorem lX4_tellShare_0 {d : Nat} {L : sr_L} {st : List Value} {b : Nat × Nat} {h : sr_H} {P : Option Value → sr_H → Prop} (w : sr_wp mX4_tellShare d iX4_tellShare_0 0 L st b h P) : sr_Go mX4_tellShare d 0 L st b h P := sr_wp_go kX4_tellShare_0 w
def iX4_commonMeasure_34 : List (Instr × Nat × Nat) := [(.iload_n 2, 35, 0), (.ireturn, 36, 0)]
def aX4_commonMeasure_7 : List (Instr × Nat × Nat) := [(.iload 4, 9, 0), (.bipush 6, 11, 0), (.if_icmp .gt 23, 14, 34), (.iload_n 3, 15, 0), (.ifCond .le 19, 18, 34), (.iload_n 2, 19, 0), (.iload_n 3, 20, 0), (.irem, 21, 0), (.istore 5, 23, 0), (.iload_n 3, 24, 0), (.istore_n 2, 25, 0), (.iload 5, 27, 0), (.istore_n 3, 28, 0), (.iinc 4 1, 31, 0), (.goto (-24), 34, 7)]
def iX4_commonMeasure_7 : List (Instr × Nat × Nat) := aX4_commonMeasure_7 ++ iX4_commonMeasure_34
def aX4_commonMeasure_0 : List (Instr × Nat × Nat) := [(.iload_n 0, 1, 0), (.istore_n 2, 2, 0), (.iload_n 1, 3, 0), (.istore_n 3, 4, 0), (.iconst 0, 5, 0), (.istore 4, 7, 0)]
def iX4_commonMeasure_0 : List (Instr × Nat × Nat) := aX4_commonMeasure_0 ++ iX4_commonMeasure_7
theorem kX4_commonMeasure_0 : sr_is cX4_commonMeasure 0 iX4_commonMeasure_0 = true := by decide +kernel
theorem lX4_commonMeasure_0 {d : Nat} {L : sr_L} {st : List Value} {b : Nat × Nat} {h : sr_H} {P : Option Value → sr_H → Prop} (w : sr_wp mX4_commonMeasure d iX4_commonMeasure_0 0 L st b h P) : sr_Go mX4_commonMeasure d 0 L st b h P := sr_wp_go kX4_commonMeasure_0 w
theorem kX4_commonMeasure_7 : sr_is cX4_commonMeasure 7 iX4_commonMeasure_7 = true := sr_is_suf (as := aX4_commonMeasure_0) kX4_commonMeasure_0
theorem lX4_commonMeasure_7 {d : Nat} {L : sr_L} {st : List Value} {b : Nat × Nat} {h : sr_H} {P : Option Value → sr_H → Prop} (w : sr_wp mX4_commonMeasure d iX4_commonMeasure_7 7 L st b h P) : sr_Go mX4_commonMeasure d 7 L st b h P := sr_wp_go kX4_commonMeasure_7 w
theorem kX4_commonMeasure_34 : sr_is cX4_commonMeasure 34 iX4_commonMeasure_34 = true := sr_is_suf (as := aX4_commonMeasure_7) kX4_commonMeasure_7
theorem lX4_commonMeasure_34 {d : Nat} {L : sr_L} {st : List Value} {b : Nat × Nat} {h : sr_H} {P : Option Value → sr_H → Prop} (w : sr_wp mX4_commonMeasure d iX4_commonMeasure_34 34 L st b h P) : sr_Go mX4_commonMeasure d 34 L st b h P := sr_wp_go kX4_commonMeasure_34 w
def iX4_firstBit_25 : List (Instr × Nat × Nat) := [(.bipush (-9), 27, 0), (.ireturn, 28, 0)]
def aX4_firstBit_19 : List (Instr × Nat × Nat) := [(.iinc 1 1, 22, 0), (.goto (-20), 25, 2)]
def iX4_firstBit_19 : List (Instr × Nat × Nat) := aX4_firstBit_19 ++ iX4_firstBit_25
def aX4_firstBit_2 : List (Instr × Nat × Nat) := [(.iload_n 1, 3, 0), (.bipush 32, 5, 0), (.if_icmp .ge 20, 8, 25), (.iload_n 0, 9, 0), (.iload_n 1, 10, 0), (.ishr, 11, 0), (.iconst 1, 12, 0), (.iand, 13, 0), (.iconst 1, 14, 0), (.if_icmp .ne 5, 17, 19), (.iload_n 1, 18, 0), (.ireturn, 19, 0)]
def iX4_firstBit_2 : List (Instr × Nat × Nat) := aX4_firstBit_2 ++ iX4_firstBit_19
def aX4_firstBit_0 : List (Instr × Nat × Nat) := [(.iconst 0, 1, 0), (.istore_n 1, 2, 0)]
def iX4_firstBit_0 : List (Instr × Nat × Nat) := aX4_firstBit_0 ++ iX4_firstBit_2
theorem kX4_firstBit_0 : sr_is cX4_firstBit 0 iX4_firstBit_0 = true := by decide +kernel
theorem lX4_firstBit_0 {d : Nat} {L : sr_L} {st : List Value} {b : Nat × Nat} {h : sr_H} {P : Option Value → sr_H → Prop} (w : sr_wp mX4_firstBit d iX4_firstBit_0 0 L st b h P) : sr_Go mX4_firstBit d 0 L st b h P := sr_wp_go kX4_firstBit_0 w
theorem kX4_firstBit_2 : sr_is cX4_firstBit 2 iX4_firstBit_2 = true := sr_is_suf (as := aX4_firstBit_0) kX4_firstBit_0
theorem lX4_firstBit_2 {d : Nat} {L : sr_L} {st : List Value} {b : Nat × Nat} {h : sr_H} {P : Option Value → sr_H → Prop} (w : sr_wp mX4_firstBit d iX4_firstBit_2 2 L st b h P) : sr_Go mX4_firstBit d 2 L st b h P := sr_wp_go kX4_firstBit_2 w
theorem kX4_firstBit_19 : sr_is cX4_firstBit 19 iX4_firstBit_19 = true := sr_is_suf (as := aX4_firstBit_2) kX4_firstBit_2
theorem lX4_firstBit_19 {d : Nat} {L : sr_L} {st : List Value} {b : Nat × Nat} {h : sr_H} {P : Option Value → sr_H → Prop} (w : sr_wp mX4_firstBit d iX4_firstBit_19 19 L st b h P) : sr_Go mX4_firstBit d 19 L st b h P := sr_wp_go kX4_firstBit_19 w
theorem kX4_firstBit_25 : sr_is cX4_firstBit 25 iX4_firstBit_25 = true := sr_is_suf (as := aX4_firstBit_19) kX4_firstBit_19
theorem lX4_firstBit_25 {d : Nat} {L : sr_L} {st : List Value} {b : Nat × Nat} {h : sr_H} {P : Option Value → sr_H → Prop} (w : sr_wp mX4_firstBit d iX4_firstBit_25 25 L st b h P) : sr_Go mX4_firstBit d 25 L st b h P := sr_wp_go kX4_firstBit_25 w
def iX4_isGuest_20 : List (Instr × Nat × Nat) := [(.ireturn, 21, 0)]
def aX4_isGuest_19 : List (Instr × Nat × Nat) := [(.iconst 0, 20, 0)]
def iX4_isGuest_19 : List (Instr × Nat × Nat) := aX4_isGuest_19 ++ iX4_isGuest_20
def aX4_isGuest_0 : List (Instr × Nat × Nat) := [(.iload_n 1, 1, 0), (.ifCond .lt 18, 4, 19), (.iload_n 1, 5, 0), (.aload_n 0, 6, 0), (.getfield 33, 9, 0), (.getfield 148, 12, 0), (.if_icmp .ge 7, 15, 19), (.iconst 1, 16, 0), (.goto 4, 19, 20)]
def iX4_isGuest_0 : List (Instr × Nat × Nat) := aX4_isGuest_0 ++ iX4_isGuest_19
theorem kX4_isGuest_0 : sr_is cX4_isGuest 0 iX4_isGuest_0 = true := by decide +kernel
theorem lX4_isGuest_0 {d : Nat} {L : sr_L} {st : List Value} {b : Nat × Nat} {h : sr_H} {P : Option Value → sr_H → Prop} (w : sr_wp mX4_isGuest d iX4_isGuest_0 0 L st b h P) : sr_Go mX4_isGuest d 0 L st b h P := sr_wp_go kX4_isGuest_0 w
theorem kX4_isGuest_19 : sr_is cX4_isGuest 19 iX4_isGuest_19 = true := sr_is_suf (as := aX4_isGuest_0) kX4_isGuest_0
theorem lX4_isGuest_19 {d : Nat} {L : sr_L} {st : List Value} {b : Nat × Nat} {h : sr_H} {P : Option Value → sr_H → Prop} (w : sr_wp mX4_isGuest d iX4_isGuest_19 19 L st b h P) : sr_Go mX4_isGuest d 19 L st b h P := sr_wp_go kX4_isGuest_19 w
theorem kX4_isGuest_20 : sr_is cX4_isGuest 20 iX4_isGuest_20 = true := sr_is_suf (as := aX4_isGuest_19) kX4_isGuest_19
theorem lX4_isGuest_20 {d : Nat} {L : sr_L} {st : List Value} {b : Nat × Nat} {h : sr_H} {P : Option Value → sr_H → Prop} (w : sr_wp mX4_isGuest d iX4_isGuest_20 20 L st b h P) : sr_Go mX4_isGuest d 20 L st b h P := sr_wp_go kX4_isGuest_20 w
def iX4_isThing_20 : List (Instr × Nat × Nat) := [(.ireturn, 21, 0)]
def aX4_isThing_19 : List (Instr × Nat × Nat) := [(.iconst 0, 20, 0)]
def iX4_isThing_19 : List (Instr × Nat × Nat) := aX4_isThing_19 ++ iX4_isThing_20
def aX4_isThing_0 : List (Instr × Nat × Nat) := [(.iload_n 1, 1, 0), (.ifCond .lt 18, 4, 19), (.iload_n 1, 5, 0), (.aload_n 0, 6, 0), (.getfield 33, 9, 0), (.getfield 234, 12, 0), (.if_icmp .ge 7, 15, 19), (.iconst 1, 16, 0), (.goto 4, 19, 20)]
def iX4_isThing_0 : List (Instr × Nat × Nat) := aX4_isThing_0 ++ iX4_isThing_19
theorem kX4_isThing_0 : sr_is cX4_isThing 0 iX4_isThing_0 = true := by decide +kernel
theorem lX4_isThing_0 {d : Nat} {L : sr_L} {st : List Value} {b : Nat × Nat} {h : sr_H} {P : Option Value → sr_H → Prop} (w : sr_wp mX4_isThing d iX4_isThing_0 0 L st b h P) : sr_Go mX4_isThing d 0 L st b h P := sr_wp_go kX4_isThing_0 w
theorem kX4_isThing_19 : sr_is cX4_isThing 19 iX4_isThing_19 = true := sr_is_suf (as := aX4_isThing_0) kX4_isThing_0
theorem lX4_isThing_19 {d : Nat} {L : sr_L} {st : List Value} {b : Nat × Nat} {h : sr_H} {P : Option Value → sr_H → Prop} (w : sr_wp mX4_isThing d iX4_isThing_19 19 L st b h P) : sr_Go mX4_isThing d 19 L st b h P := sr_wp_go kX4_isThing_19 w
theorem kX4_isThing_20 : sr_is cX4_isThing 20 iX4_isThing_20 = true := sr_is_suf (as := aX4_isThing_19) kX4_isThing_19
theorem lX4_isThing_20 {d : Nat} {L : sr_L} {st : List Value} {b : Nat × Nat} {h : sr_H} {P : Option Value → sr_H → Prop} (w : sr_wp mX4_isThing d iX4_isThing_20 20 L st b h P) : sr_Go mX4_isThing d 20 L st b h P := sr_wp_go kX4_isThing_20 w
def iX4_isThingSet_22 : List (Instr × Nat × Nat) := [(.ireturn, 23, 0)]
def aX4_isThingSet_21 : List (Instr × Nat × Nat) := [(.iconst 0, 22, 0)]
def iX4_isThingSet_21 : List (Instr × Nat × Nat) := aX4_isThingSet_21 ++ iX4_isThingSet_22
def aX4_isThingSet_0 : List (Instr × Nat × Nat) := [(.iload_n 1, 1, 0), (.ifCond .lt 20, 4, 21), (.iload_n 1, 5, 0), (.iconst 1, 6, 0), (.aload_n 0, 7, 0), (.getfield 33, 10, 0), (.getfield 234, 13, 0), (.ishl, 14, 0), (.if_icmp .ge 7, 17, 21), (.iconst 1, 18, 0), (.goto 4, 21, 22)]
def iX4_isThingSet_0 : List (Instr × Nat × Nat) := aX4_isThingSet_0 ++ iX4_isThingSet_21
theorem kX4_isThingSet_0 : sr_is cX4_isThingSet 0 iX4_isThingSet_0 = true := by decide +kernel
theorem lX4_isThingSet_0 {d : Nat} {L : sr_L} {st : List Value} {b : Nat × Nat} {h : sr_H} {P : Option Value → sr_H → Prop} (w : sr_wp mX4_isThingSet d iX4_isThingSet_0 0 L st b h P) : sr_Go mX4_isThingSet d 0 L st b h P := sr_wp_go kX4_isThingSet_0 w
theorem kX4_isThingSet_21 : sr_is cX4_isThingSet 21 iX4_isThingSet_21 = true := sr_is_suf (as := aX4_isThingSet_0) kX4_isThingSet_0
theorem lX4_isThingSet_21 {d : Nat} {L : sr_L} {st : List Value} {b : Nat × Nat} {h : sr_H} {P : Option Value → sr_H → Prop} (w : sr_wp mX4_isThingSet d iX4_isThingSet_21 21 L st b h P) : sr_Go mX4_isThingSet d 21 L st b h P := sr_wp_go kX4_isThingSet_21 w
theorem kX4_isThingSet_22 : sr_is cX4_isThingSet 22 iX4_isThingSet_22 = true := sr_is_suf (as := aX4_isThingSet_21) kX4_isThingSet_21
theorem lX4_isThingSet_22 {d : Nat} {L : sr_L} {st : List Value} {b : Nat × Nat} {h : sr_H} {P : Option Value → sr_H → Prop} (w : sr_wp mX4_isThingSet d iX4_isThingSet_22 22 L st b h P) : sr_Go mX4_isThingSet d 22 L st b h P := sr_wp_go kX4_isThingSet_22 w
def iX4_isLaw_14 : List (Instr × Nat × Nat) := [(.ireturn, 15, 0)]
def aX4_isLaw_13 : List (Instr × Nat × Nat) := [(.iconst 0, 14, 0)]
def iX4_isLaw_13 : List (Instr × Nat × Nat) := aX4_isLaw_13 ++ iX4_isLaw_14
def aX4_isLaw_0 : List (Instr × Nat × Nat) := [(.iload_n 0, 1, 0), (.ifCond .lt 12, 4, 13), (.iload_n 0, 5, 0), (.iconst 3, 6, 0), (.if_icmp .ge 7, 9, 13), (.iconst 1, 10, 0), (.goto 4, 13, 14)]
def iX4_isLaw_0 : List (Instr × Nat × Nat) := aX4_isLaw_0 ++ iX4_isLaw_13
theorem kX4_isLaw_0 : sr_is cX4_isLaw 0 iX4_isLaw_0 = true := by decide +kernel
theorem lX4_isLaw_0 {d : Nat} {L : sr_L} {st : List Value} {b : Nat × Nat} {h : sr_H} {P : Option Value → sr_H → Prop} (w : sr_wp mX4_isLaw d iX4_isLaw_0 0 L st b h P) : sr_Go mX4_isLaw d 0 L st b h P := sr_wp_go kX4_isLaw_0 w
theorem kX4_isLaw_13 : sr_is cX4_isLaw 13 iX4_isLaw_13 = true := sr_is_suf (as := aX4_isLaw_0) kX4_isLaw_0
theorem lX4_isLaw_13 {d : Nat} {L : sr_L} {st : List Value} {b : Nat × Nat} {h : sr_H} {P : Option Value → sr_H → Prop} (w : sr_wp mX4_isLaw d iX4_isLaw_13 13 L st b h P) : sr_Go mX4_isLaw d 13 L st b h P := sr_wp_go kX4_isLaw_13 w
theorem kX4_isLaw_14 : sr_is cX4_isLaw 14 iX4_isLaw_14 = true := sr_is_suf (as := aX4_isLaw_13) kX4_isLaw_13
theorem lX4_isLaw_14 {d : Nat} {L : sr_L} {st : List Value} {b : Nat × Nat} {h : sr_H} {P : Option Value → sr_H → Prop} (w : sr_wp mX4_isLaw d iX4_isLaw_14 14 L st b h P) : sr_Go mX4_isLaw d 14 L st b h P := sr_wp_go kX4_isLaw_14 w
def iX4_factOf_94 : List (Instr × Nat × Nat) := [(.aload_n 0, 95, 0), (.getfield 43, 98, 0), (.iload_n 1, 99, 0), (.iload_n 2, 100, 0), (.bipush 6, 102, 0), (.isub, 103, 0), (.invokevirtual 200, 106, 0), (.ireturn, 107, 0)]
def aX4_factOf_85 : List (Instr × Nat × Nat) := [(.aload_n 0, 86, 0), (.getfield 43, 89, 0), (.iload_n 1, 90, 0), (.invokevirtual 175, 93, 0), (.ireturn, 94, 0)]
def iX4_factOf_85 : List (Instr × Nat × Nat) := aX4_factOf_85 ++ iX4_factOf_94
def aX4_factOf_76 : List (Instr × Nat × Nat) := [(.aload_n 0, 77, 0), (.getfield 43, 80, 0), (.iload_n 1, 81, 0), (.invokevirtual 194, 84, 0), (.ireturn, 85, 0)]
def iX4_factOf_76 : List (Instr × Nat × Nat) := aX4_factOf_76 ++ iX4_factOf_85
def aX4_factOf_70 : List (Instr × Nat × Nat) := [(.aload_n 0, 71, 0), (.iload_n 1, 72, 0), (.invokevirtual 164, 75, 0), (.ireturn, 76, 0)]
def iX4_factOf_70 : List (Instr × Nat × Nat) := aX4_factOf_70 ++ iX4_factOf_76
def aX4_factOf_60 : List (Instr × Nat × Nat) := [(.aload_n 0, 61, 0), (.getfield 33, 64, 0), (.getfield 161, 67, 0), (.iload_n 1, 68, 0), (.iaload, 69, 0), (.ireturn, 70, 0)]
def iX4_factOf_60 : List (Instr × Nat × Nat) := aX4_factOf_60 ++ iX4_factOf_70
def aX4_factOf_50 : List (Instr × Nat × Nat) := [(.aload_n 0, 51, 0), (.getfield 43, 54, 0), (.getfield 172, 57, 0), (.iload_n 1, 58, 0), (.iaload, 59, 0), (.ireturn, 60, 0)]
def iX4_factOf_50 : List (Instr × Nat × Nat) := aX4_factOf_50 ++ iX4_factOf_60
def aX4_factOf_40 : List (Instr × Nat × Nat) := [(.aload_n 0, 41, 0), (.getfield 33, 44, 0), (.getfield 319, 47, 0), (.iload_n 1, 48, 0), (.iaload, 49, 0), (.ireturn, 50, 0)]
def iX4_factOf_40 : List (Instr × Nat × Nat) := aX4_factOf_40 ++ iX4_factOf_50
def aX4_factOf_0 : List (Instr × Nat × Nat) := [(.iload_n 2, 1, 0), (.tableswitch 93 0 5 #[39, 49, 59, 69, 75, 84], 40, 0)]
def iX4_factOf_0 : List (Instr × Nat × Nat) := aX4_factOf_0 ++ iX4_factOf_40
theorem kX4_factOf_0 : sr_is cX4_factOf 0 iX4_factOf_0 = true := by decide +kernel
theorem lX4_factOf_0 {d : Nat} {L : sr_L} {st : List Value} {b : Nat × Nat} {h : sr_H} {P : Option Value → sr_H → Prop} (w : sr_wp mX4_factOf d iX4_factOf_0 0 L st b h P) : sr_Go mX4_factOf d 0 L st b h P := sr_wp_go kX4_factOf_0 w
theorem kX4_factOf_40 : sr_is cX4_factOf 40 iX4_factOf_40 = true := sr_is_suf (as := aX4_factOf_0) kX4_factOf_0
theorem lX4_factOf_40 {d : Nat} {L : sr_L} {st : List Value} {b : Nat × Nat} {h : sr_H} {P : Option Value → sr_H → Prop} (w : sr_wp mX4_factOf d iX4_factOf_40 40 L st b h P) : sr_Go mX4_factOf d 40 L st b h P := sr_wp_go kX4_factOf_40 w
theorem kX4_factOf_50 : sr_is cX4_factOf 50 iX4_factOf_50 = true := sr_is_suf (as := aX4_factOf_40) kX4_factOf_40
theorem lX4_factOf_50 {d : Nat} {L : sr_L} {st : List Value} {b : Nat × Nat} {h : sr_H} {P : Option Value → sr_H → Prop} (w : sr_wp mX4_factOf d iX4_factOf_50 50 L st b h P) : sr_Go mX4_factOf d 50 L st b h P := sr_wp_go kX4_factOf_50 w
theorem kX4_factOf_60 : sr_is cX4_factOf 60 iX4_factOf_60 = true := sr_is_suf (as := aX4_factOf_50) kX4_factOf_50
theorem lX4_factOf_60 {d : Nat} {L : sr_L} {st : List Value} {b : Nat × Nat} {h : sr_H} {P : Option Value → sr_H → Prop} (w : sr_wp mX4_factOf d iX4_factOf_60 60 L st b h P) : sr_Go mX4_factOf d 60 L st b h P := sr_wp_go kX4_factOf_60 w
theorem kX4_factOf_70 : sr_is cX4_factOf 70 iX4_factOf_70 = true := sr_is_suf (as := aX4_factOf_60) kX4_factOf_60
theorem lX4_factOf_70 {d : Nat} {L : sr_L} {st : List Value} {b : Nat × Nat} {h : sr_H} {P : Option Value → sr_H → Prop} (w : sr_wp mX4_factOf d iX4_factOf_70 70 L st b h P) : sr_Go mX4_factOf d 70 L st b h P := sr_wp_go kX4_factOf_70 w
theorem kX4_factOf_76 : sr_is cX4_factOf 76 iX4_factOf_76 = true := sr_is_suf (as := aX4_factOf_70) kX4_factOf_70
theorem lX4_factOf_76 {d : Nat} {L : sr_L} {st : List Value} {b : Nat × Nat} {h : sr_H} {P : Option Value → sr_H → Prop} (w : sr_wp mX4_factOf d iX4_factOf_76 76 L st b h P) : sr_Go mX4_factOf d 76 L st b h P := sr_wp_go kX4_factOf_76 w
theorem kX4_factOf_85 : sr_is cX4_factOf 85 iX4_factOf_85 = true := sr_is_suf (as := aX4_factOf_76) kX4_factOf_76
theorem lX4_factOf_85 {d : Nat} {L : sr_L} {st : List Value} {b : Nat × Nat} {h : sr_H} {P : Option Value → sr_H → Prop} (w : sr_wp mX4_factOf d iX4_factOf_85 85 L st b h P) : sr_Go mX4_factOf d 85 L st b h P := sr_wp_go kX4_factOf_85 w
theorem kX4_factOf_94 : sr_is cX4_factOf 94 iX4_factOf_94 = true := sr_is_suf (as := aX4_factOf_85) kX4_factOf_85
theorem lX4_factOf_94 {d : Nat} {L : sr_L} {st : List Value} {b : Nat × Nat} {h : sr_H} {P : Option Value → sr_H → Prop} (w : sr_wp mX4_factOf d iX4_factOf_94 94 L st b h P) : sr_Go mX4_factOf d 94 L st b h P := sr_wp_go kX4_factOf_94 w
def iX4_secondLife_0 : List (Instr × Nat × Nat) := [(.aload_n 0, 1, 0), (.getfield 33, 4, 0), (.iload_n 1, 5, 0), (.aload_n 0, 6, 0), (.getfield 43, 9, 0), (.getfield 172, 12, 0), (.iload_n 1, 13, 0), (.iaload, 14, 0), (.invokevirtual 267, 17, 0), (.ireturn, 18, 0)]
theorem kX4_secondLife_0 : sr_is cX4_secondLife 0 iX4_secondLife_0 = true := by decide +kernel
theorem lX4_secondLife_0 {d : Nat} {L : sr_L} {st : List Value} {b : Nat × Nat} {h : sr_H} {P : Option Value → sr_H → Prop} (w : sr_wp mX4_secondLife d iX4_secondLife_0 0 L st b h P) : sr_Go mX4_secondLife d 0 L st b h P := sr_wp_go kX4_secondLife_0 w
def iX4_isSecondOf_22 : List (Instr × Nat × Nat) := [(.ireturn, 23, 0)]
def aX4_isSecondOf_21 : List (Instr × Nat × Nat) := [(.iconst 0, 22, 0)]
def iX4_isSecondOf_21 : List (Instr × Nat × Nat) := aX4_isSecondOf_21 ++ iX4_isSecondOf_22
def aX4_isSecondOf_0 : List (Instr × Nat × Nat) := [(.aload_n 0, 1, 0), (.getfield 33, 4, 0), (.getfield 161, 7, 0), (.iload_n 1, 8, 0), (.iaload, 9, 0), (.aload_n 0, 10, 0), (.iload_n 2, 11, 0), (.invokevirtual 164, 14, 0), (.if_icmp .ne 7, 17, 21), (.iconst 1, 18, 0), (.goto 4, 21, 22)]
def iX4_isSecondOf_0 : List (Instr × Nat × Nat) := aX4_isSecondOf_0 ++ iX4_isSecondOf_21
theorem kX4_isSecondOf_0 : sr_is cX4_isSecondOf 0 iX4_isSecondOf_0 = true := by decide +kernel
theorem lX4_isSecondOf_0 {d : Nat} {L : sr_L} {st : List Value} {b : Nat × Nat} {h : sr_H} {P : Option Value → sr_H → Prop} (w : sr_wp mX4_isSecondOf d iX4_isSecondOf_0 0 L st b h P) : sr_Go mX4_isSecondOf d 0 L st b h P := sr_wp_go kX4_isSecondOf_0 w
theorem kX4_isSecondOf_21 : sr_is cX4_isSecondOf 21 iX4_isSecondOf_21 = true := sr_is_suf (as := aX4_isSecondOf_0) kX4_isSecondOf_0
theorem lX4_isSecondOf_21 {d : Nat} {L : sr_L} {st : List Value} {b : Nat × Nat} {h : sr_H} {P : Option Value → sr_H → Prop} (w : sr_wp mX4_isSecondOf d iX4_isSecondOf_21 21 L st b h P) : sr_Go mX4_isSecondOf d 21 L st b h P := sr_wp_go kX4_isSecondOf_21 w
theorem kX4_isSecondOf_22 : sr_is cX4_isSecondOf 22 iX4_isSecondOf_22 = true := sr_is_suf (as := aX4_isSecondOf_21) kX4_isSecondOf_21
theorem lX4_isSecondOf_22 {d : Nat} {L : sr_L} {st : List Value} {b : Nat × Nat} {h : sr_H} {P : Option Value → sr_H → Prop} (w : sr_wp mX4_isSecondOf d iX4_isSecondOf_22 22 L st b h P) : sr_Go mX4_isSecondOf d 22 L st b h P := sr_wp_go kX4_isSecondOf_22 w
def iX4_thingsIn_25 : List (Instr × Nat × Nat) := [(.invokevirtual 219, 28, 0), (.ireturn, 29, 0)]
def aX4_thingsIn_20 : List (Instr × Nat × Nat) := [(.aload_n 0, 21, 0), (.iload_n 1, 22, 0), (.invokevirtual 164, 25, 0)]
def iX4_thingsIn_20 : List (Instr × Nat × Nat) := aX4_thingsIn_20 ++ iX4_thingsIn_25
def aX4_thingsIn_0 : List (Instr × Nat × Nat) := [(.aload_n 0, 1, 0), (.getfield 33, 4, 0), (.iload_n 2, 5, 0), (.ifCond .ne 15, 8, 20), (.aload_n 0, 9, 0), (.getfield 33, 12, 0), (.getfield 161, 15, 0), (.iload_n 1, 16, 0), (.iaload, 17, 0), (.goto 8, 20, 25)]
def iX4_thingsIn_0 : List (Instr × Nat × Nat) := aX4_thingsIn_0 ++ iX4_thingsIn_20
theorem kX4_thingsIn_0 : sr_is cX4_thingsIn 0 iX4_thingsIn_0 = true := by decide +kernel
theorem lX4_thingsIn_0 {d : Nat} {L : sr_L} {st : List Value} {b : Nat × Nat} {h : sr_H} {P : Option Value → sr_H → Prop} (w : sr_wp mX4_thingsIn d iX4_thingsIn_0 0 L st b h P) : sr_Go mX4_thingsIn d 0 L st b h P := sr_wp_go kX4_thingsIn_0 w
theorem kX4_thingsIn_20 : sr_is cX4_thingsIn 20 iX4_thingsIn_20 = true := sr_is_suf (as := aX4_thingsIn_0) kX4_thingsIn_0
theorem lX4_thingsIn_20 {d : Nat} {L : sr_L} {st : List Value} {b : Nat × Nat} {h : sr_H} {P : Option Value → sr_H → Prop} (w : sr_wp mX4_thingsIn d iX4_thingsIn_20 20 L st b h P) : sr_Go mX4_thingsIn d 20 L st b h P := sr_wp_go kX4_thingsIn_20 w
theorem kX4_thingsIn_25 : sr_is cX4_thingsIn 25 iX4_thingsIn_25 = true := sr_is_suf (as := aX4_thingsIn_20) kX4_thingsIn_20
theorem lX4_thingsIn_25 {d : Nat} {L : sr_L} {st : List Value} {b : Nat × Nat} {h : sr_H} {P : Option Value → sr_H → Prop} (w : sr_wp mX4_thingsIn d iX4_thingsIn_25 25 L st b h P) : sr_Go mX4_thingsIn d 25 L st b h P := sr_wp_go kX4_thingsIn_25 w
def iX4_thingsByTurn_0 : List (Instr × Nat × Nat) := [(.aload_n 0, 1, 0), (.getfield 33, 4, 0), (.aload_n 0, 5, 0), (.getfield 33, 8, 0), (.iload_n 1, 9, 0), (.iload_n 2, 10, 0), (.invokevirtual 267, 13, 0), (.invokevirtual 219, 16, 0), (.ireturn, 17, 0)]
theorem kX4_thingsByTurn_0 : sr_is cX4_thingsByTurn 0 iX4_thingsByTurn_0 = true := by decide +kernel
theorem lX4_thingsByTurn_0 {d : Nat} {L : sr_L} {st : List Value} {b : Nat × Nat} {h : sr_H} {P : Option Value → sr_H → Prop} (w : sr_wp mX4_thingsByTurn d iX4_thingsByTurn_0 0 L st b h P) : sr_Go mX4_thingsByTurn d 0 L st b h P := sr_wp_go kX4_thingsByTurn_0 w
def iX4_turnsWith_47 : List (Instr × Nat × Nat) := [(.iload_n 3, 48, 0), (.ireturn, 49, 0)]
def aX4_turnsWith_41 : List (Instr × Nat × Nat) := [(.iinc 4 1, 44, 0), (.goto (-39), 47, 5)]
def iX4_turnsWith_41 : List (Instr × Nat × Nat) := aX4_turnsWith_41 ++ iX4_turnsWith_47
def aX4_turnsWith_5 : List (Instr × Nat × Nat) := [(.iload 4, 7, 0), (.aload_n 0, 8, 0), (.getfield 33, 11, 0), (.getfield 185, 14, 0), (.if_icmp .ge 33, 17, 47), (.aload_n 0, 18, 0), (.getfield 33, 21, 0), (.aload_n 0, 22, 0), (.getfield 33, 25, 0), (.iload_n 1, 26, 0), (.iload 4, 28, 0), (.invokevirtual 267, 31, 0), (.iload_n 2, 32, 0), (.invokevirtual 248, 35, 0), (.ifCond .eq 6, 38, 41), (.iinc 3 1, 41, 0)]
def iX4_turnsWith_5 : List (Instr × Nat × Nat) := aX4_turnsWith_5 ++ iX4_turnsWith_41
def aX4_turnsWith_0 : List (Instr × Nat × Nat) := [(.iconst 0, 1, 0), (.istore_n 3, 2, 0), (.iconst 0, 3, 0), (.istore 4, 5, 0)]
def iX4_turnsWith_0 : List (Instr × Nat × Nat) := aX4_turnsWith_0 ++ iX4_turnsWith_5
theorem kX4_turnsWith_0 : sr_is cX4_turnsWith 0 iX4_turnsWith_0 = true := by decide +kernel
theorem lX4_turnsWith_0 {d : Nat} {L : sr_L} {st : List Value} {b : Nat × Nat} {h : sr_H} {P : Option Value → sr_H → Prop} (w : sr_wp mX4_turnsWith d iX4_turnsWith_0 0 L st b h P) : sr_Go mX4_turnsWith d 0 L st b h P := sr_wp_go kX4_turnsWith_0 w
theorem kX4_turnsWith_5 : sr_is cX4_turnsWith 5 iX4_turnsWith_5 = true := sr_is_suf (as := aX4_turnsWith_0) kX4_turnsWith_0
theorem lX4_turnsWith_5 {d : Nat} {L : sr_L} {st : List Value} {b : Nat × Nat} {h : sr_H} {P : Option Value → sr_H → Prop} (w : sr_wp mX4_turnsWith d iX4_turnsWith_5 5 L st b h P) : sr_Go mX4_turnsWith d 5 L st b h P := sr_wp_go kX4_turnsWith_5 w
theorem kX4_turnsWith_41 : sr_is cX4_turnsWith 41 iX4_turnsWith_41 = true := sr_is_suf (as := aX4_turnsWith_5) kX4_turnsWith_5
theorem lX4_turnsWith_41 {d : Nat} {L : sr_L} {st : List Value} {b : Nat × Nat} {h : sr_H} {P : Option Value → sr_H → Prop} (w : sr_wp mX4_turnsWith d iX4_turnsWith_41 41 L st b h P) : sr_Go mX4_turnsWith d 41 L st b h P := sr_wp_go kX4_turnsWith_41 w
theorem kX4_turnsWith_47 : sr_is cX4_turnsWith 47 iX4_turnsWith_47 = true := sr_is_suf (as := aX4_turnsWith_41) kX4_turnsWith_41
theorem lX4_turnsWith_47 {d : Nat} {L : sr_L} {st : List Value} {b : Nat × Nat} {h : sr_H} {P : Option Value → sr_H → Prop} (w : sr_wp mX4_turnsWith d iX4_turnsWith_47 47 L st b h P) : sr_Go mX4_turnsWith d 47 L st b h P := sr_wp_go kX4_turnsWith_47 w
def iX4_addDifference_32 : List (Instr × Nat × Nat) := [(.return_, 33, 0)]
def aX4_addDifference_0 : List (Instr × Nat × Nat) := [(.aload_n 0, 1, 0), (.getfield 55, 4, 0), (.aload_n 0, 5, 0), (.getfield 51, 8, 0), (.arraylength, 9, 0), (.if_icmp .ge 23, 12, 32), (.aload_n 0, 13, 0), (.getfield 51, 16, 0), (.aload_n 0, 17, 0), (.getfield 55, 20, 0), (.iload_n 1, 21, 0), (.iastore, 22, 0), (.aload_n 0, 23, 0), (.dup, 24, 0), (.getfield 55, 27, 0), (.iconst 1, 28, 0), (.iadd, 29, 0), (.putfield 55, 32, 0)]
def iX4_addDifference_0 : List (Instr × Nat × Nat) := aX4_addDifference_0 ++ iX4_addDifference_32
theorem kX4_addDifference_0 : sr_is cX4_addDifference 0 iX4_addDifference_0 = true := by decide +kernel
theorem lX4_addDifference_0 {d : Nat} {L : sr_L} {st : List Value} {b : Nat × Nat} {h : sr_H} {P : Option Value → sr_H → Prop} (w : sr_wp mX4_addDifference d iX4_addDifference_0 0 L st b h P) : sr_Go mX4_addDifference d 0 L st b h P := sr_wp_go kX4_addDifference_0 w
theorem kX4_addDifference_32 : sr_is cX4_addDifference 32 iX4_addDifference_32 = true := sr_is_suf (as := aX4_addDifference_0) kX4_addDifference_0
theorem lX4_addDifference_32 {d : Nat} {L : sr_L} {st : List Value} {b : Nat × Nat} {h : sr_H} {P : Option Value → sr_H → Prop} (w : sr_wp mX4_addDifference d iX4_addDifference_32 32 L st b h P) : sr_Go mX4_addDifference d 32 L st b h P := sr_wp_go kX4_addDifference_32 w
def iX4_fewestTellingApart_50 : List (Instr × Nat × Nat) := [(.iload_n 1, 51, 0), (.ireturn, 52, 0)]
def aX4_fewestTellingApart_44 : List (Instr × Nat × Nat) := [(.iinc 3 1, 47, 0), (.goto (-39), 50, 8)]
def iX4_fewestTellingApart_44 : List (Instr × Nat × Nat) := aX4_fewestTellingApart_44 ++ iX4_fewestTellingApart_50
def aX4_fewestTellingApart_8 : List (Instr × Nat × Nat) := [(.iload_n 3, 9, 0), (.iconst 1, 10, 0), (.aload_n 0, 11, 0), (.getfield 33, 14, 0), (.getfield 234, 17, 0), (.ishl, 18, 0), (.if_icmp .ge 32, 21, 50), (.iload_n 3, 22, 0), (.invokestatic 167, 25, 0), (.iload_n 2, 26, 0), (.if_icmp .ge 18, 29, 44), (.aload_n 0, 30, 0), (.iload_n 3, 31, 0), (.invokevirtual 322, 34, 0), (.ifCond .eq 10, 37, 44), (.iload_n 3, 38, 0), (.istore_n 1, 39, 0), (.iload_n 3, 40, 0), (.invokestatic 167, 43, 0), (.istore_n 2, 44, 0)]
def iX4_fewestTellingApart_8 : List (Instr × Nat × Nat) := aX4_fewestTellingApart_8 ++ iX4_fewestTellingApart_44
def aX4_fewestTellingApart_0 : List (Instr × Nat × Nat) := [(.bipush (-9), 2, 0), (.istore_n 1, 3, 0), (.bipush 9, 5, 0), (.istore_n 2, 6, 0), (.iconst 0, 7, 0), (.istore_n 3, 8, 0)]
def iX4_fewestTellingApart_0 : List (Instr × Nat × Nat) := aX4_fewestTellingApart_0 ++ iX4_fewestTellingApart_8
theorem kX4_fewestTellingApart_0 : sr_is cX4_fewestTellingApart 0 iX4_fewestTellingApart_0 = true := by decide +kernel
theorem lX4_fewestTellingApart_0 {d : Nat} {L : sr_L} {st : List Value} {b : Nat × Nat} {h : sr_H} {P : Option Value → sr_H → Prop} (w : sr_wp mX4_fewestTellingApart d iX4_fewestTellingApart_0 0 L st b h P) : sr_Go mX4_fewestTellingApart d 0 L st b h P := sr_wp_go kX4_fewestTellingApart_0 w
theorem kX4_fewestTellingApart_8 : sr_is cX4_fewestTellingApart 8 iX4_fewestTellingApart_8 = true := sr_is_suf (as := aX4_fewestTellingApart_0) kX4_fewestTellingApart_0
theorem lX4_fewestTellingApart_8 {d : Nat} {L : sr_L} {st : List Value} {b : Nat × Nat} {h : sr_H} {P : Option Value → sr_H → Prop} (w : sr_wp mX4_fewestTellingApart d iX4_fewestTellingApart_8 8 L st b h P) : sr_Go mX4_fewestTellingApart d 8 L st b h P := sr_wp_go kX4_fewestTellingApart_8 w
theorem kX4_fewestTellingApart_44 : sr_is cX4_fewestTellingApart 44 iX4_fewestTellingApart_44 = true := sr_is_suf (as := aX4_fewestTellingApart_8) kX4_fewestTellingApart_8
theorem lX4_fewestTellingApart_44 {d : Nat} {L : sr_L} {st : List Value} {b : Nat × Nat} {h : sr_H} {P : Option Value → sr_H → Prop} (w : sr_wp mX4_fewestTellingApart d iX4_fewestTellingApart_44 44 L st b h P) : sr_Go mX4_fewestTellingApart d 44 L st b h P := sr_wp_go kX4_fewestTellingApart_44 w
theorem kX4_fewestTellingApart_50 : sr_is cX4_fewestTellingApart 50 iX4_fewestTellingApart_50 = true := sr_is_suf (as := aX4_fewestTellingApart_44) kX4_fewestTellingApart_44
theorem lX4_fewestTellingApart_50 {d : Nat} {L : sr_L} {st : List Value} {b : Nat × Nat} {h : sr_H} {P : Option Value → sr_H → Prop} (w : sr_wp mX4_fewestTellingApart d iX4_fewestTellingApart_50 50 L st b h P) : sr_Go mX4_fewestTellingApart d 50 L st b h P := sr_wp_go kX4_fewestTellingApart_50 w
def iX4_tellsApart_38 : List (Instr × Nat × Nat) := [(.iconst 1, 39, 0), (.ireturn, 40, 0)]
def aX4_tellsApart_32 : List (Instr × Nat × Nat) := [(.iinc 2 1, 35, 0), (.goto (-33), 38, 2)]
def iX4_tellsApart_32 : List (Instr × Nat × Nat) := aX4_tellsApart_32 ++ iX4_tellsApart_38
def aX4_tellsApart_2 : List (Instr × Nat × Nat) := [(.iload_n 2, 3, 0), (.aload_n 0, 4, 0), (.getfield 55, 7, 0), (.if_icmp .ge 31, 10, 38), (.iload_n 2, 11, 0), (.aload_n 0, 12, 0), (.getfield 51, 15, 0), (.arraylength, 16, 0), (.if_icmp .ge 22, 19, 38), (.aload_n 0, 20, 0), (.getfield 51, 23, 0), (.iload_n 2, 24, 0), (.iaload, 25, 0), (.iload_n 1, 26, 0), (.iand, 27, 0), (.ifCond .ne 5, 30, 32), (.iconst 0, 31, 0), (.ireturn, 32, 0)]
def iX4_tellsApart_2 : List (Instr × Nat × Nat) := aX4_tellsApart_2 ++ iX4_tellsApart_32
def aX4_tellsApart_0 : List (Instr × Nat × Nat) := [(.iconst 0, 1, 0), (.istore_n 2, 2, 0)]
def iX4_tellsApart_0 : List (Instr × Nat × Nat) := aX4_tellsApart_0 ++ iX4_tellsApart_2
theorem kX4_tellsApart_0 : sr_is cX4_tellsApart 0 iX4_tellsApart_0 = true := by decide +kernel
theorem lX4_tellsApart_0 {d : Nat} {L : sr_L} {st : List Value} {b : Nat × Nat} {h : sr_H} {P : Option Value → sr_H → Prop} (w : sr_wp mX4_tellsApart d iX4_tellsApart_0 0 L st b h P) : sr_Go mX4_tellsApart d 0 L st b h P := sr_wp_go kX4_tellsApart_0 w
theorem kX4_tellsApart_2 : sr_is cX4_tellsApart 2 iX4_tellsApart_2 = true := sr_is_suf (as := aX4_tellsApart_0) kX4_tellsApart_0
theorem lX4_tellsApart_2 {d : Nat} {L : sr_L} {st : List Value} {b : Nat × Nat} {h : sr_H} {P : Option Value → sr_H → Prop} (w : sr_wp mX4_tellsApart d iX4_tellsApart_2 2 L st b h P) : sr_Go mX4_tellsApart d 2 L st b h P := sr_wp_go kX4_tellsApart_2 w
theorem kX4_tellsApart_32 : sr_is cX4_tellsApart 32 iX4_tellsApart_32 = true := sr_is_suf (as := aX4_tellsApart_2) kX4_tellsApart_2
theorem lX4_tellsApart_32 {d : Nat} {L : sr_L} {st : List Value} {b : Nat × Nat} {h : sr_H} {P : Option Value → sr_H → Prop} (w : sr_wp mX4_tellsApart d iX4_tellsApart_32 32 L st b h P) : sr_Go mX4_tellsApart d 32 L st b h P := sr_wp_go kX4_tellsApart_32 w
theorem kX4_tellsApart_38 : sr_is cX4_tellsApart 38 iX4_tellsApart_38 = true := sr_is_suf (as := aX4_tellsApart_32) kX4_tellsApart_32
theorem lX4_tellsApart_38 {d : Nat} {L : sr_L} {st : List Value} {b : Nat × Nat} {h : sr_H} {P : Option Value → sr_H → Prop} (w : sr_wp mX4_tellsApart d iX4_tellsApart_38 38 L st b h P) : sr_Go mX4_tellsApart d 38 L st b h P := sr_wp_go kX4_tellsApart_38 w
def iX4_endsOfWalk_77 : List (Instr × Nat × Nat) := [(.iload_n 3, 78, 0), (.ireturn, 79, 0)]
def aX4_endsOfWalk_71 : List (Instr × Nat × Nat) := [(.iinc 4 1, 74, 0), (.goto (-52), 77, 22)]
def iX4_endsOfWalk_71 : List (Instr × Nat × Nat) := aX4_endsOfWalk_71 ++ iX4_endsOfWalk_77
def aX4_endsOfWalk_22 : List (Instr × Nat × Nat) := [(.iload 4, 24, 0), (.aload_n 0, 25, 0), (.getfield 33, 28, 0), (.getfield 148, 31, 0), (.if_icmp .ge 46, 34, 77), (.iload_n 1, 35, 0), (.iload 4, 37, 0), (.ishr, 38, 0), (.iconst 1, 39, 0), (.iand, 40, 0), (.iconst 1, 41, 0), (.if_icmp .ne 30, 44, 71), (.aload_n 0, 45, 0), (.aload_n 0, 46, 0), (.getfield 62, 49, 0), (.iload_n 1, 50, 0), (.iconst 1, 51, 0), (.iload 4, 53, 0), (.ishl, 54, 0), (.ixor, 55, 0), (.iaload, 56, 0), (.iload 4, 58, 0), (.invokevirtual 257, 61, 0), (.ifCond .eq 10, 64, 71), (.iload_n 3, 65, 0), (.iconst 1, 66, 0), (.iload 4, 68, 0), (.ishl, 69, 0), (.ior, 70, 0), (.istore_n 3, 71, 0)]
def iX4_endsOfWalk_22 : List (Instr × Nat × Nat) := aX4_endsOfWalk_22 ++ iX4_endsOfWalk_71
def aX4_endsOfWalk_15 : List (Instr × Nat × Nat) := [(.iconst 0, 16, 0), (.istore_n 3, 17, 0), (.iload_n 2, 18, 0), (.iconst 1, 19, 0), (.iadd, 20, 0), (.istore 4, 22, 0)]
def iX4_endsOfWalk_15 : List (Instr × Nat × Nat) := aX4_endsOfWalk_15 ++ iX4_endsOfWalk_22
def aX4_endsOfWalk_0 : List (Instr × Nat × Nat) := [(.iload_n 1, 1, 0), (.invokestatic 213, 4, 0), (.istore_n 2, 5, 0), (.iload_n 1, 6, 0), (.invokestatic 167, 9, 0), (.iconst 1, 10, 0), (.if_icmp .ne 5, 13, 15), (.iload_n 1, 14, 0), (.ireturn, 15, 0)]
def iX4_endsOfWalk_0 : List (Instr × Nat × Nat) := aX4_endsOfWalk_0 ++ iX4_endsOfWalk_15
theorem kX4_endsOfWalk_0 : sr_is cX4_endsOfWalk 0 iX4_endsOfWalk_0 = true := by decide +kernel
theorem lX4_endsOfWalk_0 {d : Nat} {L : sr_L} {st : List Value} {b : Nat × Nat} {h : sr_H} {P : Option Value → sr_H → Prop} (w : sr_wp mX4_endsOfWalk d iX4_endsOfWalk_0 0 L st b h P) : sr_Go mX4_endsOfWalk d 0 L st b h P := sr_wp_go kX4_endsOfWalk_0 w
theorem kX4_endsOfWalk_15 : sr_is cX4_endsOfWalk 15 iX4_endsOfWalk_15 = true := sr_is_suf (as := aX4_endsOfWalk_0) kX4_endsOfWalk_0
theorem lX4_endsOfWalk_15 {d : Nat} {L : sr_L} {st : List Value} {b : Nat × Nat} {h : sr_H} {P : Option Value → sr_H → Prop} (w : sr_wp mX4_endsOfWalk d iX4_endsOfWalk_15 15 L st b h P) : sr_Go mX4_endsOfWalk d 15 L st b h P := sr_wp_go kX4_endsOfWalk_15 w
theorem kX4_endsOfWalk_22 : sr_is cX4_endsOfWalk 22 iX4_endsOfWalk_22 = true := sr_is_suf (as := aX4_endsOfWalk_15) kX4_endsOfWalk_15
theorem lX4_endsOfWalk_22 {d : Nat} {L : sr_L} {st : List Value} {b : Nat × Nat} {h : sr_H} {P : Option Value → sr_H → Prop} (w : sr_wp mX4_endsOfWalk d iX4_endsOfWalk_22 22 L st b h P) : sr_Go mX4_endsOfWalk d 22 L st b h P := sr_wp_go kX4_endsOfWalk_22 w
theorem kX4_endsOfWalk_71 : sr_is cX4_endsOfWalk 71 iX4_endsOfWalk_71 = true := sr_is_suf (as := aX4_endsOfWalk_22) kX4_endsOfWalk_22
theorem lX4_endsOfWalk_71 {d : Nat} {L : sr_L} {st : List Value} {b : Nat × Nat} {h : sr_H} {P : Option Value → sr_H → Prop} (w : sr_wp mX4_endsOfWalk d iX4_endsOfWalk_71 71 L st b h P) : sr_Go mX4_endsOfWalk d 71 L st b h P := sr_wp_go kX4_endsOfWalk_71 w
theorem kX4_endsOfWalk_77 : sr_is cX4_endsOfWalk 77 iX4_endsOfWalk_77 = true := sr_is_suf (as := aX4_endsOfWalk_71) kX4_endsOfWalk_71
theorem lX4_endsOfWalk_77 {d : Nat} {L : sr_L} {st : List Value} {b : Nat × Nat} {h : sr_H} {P : Option Value → sr_H → Prop} (w : sr_wp mX4_endsOfWalk d iX4_endsOfWalk_77 77 L st b h P) : sr_Go mX4_endsOfWalk d 77 L st b h P := sr_wp_go kX4_endsOfWalk_77 w
def iX4_leadsOn_39 : List (Instr × Nat × Nat) := [(.iconst 0, 40, 0), (.ireturn, 41, 0)]
def aX4_leadsOn_33 : List (Instr × Nat × Nat) := [(.iinc 3 1, 36, 0), (.goto (-34), 39, 2)]
def iX4_leadsOn_33 : List (Instr × Nat × Nat) := aX4_leadsOn_33 ++ iX4_leadsOn_39
def aX4_leadsOn_2 : List (Instr × Nat × Nat) := [(.iload_n 3, 3, 0), (.aload_n 0, 4, 0), (.getfield 33, 7, 0), (.getfield 148, 10, 0), (.if_icmp .ge 29, 13, 39), (.iload_n 1, 14, 0), (.iload_n 3, 15, 0), (.ishr, 16, 0), (.iconst 1, 17, 0), (.iand, 18, 0), (.iconst 1, 19, 0), (.if_icmp .ne 14, 22, 33), (.aload_n 0, 23, 0), (.iload_n 2, 24, 0), (.iload_n 3, 25, 0), (.invokevirtual 251, 28, 0), (.ifCond .eq 5, 31, 33), (.iconst 1, 32, 0), (.ireturn, 33, 0)]
def iX4_leadsOn_2 : List (Instr × Nat × Nat) := aX4_leadsOn_2 ++ iX4_leadsOn_33
def aX4_leadsOn_0 : List (Instr × Nat × Nat) := [(.iconst 0, 1, 0), (.istore_n 3, 2, 0)]
def iX4_leadsOn_0 : List (Instr × Nat × Nat) := aX4_leadsOn_0 ++ iX4_leadsOn_2
theorem kX4_leadsOn_0 : sr_is cX4_leadsOn 0 iX4_leadsOn_0 = true := by decide +kernel
theorem lX4_leadsOn_0 {d : Nat} {L : sr_L} {st : List Value} {b : Nat × Nat} {h : sr_H} {P : Option Value → sr_H → Prop} (w : sr_wp mX4_leadsOn d iX4_leadsOn_0 0 L st b h P) : sr_Go mX4_leadsOn d 0 L st b h P := sr_wp_go kX4_leadsOn_0 w
theorem kX4_leadsOn_2 : sr_is cX4_leadsOn 2 iX4_leadsOn_2 = true := sr_is_suf (as := aX4_leadsOn_0) kX4_leadsOn_0
theorem lX4_leadsOn_2 {d : Nat} {L : sr_L} {st : List Value} {b : Nat × Nat} {h : sr_H} {P : Option Value → sr_H → Prop} (w : sr_wp mX4_leadsOn d iX4_leadsOn_2 2 L st b h P) : sr_Go mX4_leadsOn d 2 L st b h P := sr_wp_go kX4_leadsOn_2 w
theorem kX4_leadsOn_33 : sr_is cX4_leadsOn 33 iX4_leadsOn_33 = true := sr_is_suf (as := aX4_leadsOn_2) kX4_leadsOn_2
theorem lX4_leadsOn_33 {d : Nat} {L : sr_L} {st : List Value} {b : Nat × Nat} {h : sr_H} {P : Option Value → sr_H → Prop} (w : sr_wp mX4_leadsOn d iX4_leadsOn_33 33 L st b h P) : sr_Go mX4_leadsOn d 33 L st b h P := sr_wp_go kX4_leadsOn_33 w
theorem kX4_leadsOn_39 : sr_is cX4_leadsOn 39 iX4_leadsOn_39 = true := sr_is_suf (as := aX4_leadsOn_33) kX4_leadsOn_33
theorem lX4_leadsOn_39 {d : Nat} {L : sr_L} {st : List Value} {b : Nat × Nat} {h : sr_H} {P : Option Value → sr_H → Prop} (w : sr_wp mX4_leadsOn d iX4_leadsOn_39 39 L st b h P) : sr_Go mX4_leadsOn d 39 L st b h P := sr_wp_go kX4_leadsOn_39 w
def iX4_billFor_57 : List (Instr × Nat × Nat) := [(.iload_n 3, 58, 0), (.iload 4, 60, 0), (.invokestatic 240, 63, 0), (.istore 5, 65, 0), (.iload 5, 67, 0), (.iload 5, 69, 0), (.imul, 70, 0), (.ireturn, 71, 0)]
def aX4_billFor_55 : List (Instr × Nat × Nat) := [(.iadd, 56, 0), (.ireturn, 57, 0)]
def iX4_billFor_55 : List (Instr × Nat × Nat) := aX4_billFor_55 ++ iX4_billFor_57
def aX4_billFor_54 : List (Instr × Nat × Nat) := [(.iconst 0, 55, 0)]
def iX4_billFor_54 : List (Instr × Nat × Nat) := aX4_billFor_54 ++ iX4_billFor_55
def aX4_billFor_13 : List (Instr × Nat × Nat) := [(.iload_n 2, 14, 0), (.iconst 1, 15, 0), (.if_icmp .ne 42, 18, 57), (.aload_n 0, 19, 0), (.iload_n 1, 20, 0), (.iconst 1, 21, 0), (.invokevirtual 182, 24, 0), (.aload_n 0, 25, 0), (.iload_n 1, 26, 0), (.iconst 0, 27, 0), (.invokevirtual 182, 30, 0), (.iconst (-1), 31, 0), (.ixor, 32, 0), (.iand, 33, 0), (.istore 5, 35, 0), (.iload_n 3, 36, 0), (.iload 4, 38, 0), (.iadd, 39, 0), (.iload 4, 41, 0), (.ifCond .le 13, 44, 54), (.iconst 2, 45, 0), (.iload 5, 47, 0), (.invokestatic 167, 50, 0), (.imul, 51, 0), (.goto 4, 54, 55)]
def iX4_billFor_13 : List (Instr × Nat × Nat) := aX4_billFor_13 ++ iX4_billFor_54
def aX4_billFor_0 : List (Instr × Nat × Nat) := [(.iload_n 2, 1, 0), (.ifCond .ne 12, 4, 13), (.iconst 2, 5, 0), (.iload_n 3, 6, 0), (.imul, 7, 0), (.iconst 3, 8, 0), (.iload 4, 10, 0), (.imul, 11, 0), (.iadd, 12, 0), (.ireturn, 13, 0)]
def iX4_billFor_0 : List (Instr × Nat × Nat) := aX4_billFor_0 ++ iX4_billFor_13
theorem kX4_billFor_0 : sr_is cX4_billFor 0 iX4_billFor_0 = true := by decide +kernel
theorem lX4_billFor_0 {d : Nat} {L : sr_L} {st : List Value} {b : Nat × Nat} {h : sr_H} {P : Option Value → sr_H → Prop} (w : sr_wp mX4_billFor d iX4_billFor_0 0 L st b h P) : sr_Go mX4_billFor d 0 L st b h P := sr_wp_go kX4_billFor_0 w
theorem kX4_billFor_13 : sr_is cX4_billFor 13 iX4_billFor_13 = true := sr_is_suf (as := aX4_billFor_0) kX4_billFor_0
theorem lX4_billFor_13 {d : Nat} {L : sr_L} {st : List Value} {b : Nat × Nat} {h : sr_H} {P : Option Value → sr_H → Prop} (w : sr_wp mX4_billFor d iX4_billFor_13 13 L st b h P) : sr_Go mX4_billFor d 13 L st b h P := sr_wp_go kX4_billFor_13 w
theorem kX4_billFor_54 : sr_is cX4_billFor 54 iX4_billFor_54 = true := sr_is_suf (as := aX4_billFor_13) kX4_billFor_13
theorem lX4_billFor_54 {d : Nat} {L : sr_L} {st : List Value} {b : Nat × Nat} {h : sr_H} {P : Option Value → sr_H → Prop} (w : sr_wp mX4_billFor d iX4_billFor_54 54 L st b h P) : sr_Go mX4_billFor d 54 L st b h P := sr_wp_go kX4_billFor_54 w
theorem kX4_billFor_55 : sr_is cX4_billFor 55 iX4_billFor_55 = true := sr_is_suf (as := aX4_billFor_54) kX4_billFor_54
theorem lX4_billFor_55 {d : Nat} {L : sr_L} {st : List Value} {b : Nat × Nat} {h : sr_H} {P : Option Value → sr_H → Prop} (w : sr_wp mX4_billFor d iX4_billFor_55 55 L st b h P) : sr_Go mX4_billFor d 55 L st b h P := sr_wp_go kX4_billFor_55 w
theorem kX4_billFor_57 : sr_is cX4_billFor 57 iX4_billFor_57 = true := sr_is_suf (as := aX4_billFor_55) kX4_billFor_55
theorem lX4_billFor_57 {d : Nat} {L : sr_L} {st : List Value} {b : Nat × Nat} {h : sr_H} {P : Option Value → sr_H → Prop} (w : sr_wp mX4_billFor d iX4_billFor_57 57 L st b h P) : sr_Go mX4_billFor d 57 L st b h P := sr_wp_go kX4_billFor_57 w
def iX4_actByLot_58 : List (Instr × Nat × Nat) := [(.return_, 59, 0)]
def aX4_actByLot_49 : List (Instr × Nat × Nat) := [(.aload_n 0, 50, 0), (.getfield 43, 53, 0), (.iconst 2, 54, 0), (.iload_n 1, 55, 0), (.invokevirtual 191, 58, 0)]
def iX4_actByLot_49 : List (Instr × Nat × Nat) := aX4_actByLot_49 ++ iX4_actByLot_58
def aX4_actByLot_33 : List (Instr × Nat × Nat) := [(.iload_n 2, 34, 0), (.ifCond .ne 15, 37, 49), (.aload_n 0, 38, 0), (.getfield 43, 41, 0), (.iconst 0, 42, 0), (.iload_n 1, 43, 0), (.invokevirtual 191, 46, 0), (.goto 12, 49, 58)]
def iX4_actByLot_33 : List (Instr × Nat × Nat) := aX4_actByLot_33 ++ iX4_actByLot_49
def aX4_actByLot_21 : List (Instr × Nat × Nat) := [(.aload_n 0, 22, 0), (.getfield 43, 25, 0), (.iconst 1, 26, 0), (.iload_n 1, 27, 0), (.invokevirtual 191, 30, 0), (.goto 28, 33, 58)]
def iX4_actByLot_21 : List (Instr × Nat × Nat) := aX4_actByLot_21 ++ iX4_actByLot_33
def aX4_actByLot_0 : List (Instr × Nat × Nat) := [(.iload_n 2, 1, 0), (.iconst 1, 2, 0), (.if_icmp .eq 19, 5, 21), (.iload_n 2, 6, 0), (.ifCond .ne 27, 9, 33), (.aload_n 0, 10, 0), (.getfield 43, 13, 0), (.iload_n 1, 14, 0), (.invokevirtual 175, 17, 0), (.iconst 1, 18, 0), (.if_icmp .ne 15, 21, 33)]
def iX4_actByLot_0 : List (Instr × Nat × Nat) := aX4_actByLot_0 ++ iX4_actByLot_21
theorem kX4_actByLot_0 : sr_is cX4_actByLot 0 iX4_actByLot_0 = true := by decide +kernel
theorem lX4_actByLot_0 {d : Nat} {L : sr_L} {st : List Value} {b : Nat × Nat} {h : sr_H} {P : Option Value → sr_H → Prop} (w : sr_wp mX4_actByLot d iX4_actByLot_0 0 L st b h P) : sr_Go mX4_actByLot d 0 L st b h P := sr_wp_go kX4_actByLot_0 w
theorem kX4_actByLot_21 : sr_is cX4_actByLot 21 iX4_actByLot_21 = true := sr_is_suf (as := aX4_actByLot_0) kX4_actByLot_0
theorem lX4_actByLot_21 {d : Nat} {L : sr_L} {st : List Value} {b : Nat × Nat} {h : sr_H} {P : Option Value → sr_H → Prop} (w : sr_wp mX4_actByLot d iX4_actByLot_21 21 L st b h P) : sr_Go mX4_actByLot d 21 L st b h P := sr_wp_go kX4_actByLot_21 w
theorem kX4_actByLot_33 : sr_is cX4_actByLot 33 iX4_actByLot_33 = true := sr_is_suf (as := aX4_actByLot_21) kX4_actByLot_21
theorem lX4_actByLot_33 {d : Nat} {L : sr_L} {st : List Value} {b : Nat × Nat} {h : sr_H} {P : Option Value → sr_H → Prop} (w : sr_wp mX4_actByLot d iX4_actByLot_33 33 L st b h P) : sr_Go mX4_actByLot d 33 L st b h P := sr_wp_go kX4_actByLot_33 w
theorem kX4_actByLot_49 : sr_is cX4_actByLot 49 iX4_actByLot_49 = true := sr_is_suf (as := aX4_actByLot_33) kX4_actByLot_33
theorem lX4_actByLot_49 {d : Nat} {L : sr_L} {st : List Value} {b : Nat × Nat} {h : sr_H} {P : Option Value → sr_H → Prop} (w : sr_wp mX4_actByLot d iX4_actByLot_49 49 L st b h P) : sr_Go mX4_actByLot d 49 L st b h P := sr_wp_go kX4_actByLot_49 w
theorem kX4_actByLot_58 : sr_is cX4_actByLot 58 iX4_actByLot_58 = true := sr_is_suf (as := aX4_actByLot_49) kX4_actByLot_49
theorem lX4_actByLot_58 {d : Nat} {L : sr_L} {st : List Value} {b : Nat × Nat} {h : sr_H} {P : Option Value → sr_H → Prop} (w : sr_wp mX4_actByLot d iX4_actByLot_58 58 L st b h P) : sr_Go mX4_actByLot d 58 L st b h P := sr_wp_go kX4_actByLot_58 w
def iX4_forgetKept_31 : List (Instr × Nat × Nat) := [(.return_, 32, 0)]
def aX4_forgetKept_25 : List (Instr × Nat × Nat) := [(.iinc 1 1, 28, 0), (.goto (-26), 31, 2)]
def iX4_forgetKept_25 : List (Instr × Nat × Nat) := aX4_forgetKept_25 ++ iX4_forgetKept_31
def aX4_forgetKept_2 : List (Instr × Nat × Nat) := [(.iload_n 1, 3, 0), (.iconst 3, 4, 0), (.if_icmp .ge 27, 7, 31), (.aload_n 0, 8, 0), (.getfield 47, 11, 0), (.iload_n 1, 12, 0), (.aaload, 13, 0), (.ifnull 12, 16, 25), (.aload_n 0, 17, 0), (.getfield 47, 20, 0), (.iload_n 1, 21, 0), (.aaload, 22, 0), (.invokevirtual 325, 25, 0)]
def iX4_forgetKept_2 : List (Instr × Nat × Nat) := aX4_forgetKept_2 ++ iX4_forgetKept_25
def aX4_forgetKept_0 : List (Instr × Nat × Nat) := [(.iconst 0, 1, 0), (.istore_n 1, 2, 0)]
def iX4_forgetKept_0 : List (Instr × Nat × Nat) := aX4_forgetKept_0 ++ iX4_forgetKept_2
theorem kX4_forgetKept_0 : sr_is cX4_forgetKept 0 iX4_forgetKept_0 = true := by decide +kernel
theorem lX4_forgetKept_0 {d : Nat} {L : sr_L} {st : List Value} {b : Nat × Nat} {h : sr_H} {P : Option Value → sr_H → Prop} (w : sr_wp mX4_forgetKept d iX4_forgetKept_0 0 L st b h P) : sr_Go mX4_forgetKept d 0 L st b h P := sr_wp_go kX4_forgetKept_0 w
theorem kX4_forgetKept_2 : sr_is cX4_forgetKept 2 iX4_forgetKept_2 = true := sr_is_suf (as := aX4_forgetKept_0) kX4_forgetKept_0
theorem lX4_forgetKept_2 {d : Nat} {L : sr_L} {st : List Value} {b : Nat × Nat} {h : sr_H} {P : Option Value → sr_H → Prop} (w : sr_wp mX4_forgetKept d iX4_forgetKept_2 2 L st b h P) : sr_Go mX4_forgetKept d 2 L st b h P := sr_wp_go kX4_forgetKept_2 w
theorem kX4_forgetKept_25 : sr_is cX4_forgetKept 25 iX4_forgetKept_25 = true := sr_is_suf (as := aX4_forgetKept_2) kX4_forgetKept_2
theorem lX4_forgetKept_25 {d : Nat} {L : sr_L} {st : List Value} {b : Nat × Nat} {h : sr_H} {P : Option Value → sr_H → Prop} (w : sr_wp mX4_forgetKept d iX4_forgetKept_25 25 L st b h P) : sr_Go mX4_forgetKept d 25 L st b h P := sr_wp_go kX4_forgetKept_25 w
theorem kX4_forgetKept_31 : sr_is cX4_forgetKept 31 iX4_forgetKept_31 = true := sr_is_suf (as := aX4_forgetKept_25) kX4_forgetKept_25
theorem lX4_forgetKept_31 {d : Nat} {L : sr_L} {st : List Value} {b : Nat × Nat} {h : sr_H} {P : Option Value → sr_H → Prop} (w : sr_wp mX4_forgetKept d iX4_forgetKept_31 31 L st b h P) : sr_Go mX4_forgetKept d 31 L st b h P := sr_wp_go kX4_forgetKept_31 w
def iX4_keptDeeds_22 : List (Instr × Nat × Nat) := [(.ireturn, 23, 0)]
def aX4_keptDeeds_13 : List (Instr × Nat × Nat) := [(.aload_n 0, 14, 0), (.getfield 47, 17, 0), (.iload_n 1, 18, 0), (.aaload, 19, 0), (.getfield 188, 22, 0)]
def iX4_keptDeeds_13 : List (Instr × Nat × Nat) := aX4_keptDeeds_13 ++ iX4_keptDeeds_22
def aX4_keptDeeds_0 : List (Instr × Nat × Nat) := [(.aload_n 0, 1, 0), (.getfield 47, 4, 0), (.iload_n 1, 5, 0), (.aaload, 6, 0), (.ifnonnull 7, 9, 13), (.iconst (-1), 10, 0), (.goto 12, 13, 22)]
def iX4_keptDeeds_0 : List (Instr × Nat × Nat) := aX4_keptDeeds_0 ++ iX4_keptDeeds_13
theorem kX4_keptDeeds_0 : sr_is cX4_keptDeeds 0 iX4_keptDeeds_0 = true := by decide +kernel
theorem lX4_keptDeeds_0 {d : Nat} {L : sr_L} {st : List Value} {b : Nat × Nat} {h : sr_H} {P : Option Value → sr_H → Prop} (w : sr_wp mX4_keptDeeds d iX4_keptDeeds_0 0 L st b h P) : sr_Go mX4_keptDeeds d 0 L st b h P := sr_wp_go kX4_keptDeeds_0 w
theorem kX4_keptDeeds_13 : sr_is cX4_keptDeeds 13 iX4_keptDeeds_13 = true := sr_is_suf (as := aX4_keptDeeds_0) kX4_keptDeeds_0
theorem lX4_keptDeeds_13 {d : Nat} {L : sr_L} {st : List Value} {b : Nat × Nat} {h : sr_H} {P : Option Value → sr_H → Prop} (w : sr_wp mX4_keptDeeds d iX4_keptDeeds_13 13 L st b h P) : sr_Go mX4_keptDeeds d 13 L st b h P := sr_wp_go kX4_keptDeeds_13 w
theorem kX4_keptDeeds_22 : sr_is cX4_keptDeeds 22 iX4_keptDeeds_22 = true := sr_is_suf (as := aX4_keptDeeds_13) kX4_keptDeeds_13
theorem lX4_keptDeeds_22 {d : Nat} {L : sr_L} {st : List Value} {b : Nat × Nat} {h : sr_H} {P : Option Value → sr_H → Prop} (w : sr_wp mX4_keptDeeds d iX4_keptDeeds_22 22 L st b h P) : sr_Go mX4_keptDeeds d 22 L st b h P := sr_wp_go kX4_keptDeeds_22 w
def iX4_keptCount_26 : List (Instr × Nat × Nat) := [(.iload_n 1, 27, 0), (.ireturn, 28, 0)]
def aX4_keptCount_20 : List (Instr × Nat × Nat) := [(.iinc 2 1, 23, 0), (.goto (-19), 26, 4)]
def iX4_keptCount_20 : List (Instr × Nat × Nat) := aX4_keptCount_20 ++ iX4_keptCount_26
def aX4_keptCount_4 : List (Instr × Nat × Nat) := [(.iload_n 2, 5, 0), (.iconst 3, 6, 0), (.if_icmp .ge 20, 9, 26), (.aload_n 0, 10, 0), (.iload_n 2, 11, 0), (.invokevirtual 300, 14, 0), (.ifCond .lt 6, 17, 20), (.iinc 1 1, 20, 0)]
def iX4_keptCount_4 : List (Instr × Nat × Nat) := aX4_keptCount_4 ++ iX4_keptCount_20
def aX4_keptCount_0 : List (Instr × Nat × Nat) := [(.iconst 0, 1, 0), (.istore_n 1, 2, 0), (.iconst 0, 3, 0), (.istore_n 2, 4, 0)]
def iX4_keptCount_0 : List (Instr × Nat × Nat) := aX4_keptCount_0 ++ iX4_keptCount_4
theorem kX4_keptCount_0 : sr_is cX4_keptCount 0 iX4_keptCount_0 = true := by decide +kernel
theorem lX4_keptCount_0 {d : Nat} {L : sr_L} {st : List Value} {b : Nat × Nat} {h : sr_H} {P : Option Value → sr_H → Prop} (w : sr_wp mX4_keptCount d iX4_keptCount_0 0 L st b h P) : sr_Go mX4_keptCount d 0 L st b h P := sr_wp_go kX4_keptCount_0 w
theorem kX4_keptCount_4 : sr_is cX4_keptCount 4 iX4_keptCount_4 = true := sr_is_suf (as := aX4_keptCount_0) kX4_keptCount_0
theorem lX4_keptCount_4 {d : Nat} {L : sr_L} {st : List Value} {b : Nat × Nat} {h : sr_H} {P : Option Value → sr_H → Prop} (w : sr_wp mX4_keptCount d iX4_keptCount_4 4 L st b h P) : sr_Go mX4_keptCount d 4 L st b h P := sr_wp_go kX4_keptCount_4 w
theorem kX4_keptCount_20 : sr_is cX4_keptCount 20 iX4_keptCount_20 = true := sr_is_suf (as := aX4_keptCount_4) kX4_keptCount_4
theorem lX4_keptCount_20 {d : Nat} {L : sr_L} {st : List Value} {b : Nat × Nat} {h : sr_H} {P : Option Value → sr_H → Prop} (w : sr_wp mX4_keptCount d iX4_keptCount_20 20 L st b h P) : sr_Go mX4_keptCount d 20 L st b h P := sr_wp_go kX4_keptCount_20 w
theorem kX4_keptCount_26 : sr_is cX4_keptCount 26 iX4_keptCount_26 = true := sr_is_suf (as := aX4_keptCount_20) kX4_keptCount_20
theorem lX4_keptCount_26 {d : Nat} {L : sr_L} {st : List Value} {b : Nat × Nat} {h : sr_H} {P : Option Value → sr_H → Prop} (w : sr_wp mX4_keptCount d iX4_keptCount_26 26 L st b h P) : sr_Go mX4_keptCount d 26 L st b h P := sr_wp_go kX4_keptCount_26 w

