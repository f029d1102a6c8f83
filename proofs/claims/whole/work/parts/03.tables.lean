/-! link tables, by program out of tables_1 -/
/-- field types: 0 int, 1 long, 2 reference -/
def sr_fts : List (List Nat) := [[0, 0, 0, 2, 2, 2, 2, 2], [0, 0, 0, 2, 2, 2, 2], [2, 0, 0, 0], [0, 2, 2], [2, 2, 2, 2, 2, 2, 2, 2, 0, 2, 2, 0, 1, 1, 0, 2], [0, 2, 0, 1, 1, 2, 2, 2, 2, 2, 0, 0, 0, 2, 2, 2, 2, 0, 0, 0, 0, 2, 2, 2, 0, 2, 2, 2, 2, 2, 2, 2, 0, 1]]
def sr_mls_0 : List (Nat × Nat × sr_MD) := [(3, 3, mX0_clear), (37, 0, mX0_clear), (40, 0, mX0_addGuest), (44, 0, mX0_addThing), (58, 0, mX0_lifeCount), (62, 0, mX0_lastAsFirst), (51, 0, mX0_isOfKind), (55, 0, mX0_lifeHas)]
def sr_mls_1 : List (Nat × Nat × sr_MD) := [(3, 3, mX0_clear), (45, 0, mX1_carryOut), (49, 0, mX1_roomOf), (39, 4, mX0_clear)]
def sr_mls_2 : List (Nat × Nat × sr_MD) := [(3, 3, mX0_clear), (25, 0, mX3_sizeOf), (31, 0, mX0_clear), (36, 0, mX2_skipBlanks), (53, 0, mX2_here), (49, 0, mX3_placeOf), (39, 0, mX2_readTurns), (57, 0, mX2_figure), (43, 0, mX2_readItem), (63, 0, mX2_readThing), (79, 0, mX0_addThing), (66, 0, mX2_readGuest), (69, 1, mX2_kindByLetter), (75, 0, mX0_addGuest)]
def sr_mls_3 : List (Nat × Nat × sr_MD) := [(1, 3, mX0_clear), (20, 0, mX3_setPlace), (24, 4, mX0_clear), (30, 0, mX3_placeOf), (34, 0, mX3_isMissing)]
def sr_mls_4 : List (Nat × Nat × sr_MD) := [(1, 3, mX0_clear), (11, 2, mX3_init), (23, 2, mX2_init), (32, 5, mX0_init), (42, 5, mX1_init), (81, 0, mX4_makePaper), (108, 0, mX3_isNumber), (112, 0, mX4_found), (310, 0, mX3_make), (85, 0, mX4_refusalOfPlace), (100, 0, mX4_refusalOfPaper), (116, 0, mX3_isMissing), (313, 0, mX3_isPlace), (89, 0, mX3_placeOf), (93, 0, mX3_setPlace), (97, 0, mX4_tell), (104, 0, mX3_remove), (119, 0, mX3_arePlaces), (123, 0, mX3_copyPlaces), (127, 0, mX3_sizeOf), (130, 0, mX3_sumOf), (134, 0, mX2_read), (138, 0, mX0_takeOver), (142, 0, mX1_begin), (145, 0, mX4_forgetKept), (325, 0, mX1_forget), (151, 0, mX4_isGuest), (154, 0, mX4_factOf), (164, 0, mX4_secondLife), (267, 0, mX0_secondLifeAt), (194, 0, mX1_roomOf), (175, 0, mX1_lockedOf), (200, 0, mX1_hoursOf), (157, 0, mX0_isOfKind), (167, 1, mJ6_bitCount), (178, 0, mX0_soldiers), (182, 0, mX4_thingsIn), (219, 0, mX0_thingsOfLife), (191, 0, mX1_act), (203, 0, mX1_takeBackFrom), (206, 0, mX1_takeOver), (209, 0, mX1_isForgotten), (213, 1, mX4_firstBit), (216, 0, mX0_lifeCount), (222, 0, mX4_isThingSet), (225, 0, mX4_thingsByTurn), (228, 0, mX4_addDifference), (231, 0, mX4_fewestTellingApart), (322, 0, mX4_tellsApart), (237, 0, mX4_turnsWith), (248, 0, mX0_lifeHas), (240, 6, mX0_clear), (245, 0, mX4_isThing), (251, 0, mX4_isSecondOf), (254, 0, mX4_endsOfWalk), (257, 0, mX4_leadsOn), (260, 1, mX4_isLaw), (263, 0, mX4_billFor), (270, 0, mX4_tellShare), (316, 1, mX4_commonMeasure), (281, 0, mX4_actByLot), (287, 0, mX3_thereCount), (290, 0, mX4_keptCount), (300, 0, mX4_keptDeeds), (297, 0, mX4_count), (303, 0, mX3_digestFrom)]
def sr_mls_5 : List (Nat × Nat × sr_MD) := [(1, 3, mX0_clear), (80, 1, mX5_in), (90, 1, mX5_isRow), (94, 0, mX5_meets), (98, 0, mX5_rowAt), (102, 0, mX5_tells), (105, 1, mX5_isText), (142, 0, mX5_faultOf), (111, 0, mX5_byteAt), (139, 0, mX5_readsItem), (130, 0, mX5_readsTurns), (114, 0, mX5_figure), (133, 0, mX5_readsThing), (136, 0, mX5_readsGuest), (127, 1, mX5_kindOf), (174, 0, mX5_isGuest), (177, 0, mX5_guestTells), (171, 0, mX5_second), (164, 0, mX5_secondBy), (157, 0, mX5_allLives), (161, 1, mX5_withChoice), (183, 1, mX5_bits), (186, 0, mX5_soldiers), (180, 0, mX5_isSoldier), (189, 0, mX5_thingsOf), (167, 0, mX5_isHad), (192, 1, mX5_holds), (195, 0, mX5_remember), (198, 0, mX5_uses), (201, 0, mX5_roomOf), (204, 1, mX5_lowest), (207, 0, mX5_isThings), (213, 0, mX5_fewestBy), (210, 0, mX5_isTold), (217, 0, mX5_thereBy), (220, 0, mX5_isThing), (223, 0, mX5_isSecond), (229, 0, mX5_layRings), (233, 0, mX5_billOf), (237, 0, mX5_fraction), (249, 0, mX5_counted), (257, 0, mX5_mix), (265, 0, mX5_mixHotel)]
def sr_mls_6 : List (Nat × Nat × sr_MD) := [(9, 2, mX4_init), (13, 0, mX4_row), (18, 0, mX4_lay), (23, 0, mX4_at), (27, 0, mX4_tear), (32, 0, mX4_copy), (37, 0, mX4_mean), (41, 0, mX4_text), (45, 0, mX4_put), (49, 0, mX4_fault), (53, 0, mX4_hotel), (57, 0, mX4_guest), (61, 0, mX4_mark), (65, 0, mX4_turn), (69, 0, mX4_change), (73, 0, mX4_lock), (77, 0, mX4_use), (81, 0, mX4_undo), (85, 0, mX4_keep), (89, 0, mX4_on), (93, 0, mX4_things), (97, 0, mX4_both), (101, 0, mX4_apart), (105, 0, mX4_has), (109, 0, mX4_fits), (113, 0, mX4_looks), (117, 0, mX4_drawer), (121, 0, mX4_lives), (125, 0, mX4_nearest), (129, 0, mX4_twins), (133, 0, mX4_pairs), (138, 0, mX4_ring), (142, 0, mX4_who), (146, 0, mX4_marks), (150, 0, mX4_bill), (154, 0, mX4_pays), (158, 0, mX4_cheapest), (162, 0, mX4_spread), (166, 0, mX4_odds), (170, 0, mX4_lots), (174, 0, mX4_asked), (178, 0, mX4_upper), (183, 0, mX4_lower), (187, 0, mX4_count), (191, 0, mX4_finding), (195, 0, mX4_findings), (199, 0, mX4_digest), (12, 2, mX5_init), (194, 0, mX5_finding), (198, 0, mX5_findings), (177, 0, mX5_asked), (182, 0, mX5_upper), (186, 0, mX5_lower), (17, 0, mX5_row), (22, 0, mX5_lay), (26, 0, mX5_at), (31, 0, mX5_tear), (36, 0, mX5_copy), (40, 0, mX5_mean), (44, 0, mX5_text), (48, 0, mX5_put), (52, 0, mX5_fault), (56, 0, mX5_hotel), (60, 0, mX5_guest), (64, 0, mX5_mark), (68, 0, mX5_turn), (72, 0, mX5_change), (76, 0, mX5_lock), (80, 0, mX5_use), (84, 0, mX5_undo), (88, 0, mX5_keep), (92, 0, mX5_on), (96, 0, mX5_things), (100, 0, mX5_both), (104, 0, mX5_apart), (108, 0, mX5_has), (112, 0, mX5_fits), (116, 0, mX5_looks), (120, 0, mX5_drawer), (124, 0, mX5_lives), (128, 0, mX5_nearest), (132, 0, mX5_twins), (137, 0, mX5_pairs), (141, 0, mX5_ring), (145, 0, mX5_who), (149, 0, mX5_marks), (153, 0, mX5_bill), (157, 0, mX5_pays), (161, 0, mX5_cheapest), (165, 0, mX5_spread), (169, 0, mX5_odds), (173, 0, mX5_lots), (190, 0, mX5_count), (202, 0, mX5_digest)]
def sr_mls_7 : List (Nat × Nat × sr_MD) := []
def sr_mls_8 : List (Nat × Nat × sr_MD) := []
def sr_mls (own : Nat) : List (Nat × Nat × sr_MD) := match own with
  | 0 => sr_mls_0
  | 1 => sr_mls_1
  | 2 => sr_mls_2
  | 3 => sr_mls_3
  | 4 => sr_mls_4
  | 5 => sr_mls_5
  | 6 => sr_mls_6
  | 7 => sr_mls_7
  | _ => sr_mls_8
def sr_fls_0 : List (Nat × Nat × Nat) := [(9, 0, 0), (15, 0, 1), (18, 0, 2), (21, 0, 3), (25, 0, 4), (28, 0, 5), (31, 0, 6), (34, 0, 7)]
def sr_fls_1 : List (Nat × Nat × Nat) := [(34, 0, 5), (9, 1, 0), (15, 1, 1), (18, 1, 2), (21, 1, 3), (25, 1, 4), (28, 1, 5), (31, 1, 6)]
def sr_fls_2 : List (Nat × Nat × Nat) := [(21, 2, 0), (9, 2, 1), (15, 2, 2), (18, 2, 3), (60, 0, 0), (72, 0, 1), (46, 0, 2)]
def sr_fls_3 : List (Nat × Nat × Nat) := [(7, 3, 0), (13, 3, 1), (17, 3, 2)]
def sr_fls_4 : List (Nat × Nat × Nat) := [(307, 3, 0), (185, 0, 0), (148, 0, 1), (234, 0, 2), (319, 0, 3), (161, 0, 4), (188, 1, 0), (284, 1, 1), (197, 1, 2), (172, 1, 3), (14, 4, 0), (18, 4, 1), (26, 4, 2), (33, 4, 3), (37, 4, 4), (43, 4, 5), (47, 4, 6), (51, 4, 7), (55, 4, 8), (59, 4, 9), (62, 4, 10), (65, 4, 11), (68, 4, 12), (72, 4, 13), (75, 4, 14), (78, 4, 15)]
def sr_fls_5 : List (Nat × Nat × Nat) := [(76, 5, 0), (7, 5, 1), (84, 5, 2), (87, 5, 3), (13, 5, 4), (17, 5, 5), (20, 5, 6), (23, 5, 7), (26, 5, 8), (29, 5, 9), (145, 5, 10), (148, 5, 11), (151, 5, 12), (33, 5, 13), (36, 5, 14), (39, 5, 15), (42, 5, 16), (108, 5, 17), (121, 5, 18), (118, 5, 19), (124, 5, 20), (45, 5, 21), (48, 5, 22), (51, 5, 23), (154, 5, 24), (54, 5, 25), (57, 5, 26), (61, 5, 27), (64, 5, 28), (67, 5, 29), (70, 5, 30), (73, 5, 31), (226, 5, 32), (254, 5, 33)]
def sr_fls_6 : List (Nat × Nat × Nat) := []
def sr_fls_7 : List (Nat × Nat × Nat) := []
def sr_fls_8 : List (Nat × Nat × Nat) := []
def sr_fls (own : Nat) : List (Nat × Nat × Nat) := match own with
  | 0 => sr_fls_0
  | 1 => sr_fls_1
  | 2 => sr_fls_2
  | 3 => sr_fls_3
  | 4 => sr_fls_4
  | 5 => sr_fls_5
  | 6 => sr_fls_6
  | 7 => sr_fls_7
  | _ => sr_fls_8
def sr_nls_0 : List (Nat × Nat) := []
def sr_nls_1 : List (Nat × Nat) := []
def sr_nls_2 : List (Nat × Nat) := []
def sr_nls_3 : List (Nat × Nat) := []
def sr_nls_4 : List (Nat × Nat) := [(7, 3), (21, 2), (30, 0), (40, 1)]
def sr_nls_5 : List (Nat × Nat) := []
def sr_nls_6 : List (Nat × Nat) := [(7, 4), (10, 5)]
def sr_nls_7 : List (Nat × Nat) := []
def sr_nls_8 : List (Nat × Nat) := []
def sr_nls (own : Nat) : List (Nat × Nat) := match own with
  | 0 => sr_nls_0
  | 1 => sr_nls_1
  | 2 => sr_nls_2
  | 3 => sr_nls_3
  | 4 => sr_nls_4
  | 5 => sr_nls_5
  | 6 => sr_nls_6
  | 7 => sr_nls_7
  | _ => sr_nls_8
def sr_ics_0 : List (Nat × Int32) := []
def sr_ics_1 : List (Nat × Int32) := []
def sr_ics_2 : List (Nat × Int32) := []
def sr_ics_3 : List (Nat × Int32) := []
def sr_ics_4 : List (Nat × Int32) := []
def sr_ics_5 : List (Nat × Int32) := [(216, 1000000), (240, 2147483646)]
def sr_ics_6 : List (Nat × Int32) := []
def sr_ics_7 : List (Nat × Int32) := [(265, 1431655765), (266, 858993459), (267, 252645135)]
def sr_ics_8 : List (Nat × Int32) := []
def sr_ics (own : Nat) : List (Nat × Int32) := match own with
  | 0 => sr_ics_0
  | 1 => sr_ics_1
  | 2 => sr_ics_2
  | 3 => sr_ics_3
  | 4 => sr_ics_4
  | 5 => sr_ics_5
  | 6 => sr_ics_6
  | 7 => sr_ics_7
  | _ => sr_ics_8
def sr_lcs_0 : List (Nat × Int64) := []
def sr_lcs_1 : List (Nat × Int64) := []
def sr_lcs_2 : List (Nat × Int64) := []
def sr_lcs_3 : List (Nat × Int64) := [(38, 31)]
def sr_lcs_4 : List (Nat × Int64) := [(273, 2147483647), (275, 48271), (277, 16), (279, 4), (293, 17), (295, 31)]
def sr_lcs_5 : List (Nat × Int64) := [(241, 48271), (243, 2147483647), (245, 16), (247, 4), (263, 17), (252, 31), (261, -1)]
def sr_lcs_6 : List (Nat × Int64) := []
def sr_lcs_7 : List (Nat × Int64) := []
def sr_lcs_8 : List (Nat × Int64) := []
def sr_lcs (own : Nat) : List (Nat × Int64) := match own with
  | 0 => sr_lcs_0
  | 1 => sr_lcs_1
  | 2 => sr_lcs_2
  | 3 => sr_lcs_3
  | 4 => sr_lcs_4
  | 5 => sr_lcs_5
  | 6 => sr_lcs_6
  | 7 => sr_lcs_7
  | _ => sr_lcs_8
def sr_sls_0 : List (Nat × Nat) := [(48, 1)]
def sr_sls_1 : List (Nat × Nat) := []
def sr_sls_2 : List (Nat × Nat) := [(83, 0)]
def sr_sls_3 : List (Nat × Nat) := []
def sr_sls_4 : List (Nat × Nat) := []
def sr_sls_5 : List (Nat × Nat) := []
def sr_sls_6 : List (Nat × Nat) := []
def sr_sls_7 : List (Nat × Nat) := []
def sr_sls_8 : List (Nat × Nat) := []
def sr_sls (own : Nat) : List (Nat × Nat) := match own with
  | 0 => sr_sls_0
  | 1 => sr_sls_1
  | 2 => sr_sls_2
  | 3 => sr_sls_3
  | 4 => sr_sls_4
  | 5 => sr_sls_5
  | 6 => sr_sls_6
  | 7 => sr_sls_7
  | _ => sr_sls_8
theorem sr_lookup {β : Type} {l : List (Nat × β)} {i : Nat} {v : β} (h : l.lookup i = some v) : (i, v) ∈ l := by
  induction l with
  | nil => simp at h
  | cons a t ih =>
    obtain ⟨k, w⟩ := a
    rw [List.lookup_cons] at h
    by_cases hk : i == k
    · rw [hk] at h
      have e : i = k := by simpa using hk
      cases h
      rw [e]
      exact List.mem_cons_self
    · simp only [hk] at h
      exact List.mem_cons_of_mem _ (ih h)
/-- what the tables say of a method: its code; a virtual, a static one, a constructor -/
def sr_okY (md : sr_MD) : Prop := Cond.code md.2.1 md.2.2.1 md.2.2.2.1 md.2.2.2.2.1 ∈ lw_tbl ∧ Cond.initialized md.2.1.cls ∈ lw_tbl ∧ md.2.1.cls = sr_R md.1 ∧ plainName md.2.1.cls = true ∧ md.2.2.2.1 ≤ 20 ∧ (md.2.1.cls ≠ "java/lang/invoke/MethodHandle" ∧ md.2.1.cls ≠ "java/lang/invoke/VarHandle" ∧ (parseMethodDescriptor md.2.1.desc).map (fun d => d.parameters.length) = some md.2.2.2.2.2.1)
def sr_okV (md : sr_MD) : Prop := sr_okY md ∧ Cond.instanceMethod md.2.1 ∈ lw_tbl ∧ Cond.selects md.2.1.cls md.2.1 md.2.1 ∈ lw_tbl ∧ md.1 < 6
def sr_okS (md : sr_MD) : Prop := sr_okY md ∧ Cond.static md.2.1 ∈ lw_tbl
def sr_okI (md : sr_MD) : Prop := sr_okY md ∧ Cond.instanceMethod md.2.1 ∈ lw_tbl ∧ md.2.1.name = "<init>" ∧ md.2.2.2.2.1 = none
theorem sr_y_X0_init : sr_okY mX0_init := ⟨List.mem_append_right _ (List.mem_of_getElem? (i := 59) (by decide +kernel)), List.mem_append_right _ (List.mem_of_getElem? (i := 4) (by decide +kernel)), rfl, by decide +kernel, by decide, by decide +kernel⟩
theorem sr_k_X0_init : sr_okI mX0_init := ⟨sr_y_X0_init, List.mem_append_right _ (List.mem_of_getElem? (i := 58) (by decide +kernel)), rfl, rfl⟩
theorem sr_y_X0_clear : sr_okY mX0_clear := ⟨List.mem_append_right _ (List.mem_of_getElem? (i := 290) (by decide +kernel)), List.mem_append_right _ (List.mem_of_getElem? (i := 4) (by decide +kernel)), rfl, by decide +kernel, by decide, by decide +kernel⟩
theorem sr_k_X0_clear : sr_okV mX0_clear := ⟨sr_y_X0_clear, List.mem_append_right _ (List.mem_of_getElem? (i := 288) (by decide +kernel)), List.mem_append_right _ (List.mem_of_getElem? (i := 289) (by decide +kernel)), by decide⟩
theorem sr_y_X0_addGuest : sr_okY mX0_addGuest := ⟨List.mem_append_right _ (List.mem_of_getElem? (i := 332) (by decide +kernel)), List.mem_append_right _ (List.mem_of_getElem? (i := 4) (by decide +kernel)), rfl, by decide +kernel, by decide, by decide +kernel⟩
theorem sr_k_X0_addGuest : sr_okV mX0_addGuest := ⟨sr_y_X0_addGuest, List.mem_append_right _ (List.mem_of_getElem? (i := 330) (by decide +kernel)), List.mem_append_right _ (List.mem_of_getElem? (i := 331) (by decide +kernel)), by decide⟩
theorem sr_y_X0_addThing : sr_okY mX0_addThing := ⟨List.mem_append_right _ (List.mem_of_getElem? (i := 319) (by decide +kernel)), List.mem_append_right _ (List.mem_of_getElem? (i := 4) (by decide +kernel)), rfl, by decide +kernel, by decide, by decide +kernel⟩
theorem sr_k_X0_addThing : sr_okV mX0_addThing := ⟨sr_y_X0_addThing, List.mem_append_right _ (List.mem_of_getElem? (i := 317) (by decide +kernel)), List.mem_append_right _ (List.mem_of_getElem? (i := 318) (by decide +kernel)), by decide⟩
theorem sr_y_X0_takeOver : sr_okY mX0_takeOver := ⟨List.mem_append_right _ (List.mem_of_getElem? (i := 340) (by decide +kernel)), List.mem_append_right _ (List.mem_of_getElem? (i := 4) (by decide +kernel)), rfl, by decide +kernel, by decide, by decide +kernel⟩
theorem sr_k_X0_takeOver : sr_okV mX0_takeOver := ⟨sr_y_X0_takeOver, List.mem_append_right _ (List.mem_of_getElem? (i := 338) (by decide +kernel)), List.mem_append_right _ (List.mem_of_getElem? (i := 339) (by decide +kernel)), by decide⟩
theorem sr_y_X0_lifeCount : sr_okY mX0_lifeCount := ⟨List.mem_append_right _ (List.mem_of_getElem? (i := 379) (by decide +kernel)), List.mem_append_right _ (List.mem_of_getElem? (i := 4) (by decide +kernel)), rfl, by decide +kernel, by decide, by decide +kernel⟩
theorem sr_k_X0_lifeCount : sr_okV mX0_lifeCount := ⟨sr_y_X0_lifeCount, List.mem_append_right _ (List.mem_of_getElem? (i := 377) (by decide +kernel)), List.mem_append_right _ (List.mem_of_getElem? (i := 378) (by decide +kernel)), by decide⟩
theorem sr_y_X0_isOfKind : sr_okY mX0_isOfKind := ⟨List.mem_append_right _ (List.mem_of_getElem? (i := 403) (by decide +kernel)), List.mem_append_right _ (List.mem_of_getElem? (i := 4) (by decide +kernel)), rfl, by decide +kernel, by decide, by decide +kernel⟩
theorem sr_k_X0_isOfKind : sr_okV mX0_isOfKind := ⟨sr_y_X0_isOfKind, List.mem_append_right _ (List.mem_of_getElem? (i := 401) (by decide +kernel)), List.mem_append_right _ (List.mem_of_getElem? (i := 402) (by decide +kernel)), by decide⟩
theorem sr_y_X0_soldiers : sr_okY mX0_soldiers := ⟨List.mem_append_right _ (List.mem_of_getElem? (i := 415) (by decide +kernel)), List.mem_append_right _ (List.mem_of_getElem? (i := 4) (by decide +kernel)), rfl, by decide +kernel, by decide, by decide +kernel⟩
theorem sr_k_X0_soldiers : sr_okV mX0_soldiers := ⟨sr_y_X0_soldiers, List.mem_append_right _ (List.mem_of_getElem? (i := 413) (by decide +kernel)), List.mem_append_right _ (List.mem_of_getElem? (i := 414) (by decide +kernel)), by decide⟩
theorem sr_y_X0_lifeHas : sr_okY mX0_lifeHas := ⟨List.mem_append_right _ (List.mem_of_getElem? (i := 428) (by decide +kernel)), List.mem_append_right _ (List.mem_of_getElem? (i := 4) (by decide +kernel)), rfl, by decide +kernel, by decide, by decide +kernel⟩
theorem sr_k_X0_lifeHas : sr_okV mX0_lifeHas := ⟨sr_y_X0_lifeHas, List.mem_append_right _ (List.mem_of_getElem? (i := 426) (by decide +kernel)), List.mem_append_right _ (List.mem_of_getElem? (i := 427) (by decide +kernel)), by decide⟩
theorem sr_y_X0_thingsOfLife : sr_okY mX0_thingsOfLife := ⟨List.mem_append_right _ (List.mem_of_getElem? (i := 424) (by decide +kernel)), List.mem_append_right _ (List.mem_of_getElem? (i := 4) (by decide +kernel)), rfl, by decide +kernel, by decide, by decide +kernel⟩
theorem sr_k_X0_thingsOfLife : sr_okV mX0_thingsOfLife := ⟨sr_y_X0_thingsOfLife, List.mem_append_right _ (List.mem_of_getElem? (i := 422) (by decide +kernel)), List.mem_append_right _ (List.mem_of_getElem? (i := 423) (by decide +kernel)), by decide⟩
theorem sr_y_X0_secondLifeAt : sr_okY mX0_secondLifeAt := ⟨List.mem_append_right _ (List.mem_of_getElem? (i := 375) (by decide +kernel)), List.mem_append_right _ (List.mem_of_getElem? (i := 4) (by decide +kernel)), rfl, by decide +kernel, by decide, by decide +kernel⟩
theorem sr_k_X0_secondLifeAt : sr_okV mX0_secondLifeAt := ⟨sr_y_X0_secondLifeAt, List.mem_append_right _ (List.mem_of_getElem? (i := 373) (by decide +kernel)), List.mem_append_right _ (List.mem_of_getElem? (i := 374) (by decide +kernel)), by decide⟩
theorem sr_y_X0_lastAsFirst : sr_okY mX0_lastAsFirst := ⟨List.mem_append_right _ (List.mem_of_getElem? (i := 383) (by decide +kernel)), List.mem_append_right _ (List.mem_of_getElem? (i := 4) (by decide +kernel)), rfl, by decide +kernel, by decide, by decide +kernel⟩
theorem sr_k_X0_lastAsFirst : sr_okV mX0_lastAsFirst := ⟨sr_y_X0_lastAsFirst, List.mem_append_right _ (List.mem_of_getElem? (i := 382) (by decide +kernel)), List.mem_append_left _ (List.mem_of_getElem? (i := 16) (by decide +kernel)), by decide⟩
theorem sr_y_X1_init : sr_okY mX1_init := ⟨List.mem_append_right _ (List.mem_of_getElem? (i := 99) (by decide +kernel)), List.mem_append_right _ (List.mem_of_getElem? (i := 5) (by decide +kernel)), rfl, by decide +kernel, by decide, by decide +kernel⟩
theorem sr_k_X1_init : sr_okI mX1_init := ⟨sr_y_X1_init, List.mem_append_right _ (List.mem_of_getElem? (i := 98) (by decide +kernel)), rfl, rfl⟩
theorem sr_y_X1_isForgotten : sr_okY mX1_isForgotten := ⟨List.mem_append_right _ (List.mem_of_getElem? (i := 478) (by decide +kernel)), List.mem_append_right _ (List.mem_of_getElem? (i := 5) (by decide +kernel)), rfl, by decide +kernel, by decide, by decide +kernel⟩
theorem sr_k_X1_isForgotten : sr_okV mX1_isForgotten := ⟨sr_y_X1_isForgotten, List.mem_append_right _ (List.mem_of_getElem? (i := 476) (by decide +kernel)), List.mem_append_right _ (List.mem_of_getElem? (i := 477) (by decide +kernel)), by decide⟩
theorem sr_y_X1_forget : sr_okY mX1_forget := ⟨List.mem_append_right _ (List.mem_of_getElem? (i := 355) (by decide +kernel)), List.mem_append_right _ (List.mem_of_getElem? (i := 5) (by decide +kernel)), rfl, by decide +kernel, by decide, by decide +kernel⟩
theorem sr_k_X1_forget : sr_okV mX1_forget := ⟨sr_y_X1_forget, List.mem_append_right _ (List.mem_of_getElem? (i := 353) (by decide +kernel)), List.mem_append_right _ (List.mem_of_getElem? (i := 354) (by decide +kernel)), by decide⟩
theorem sr_y_X1_begin : sr_okY mX1_begin := ⟨List.mem_append_right _ (List.mem_of_getElem? (i := 347) (by decide +kernel)), List.mem_append_right _ (List.mem_of_getElem? (i := 5) (by decide +kernel)), rfl, by decide +kernel, by decide, by decide +kernel⟩
theorem sr_k_X1_begin : sr_okV mX1_begin := ⟨sr_y_X1_begin, List.mem_append_right _ (List.mem_of_getElem? (i := 345) (by decide +kernel)), List.mem_append_right _ (List.mem_of_getElem? (i := 346) (by decide +kernel)), by decide⟩
theorem sr_y_X1_takeOver : sr_okY mX1_takeOver := ⟨List.mem_append_right _ (List.mem_of_getElem? (i := 469) (by decide +kernel)), List.mem_append_right _ (List.mem_of_getElem? (i := 5) (by decide +kernel)), rfl, by decide +kernel, by decide, by decide +kernel⟩
theorem sr_k_X1_takeOver : sr_okV mX1_takeOver := ⟨sr_y_X1_takeOver, List.mem_append_right _ (List.mem_of_getElem? (i := 467) (by decide +kernel)), List.mem_append_right _ (List.mem_of_getElem? (i := 468) (by decide +kernel)), by decide⟩
theorem sr_y_X1_roomOf : sr_okY mX1_roomOf := ⟨List.mem_append_right _ (List.mem_of_getElem? (i := 387) (by decide +kernel)), List.mem_append_right _ (List.mem_of_getElem? (i := 5) (by decide +kernel)), rfl, by decide +kernel, by decide, by decide +kernel⟩
theorem sr_k_X1_roomOf : sr_okV mX1_roomOf := ⟨sr_y_X1_roomOf, List.mem_append_right _ (List.mem_of_getElem? (i := 385) (by decide +kernel)), List.mem_append_right _ (List.mem_of_getElem? (i := 386) (by decide +kernel)), by decide⟩
theorem sr_y_X1_lockedOf : sr_okY mX1_lockedOf := ⟨List.mem_append_right _ (List.mem_of_getElem? (i := 391) (by decide +kernel)), List.mem_append_right _ (List.mem_of_getElem? (i := 5) (by decide +kernel)), rfl, by decide +kernel, by decide, by decide +kernel⟩
theorem sr_k_X1_lockedOf : sr_okV mX1_lockedOf := ⟨sr_y_X1_lockedOf, List.mem_append_right _ (List.mem_of_getElem? (i := 389) (by decide +kernel)), List.mem_append_right _ (List.mem_of_getElem? (i := 390) (by decide +kernel)), by decide⟩
theorem sr_y_X1_hoursOf : sr_okY mX1_hoursOf := ⟨List.mem_append_right _ (List.mem_of_getElem? (i := 395) (by decide +kernel)), List.mem_append_right _ (List.mem_of_getElem? (i := 5) (by decide +kernel)), rfl, by decide +kernel, by decide, by decide +kernel⟩
theorem sr_k_X1_hoursOf : sr_okV mX1_hoursOf := ⟨sr_y_X1_hoursOf, List.mem_append_right _ (List.mem_of_getElem? (i := 393) (by decide +kernel)), List.mem_append_right _ (List.mem_of_getElem? (i := 394) (by decide +kernel)), by decide⟩
theorem sr_y_X1_act : sr_okY mX1_act := ⟨List.mem_append_right _ (List.mem_of_getElem? (i := 440) (by decide +kernel)), List.mem_append_right _ (List.mem_of_getElem? (i := 5) (by decide +kernel)), rfl, by decide +kernel, by decide, by decide +kernel⟩
theorem sr_k_X1_act : sr_okV mX1_act := ⟨sr_y_X1_act, List.mem_append_right _ (List.mem_of_getElem? (i := 438) (by decide +kernel)), List.mem_append_right _ (List.mem_of_getElem? (i := 439) (by decide +kernel)), by decide⟩
theorem sr_y_X1_takeBackFrom : sr_okY mX1_takeBackFrom := ⟨List.mem_append_right _ (List.mem_of_getElem? (i := 461) (by decide +kernel)), List.mem_append_right _ (List.mem_of_getElem? (i := 5) (by decide +kernel)), rfl, by decide +kernel, by decide, by decide +kernel⟩
theorem sr_k_X1_takeBackFrom : sr_okV mX1_takeBackFrom := ⟨sr_y_X1_takeBackFrom, List.mem_append_right _ (List.mem_of_getElem? (i := 459) (by decide +kernel)), List.mem_append_right _ (List.mem_of_getElem? (i := 460) (by decide +kernel)), by decide⟩
theorem sr_y_X1_carryOut : sr_okY mX1_carryOut := ⟨List.mem_append_right _ (List.mem_of_getElem? (i := 444) (by decide +kernel)), List.mem_append_right _ (List.mem_of_getElem? (i := 5) (by decide +kernel)), rfl, by decide +kernel, by decide, by decide +kernel⟩
theorem sr_k_X1_carryOut : sr_okV mX1_carryOut := ⟨sr_y_X1_carryOut, List.mem_append_right _ (List.mem_of_getElem? (i := 443) (by decide +kernel)), List.mem_append_left _ (List.mem_of_getElem? (i := 18) (by decide +kernel)), by decide⟩
theorem sr_y_X2_init : sr_okY mX2_init := ⟨List.mem_append_right _ (List.mem_of_getElem? (i := 40) (by decide +kernel)), List.mem_append_right _ (List.mem_of_getElem? (i := 3) (by decide +kernel)), rfl, by decide +kernel, by decide, by decide +kernel⟩
theorem sr_k_X2_init : sr_okI mX2_init := ⟨sr_y_X2_init, List.mem_append_right _ (List.mem_of_getElem? (i := 39) (by decide +kernel)), rfl, rfl⟩
theorem sr_y_X2_read : sr_okY mX2_read := ⟨List.mem_append_right _ (List.mem_of_getElem? (i := 285) (by decide +kernel)), List.mem_append_right _ (List.mem_of_getElem? (i := 3) (by decide +kernel)), rfl, by decide +kernel, by decide, by decide +kernel⟩
theorem sr_k_X2_read : sr_okV mX2_read := ⟨sr_y_X2_read, List.mem_append_right _ (List.mem_of_getElem? (i := 283) (by decide +kernel)), List.mem_append_right _ (List.mem_of_getElem? (i := 284) (by decide +kernel)), by decide⟩
theorem sr_y_X2_here : sr_okY mX2_here := ⟨List.mem_append_right _ (List.mem_of_getElem? (i := 298) (by decide +kernel)), List.mem_append_right _ (List.mem_of_getElem? (i := 3) (by decide +kernel)), rfl, by decide +kernel, by decide, by decide +kernel⟩
theorem sr_k_X2_here : sr_okV mX2_here := ⟨sr_y_X2_here, List.mem_append_right _ (List.mem_of_getElem? (i := 297) (by decide +kernel)), List.mem_append_left _ (List.mem_of_getElem? (i := 6) (by decide +kernel)), by decide⟩
theorem sr_y_X2_skipBlanks : sr_okY mX2_skipBlanks := ⟨List.mem_append_right _ (List.mem_of_getElem? (i := 294) (by decide +kernel)), List.mem_append_right _ (List.mem_of_getElem? (i := 3) (by decide +kernel)), rfl, by decide +kernel, by decide, by decide +kernel⟩
theorem sr_k_X2_skipBlanks : sr_okV mX2_skipBlanks := ⟨sr_y_X2_skipBlanks, List.mem_append_right _ (List.mem_of_getElem? (i := 293) (by decide +kernel)), List.mem_append_left _ (List.mem_of_getElem? (i := 5) (by decide +kernel)), by decide⟩
theorem sr_y_X2_figure : sr_okY mX2_figure := ⟨List.mem_append_right _ (List.mem_of_getElem? (i := 307) (by decide +kernel)), List.mem_append_right _ (List.mem_of_getElem? (i := 3) (by decide +kernel)), rfl, by decide +kernel, by decide, by decide +kernel⟩
theorem sr_k_X2_figure : sr_okV mX2_figure := ⟨sr_y_X2_figure, List.mem_append_right _ (List.mem_of_getElem? (i := 306) (by decide +kernel)), List.mem_append_left _ (List.mem_of_getElem? (i := 8) (by decide +kernel)), by decide⟩
theorem sr_y_X2_readTurns : sr_okY mX2_readTurns := ⟨List.mem_append_right _ (List.mem_of_getElem? (i := 303) (by decide +kernel)), List.mem_append_right _ (List.mem_of_getElem? (i := 3) (by decide +kernel)), rfl, by decide +kernel, by decide, by decide +kernel⟩
theorem sr_k_X2_readTurns : sr_okV mX2_readTurns := ⟨sr_y_X2_readTurns, List.mem_append_right _ (List.mem_of_getElem? (i := 302) (by decide +kernel)), List.mem_append_left _ (List.mem_of_getElem? (i := 7) (by decide +kernel)), by decide⟩
theorem sr_y_X2_readItem : sr_okY mX2_readItem := ⟨List.mem_append_right _ (List.mem_of_getElem? (i := 311) (by decide +kernel)), List.mem_append_right _ (List.mem_of_getElem? (i := 3) (by decide +kernel)), rfl, by decide +kernel, by decide, by decide +kernel⟩
theorem sr_k_X2_readItem : sr_okV mX2_readItem := ⟨sr_y_X2_readItem, List.mem_append_right _ (List.mem_of_getElem? (i := 310) (by decide +kernel)), List.mem_append_left _ (List.mem_of_getElem? (i := 9) (by decide +kernel)), by decide⟩
theorem sr_y_X2_readGuest : sr_okY mX2_readGuest := ⟨List.mem_append_right _ (List.mem_of_getElem? (i := 323) (by decide +kernel)), List.mem_append_right _ (List.mem_of_getElem? (i := 3) (by decide +kernel)), rfl, by decide +kernel, by decide, by decide +kernel⟩
theorem sr_k_X2_readGuest : sr_okV mX2_readGuest := ⟨sr_y_X2_readGuest, List.mem_append_right _ (List.mem_of_getElem? (i := 322) (by decide +kernel)), List.mem_append_left _ (List.mem_of_getElem? (i := 11) (by decide +kernel)), by decide⟩
theorem sr_y_X2_readThing : sr_okY mX2_readThing := ⟨List.mem_append_right _ (List.mem_of_getElem? (i := 315) (by decide +kernel)), List.mem_append_right _ (List.mem_of_getElem? (i := 3) (by decide +kernel)), rfl, by decide +kernel, by decide, by decide +kernel⟩
theorem sr_k_X2_readThing : sr_okV mX2_readThing := ⟨sr_y_X2_readThing, List.mem_append_right _ (List.mem_of_getElem? (i := 314) (by decide +kernel)), List.mem_append_left _ (List.mem_of_getElem? (i := 10) (by decide +kernel)), by decide⟩
theorem sr_y_X2_kindByLetter : sr_okY mX2_kindByLetter := ⟨List.mem_append_right _ (List.mem_of_getElem? (i := 326) (by decide +kernel)), List.mem_append_right _ (List.mem_of_getElem? (i := 3) (by decide +kernel)), rfl, by decide +kernel, by decide, by decide +kernel⟩
theorem sr_k_X2_kindByLetter : sr_okS mX2_kindByLetter := ⟨sr_y_X2_kindByLetter, List.mem_append_right _ (List.mem_of_getElem? (i := 325) (by decide +kernel))⟩
theorem sr_y_X3_init : sr_okY mX3_init := ⟨List.mem_append_right _ (List.mem_of_getElem? (i := 22) (by decide +kernel)), List.mem_append_right _ (List.mem_of_getElem? (i := 2) (by decide +kernel)), rfl, by decide +kernel, by decide, by decide +kernel⟩
theorem sr_k_X3_init : sr_okI mX3_init := ⟨sr_y_X3_init, List.mem_append_right _ (List.mem_of_getElem? (i := 21) (by decide +kernel)), rfl, rfl⟩
theorem sr_y_X3_isNumber : sr_okY mX3_isNumber := ⟨List.mem_append_right _ (List.mem_of_getElem? (i := 188) (by decide +kernel)), List.mem_append_right _ (List.mem_of_getElem? (i := 2) (by decide +kernel)), rfl, by decide +kernel, by decide, by decide +kernel⟩
theorem sr_k_X3_isNumber : sr_okV mX3_isNumber := ⟨sr_y_X3_isNumber, List.mem_append_right _ (List.mem_of_getElem? (i := 186) (by decide +kernel)), List.mem_append_right _ (List.mem_of_getElem? (i := 187) (by decide +kernel)), by decide⟩
theorem sr_y_X3_isMissing : sr_okY mX3_isMissing := ⟨List.mem_append_right _ (List.mem_of_getElem? (i := 216) (by decide +kernel)), List.mem_append_right _ (List.mem_of_getElem? (i := 2) (by decide +kernel)), rfl, by decide +kernel, by decide, by decide +kernel⟩
theorem sr_k_X3_isMissing : sr_okV mX3_isMissing := ⟨sr_y_X3_isMissing, List.mem_append_right _ (List.mem_of_getElem? (i := 214) (by decide +kernel)), List.mem_append_right _ (List.mem_of_getElem? (i := 215) (by decide +kernel)), by decide⟩
theorem sr_y_X3_isPlace : sr_okY mX3_isPlace := ⟨List.mem_append_right _ (List.mem_of_getElem? (i := 220) (by decide +kernel)), List.mem_append_right _ (List.mem_of_getElem? (i := 2) (by decide +kernel)), rfl, by decide +kernel, by decide, by decide +kernel⟩
theorem sr_k_X3_isPlace : sr_okV mX3_isPlace := ⟨sr_y_X3_isPlace, List.mem_append_right _ (List.mem_of_getElem? (i := 218) (by decide +kernel)), List.mem_append_right _ (List.mem_of_getElem? (i := 219) (by decide +kernel)), by decide⟩
theorem sr_y_X3_arePlaces : sr_okY mX3_arePlaces := ⟨List.mem_append_right _ (List.mem_of_getElem? (i := 249) (by decide +kernel)), List.mem_append_right _ (List.mem_of_getElem? (i := 2) (by decide +kernel)), rfl, by decide +kernel, by decide, by decide +kernel⟩
theorem sr_k_X3_arePlaces : sr_okV mX3_arePlaces := ⟨sr_y_X3_arePlaces, List.mem_append_right _ (List.mem_of_getElem? (i := 247) (by decide +kernel)), List.mem_append_right _ (List.mem_of_getElem? (i := 248) (by decide +kernel)), by decide⟩
theorem sr_y_X3_sizeOf : sr_okY mX3_sizeOf := ⟨List.mem_append_right _ (List.mem_of_getElem? (i := 264) (by decide +kernel)), List.mem_append_right _ (List.mem_of_getElem? (i := 2) (by decide +kernel)), rfl, by decide +kernel, by decide, by decide +kernel⟩
theorem sr_k_X3_sizeOf : sr_okV mX3_sizeOf := ⟨sr_y_X3_sizeOf, List.mem_append_right _ (List.mem_of_getElem? (i := 262) (by decide +kernel)), List.mem_append_right _ (List.mem_of_getElem? (i := 263) (by decide +kernel)), by decide⟩
theorem sr_y_X3_placeOf : sr_okY mX3_placeOf := ⟨List.mem_append_right _ (List.mem_of_getElem? (i := 224) (by decide +kernel)), List.mem_append_right _ (List.mem_of_getElem? (i := 2) (by decide +kernel)), rfl, by decide +kernel, by decide, by decide +kernel⟩
theorem sr_k_X3_placeOf : sr_okV mX3_placeOf := ⟨sr_y_X3_placeOf, List.mem_append_right _ (List.mem_of_getElem? (i := 222) (by decide +kernel)), List.mem_append_right _ (List.mem_of_getElem? (i := 223) (by decide +kernel)), by decide⟩
theorem sr_y_X3_setPlace : sr_okY mX3_setPlace := ⟨List.mem_append_right _ (List.mem_of_getElem? (i := 200) (by decide +kernel)), List.mem_append_right _ (List.mem_of_getElem? (i := 2) (by decide +kernel)), rfl, by decide +kernel, by decide, by decide +kernel⟩
theorem sr_k_X3_setPlace : sr_okV mX3_setPlace := ⟨sr_y_X3_setPlace, List.mem_append_right _ (List.mem_of_getElem? (i := 198) (by decide +kernel)), List.mem_append_right _ (List.mem_of_getElem? (i := 199) (by decide +kernel)), by decide⟩
theorem sr_y_X3_make : sr_okY mX3_make := ⟨List.mem_append_right _ (List.mem_of_getElem? (i := 196) (by decide +kernel)), List.mem_append_right _ (List.mem_of_getElem? (i := 2) (by decide +kernel)), rfl, by decide +kernel, by decide, by decide +kernel⟩
theorem sr_k_X3_make : sr_okV mX3_make := ⟨sr_y_X3_make, List.mem_append_right _ (List.mem_of_getElem? (i := 194) (by decide +kernel)), List.mem_append_right _ (List.mem_of_getElem? (i := 195) (by decide +kernel)), by decide⟩
theorem sr_y_X3_remove : sr_okY mX3_remove := ⟨List.mem_append_right _ (List.mem_of_getElem? (i := 241) (by decide +kernel)), List.mem_append_right _ (List.mem_of_getElem? (i := 2) (by decide +kernel)), rfl, by decide +kernel, by decide, by decide +kernel⟩
theorem sr_k_X3_remove : sr_okV mX3_remove := ⟨sr_y_X3_remove, List.mem_append_right _ (List.mem_of_getElem? (i := 239) (by decide +kernel)), List.mem_append_right _ (List.mem_of_getElem? (i := 240) (by decide +kernel)), by decide⟩
theorem sr_y_X3_copyPlaces : sr_okY mX3_copyPlaces := ⟨List.mem_append_right _ (List.mem_of_getElem? (i := 253) (by decide +kernel)), List.mem_append_right _ (List.mem_of_getElem? (i := 2) (by decide +kernel)), rfl, by decide +kernel, by decide, by decide +kernel⟩
theorem sr_k_X3_copyPlaces : sr_okV mX3_copyPlaces := ⟨sr_y_X3_copyPlaces, List.mem_append_right _ (List.mem_of_getElem? (i := 251) (by decide +kernel)), List.mem_append_right _ (List.mem_of_getElem? (i := 252) (by decide +kernel)), by decide⟩
theorem sr_y_X3_sumOf : sr_okY mX3_sumOf := ⟨List.mem_append_right _ (List.mem_of_getElem? (i := 268) (by decide +kernel)), List.mem_append_right _ (List.mem_of_getElem? (i := 2) (by decide +kernel)), rfl, by decide +kernel, by decide, by decide +kernel⟩
theorem sr_k_X3_sumOf : sr_okV mX3_sumOf := ⟨sr_y_X3_sumOf, List.mem_append_right _ (List.mem_of_getElem? (i := 266) (by decide +kernel)), List.mem_append_right _ (List.mem_of_getElem? (i := 267) (by decide +kernel)), by decide⟩
theorem sr_y_X3_thereCount : sr_okY mX3_thereCount := ⟨List.mem_append_right _ (List.mem_of_getElem? (i := 648) (by decide +kernel)), List.mem_append_right _ (List.mem_of_getElem? (i := 2) (by decide +kernel)), rfl, by decide +kernel, by decide, by decide +kernel⟩
theorem sr_k_X3_thereCount : sr_okV mX3_thereCount := ⟨sr_y_X3_thereCount, List.mem_append_right _ (List.mem_of_getElem? (i := 646) (by decide +kernel)), List.mem_append_right _ (List.mem_of_getElem? (i := 647) (by decide +kernel)), by decide⟩
theorem sr_y_X3_digestFrom : sr_okY mX3_digestFrom := ⟨List.mem_append_right _ (List.mem_of_getElem? (i := 676) (by decide +kernel)), List.mem_append_right _ (List.mem_of_getElem? (i := 2) (by decide +kernel)), rfl, by decide +kernel, by decide, by decide +kernel⟩
theorem sr_k_X3_digestFrom : sr_okV mX3_digestFrom := ⟨sr_y_X3_digestFrom, List.mem_append_right _ (List.mem_of_getElem? (i := 674) (by decide +kernel)), List.mem_append_right _ (List.mem_of_getElem? (i := 675) (by decide +kernel)), by decide⟩
theorem sr_y_X4_init : sr_okY mX4_init := ⟨List.mem_append_right _ (List.mem_of_getElem? (i := 14) (by decide +kernel)), List.mem_append_right _ (List.mem_of_getElem? (i := 1) (by decide +kernel)), rfl, by decide +kernel, by decide, by decide +kernel⟩
theorem sr_k_X4_init : sr_okI mX4_init := ⟨sr_y_X4_init, List.mem_append_right _ (List.mem_of_getElem? (i := 13) (by decide +kernel)), rfl, rfl⟩
theorem sr_y_X4_row : sr_okY mX4_row := ⟨List.mem_append_right _ (List.mem_of_getElem? (i := 180) (by decide +kernel)), List.mem_append_right _ (List.mem_of_getElem? (i := 1) (by decide +kernel)), rfl, by decide +kernel, by decide, by decide +kernel⟩
theorem sr_k_X4_row : sr_okV mX4_row := ⟨sr_y_X4_row, List.mem_append_right _ (List.mem_of_getElem? (i := 178) (by decide +kernel)), List.mem_append_right _ (List.mem_of_getElem? (i := 179) (by decide +kernel)), by decide⟩
theorem sr_y_X4_lay : sr_okY mX4_lay := ⟨List.mem_append_right _ (List.mem_of_getElem? (i := 204) (by decide +kernel)), List.mem_append_right _ (List.mem_of_getElem? (i := 1) (by decide +kernel)), rfl, by decide +kernel, by decide, by decide +kernel⟩
theorem sr_k_X4_lay : sr_okV mX4_lay := ⟨sr_y_X4_lay, List.mem_append_right _ (List.mem_of_getElem? (i := 202) (by decide +kernel)), List.mem_append_right _ (List.mem_of_getElem? (i := 203) (by decide +kernel)), by decide⟩
theorem sr_y_X4_at : sr_okY mX4_at := ⟨List.mem_append_right _ (List.mem_of_getElem? (i := 233) (by decide +kernel)), List.mem_append_right _ (List.mem_of_getElem? (i := 1) (by decide +kernel)), rfl, by decide +kernel, by decide, by decide +kernel⟩
theorem sr_k_X4_at : sr_okV mX4_at := ⟨sr_y_X4_at, List.mem_append_right _ (List.mem_of_getElem? (i := 231) (by decide +kernel)), List.mem_append_right _ (List.mem_of_getElem? (i := 232) (by decide +kernel)), by decide⟩
theorem sr_y_X4_tear : sr_okY mX4_tear := ⟨List.mem_append_right _ (List.mem_of_getElem? (i := 237) (by decide +kernel)), List.mem_append_right _ (List.mem_of_getElem? (i := 1) (by decide +kernel)), rfl, by decide +kernel, by decide, by decide +kernel⟩
theorem sr_k_X4_tear : sr_okV mX4_tear := ⟨sr_y_X4_tear, List.mem_append_right _ (List.mem_of_getElem? (i := 235) (by decide +kernel)), List.mem_append_right _ (List.mem_of_getElem? (i := 236) (by decide +kernel)), by decide⟩
theorem sr_y_X4_copy : sr_okY mX4_copy := ⟨List.mem_append_right _ (List.mem_of_getElem? (i := 245) (by decide +kernel)), List.mem_append_right _ (List.mem_of_getElem? (i := 1) (by decide +kernel)), rfl, by decide +kernel, by decide, by decide +kernel⟩
theorem sr_k_X4_copy : sr_okV mX4_copy := ⟨sr_y_X4_copy, List.mem_append_right _ (List.mem_of_getElem? (i := 243) (by decide +kernel)), List.mem_append_right _ (List.mem_of_getElem? (i := 244) (by decide +kernel)), by decide⟩
theorem sr_y_X4_mean : sr_okY mX4_mean := ⟨List.mem_append_right _ (List.mem_of_getElem? (i := 260) (by decide +kernel)), List.mem_append_right _ (List.mem_of_getElem? (i := 1) (by decide +kernel)), rfl, by decide +kernel, by decide, by decide +kernel⟩
theorem sr_k_X4_mean : sr_okV mX4_mean := ⟨sr_y_X4_mean, List.mem_append_right _ (List.mem_of_getElem? (i := 258) (by decide +kernel)), List.mem_append_right _ (List.mem_of_getElem? (i := 259) (by decide +kernel)), by decide⟩
theorem sr_y_X4_text : sr_okY mX4_text := ⟨List.mem_append_right _ (List.mem_of_getElem? (i := 273) (by decide +kernel)), List.mem_append_right _ (List.mem_of_getElem? (i := 1) (by decide +kernel)), rfl, by decide +kernel, by decide, by decide +kernel⟩
theorem sr_k_X4_text : sr_okV mX4_text := ⟨sr_y_X4_text, List.mem_append_right _ (List.mem_of_getElem? (i := 271) (by decide +kernel)), List.mem_append_right _ (List.mem_of_getElem? (i := 272) (by decide +kernel)), by decide⟩
theorem sr_y_X4_put : sr_okY mX4_put := ⟨List.mem_append_right _ (List.mem_of_getElem? (i := 277) (by decide +kernel)), List.mem_append_right _ (List.mem_of_getElem? (i := 1) (by decide +kernel)), rfl, by decide +kernel, by decide, by decide +kernel⟩
theorem sr_k_X4_put : sr_okV mX4_put := ⟨sr_y_X4_put, List.mem_append_right _ (List.mem_of_getElem? (i := 275) (by decide +kernel)), List.mem_append_right _ (List.mem_of_getElem? (i := 276) (by decide +kernel)), by decide⟩
theorem sr_y_X4_fault : sr_okY mX4_fault := ⟨List.mem_append_right _ (List.mem_of_getElem? (i := 281) (by decide +kernel)), List.mem_append_right _ (List.mem_of_getElem? (i := 1) (by decide +kernel)), rfl, by decide +kernel, by decide, by decide +kernel⟩
theorem sr_k_X4_fault : sr_okV mX4_fault := ⟨sr_y_X4_fault, List.mem_append_right _ (List.mem_of_getElem? (i := 279) (by decide +kernel)), List.mem_append_right _ (List.mem_of_getElem? (i := 280) (by decide +kernel)), by decide⟩
theorem sr_y_X4_hotel : sr_okY mX4_hotel := ⟨List.mem_append_right _ (List.mem_of_getElem? (i := 336) (by decide +kernel)), List.mem_append_right _ (List.mem_of_getElem? (i := 1) (by decide +kernel)), rfl, by decide +kernel, by decide, by decide +kernel⟩
theorem sr_k_X4_hotel : sr_okV mX4_hotel := ⟨sr_y_X4_hotel, List.mem_append_right _ (List.mem_of_getElem? (i := 334) (by decide +kernel)), List.mem_append_right _ (List.mem_of_getElem? (i := 335) (by decide +kernel)), by decide⟩
theorem sr_y_X4_guest : sr_okY mX4_guest := ⟨List.mem_append_right _ (List.mem_of_getElem? (i := 359) (by decide +kernel)), List.mem_append_right _ (List.mem_of_getElem? (i := 1) (by decide +kernel)), rfl, by decide +kernel, by decide, by decide +kernel⟩
theorem sr_k_X4_guest : sr_okV mX4_guest := ⟨sr_y_X4_guest, List.mem_append_right _ (List.mem_of_getElem? (i := 357) (by decide +kernel)), List.mem_append_right _ (List.mem_of_getElem? (i := 358) (by decide +kernel)), by decide⟩
theorem sr_y_X4_mark : sr_okY mX4_mark := ⟨List.mem_append_right _ (List.mem_of_getElem? (i := 399) (by decide +kernel)), List.mem_append_right _ (List.mem_of_getElem? (i := 1) (by decide +kernel)), rfl, by decide +kernel, by decide, by decide +kernel⟩
theorem sr_k_X4_mark : sr_okV mX4_mark := ⟨sr_y_X4_mark, List.mem_append_right _ (List.mem_of_getElem? (i := 397) (by decide +kernel)), List.mem_append_right _ (List.mem_of_getElem? (i := 398) (by decide +kernel)), by decide⟩
theorem sr_y_X4_turn : sr_okY mX4_turn := ⟨List.mem_append_right _ (List.mem_of_getElem? (i := 432) (by decide +kernel)), List.mem_append_right _ (List.mem_of_getElem? (i := 1) (by decide +kernel)), rfl, by decide +kernel, by decide, by decide +kernel⟩
theorem sr_k_X4_turn : sr_okV mX4_turn := ⟨sr_y_X4_turn, List.mem_append_right _ (List.mem_of_getElem? (i := 430) (by decide +kernel)), List.mem_append_right _ (List.mem_of_getElem? (i := 431) (by decide +kernel)), by decide⟩
theorem sr_y_X4_change : sr_okY mX4_change := ⟨List.mem_append_right _ (List.mem_of_getElem? (i := 436) (by decide +kernel)), List.mem_append_right _ (List.mem_of_getElem? (i := 1) (by decide +kernel)), rfl, by decide +kernel, by decide, by decide +kernel⟩
theorem sr_k_X4_change : sr_okV mX4_change := ⟨sr_y_X4_change, List.mem_append_right _ (List.mem_of_getElem? (i := 434) (by decide +kernel)), List.mem_append_right _ (List.mem_of_getElem? (i := 435) (by decide +kernel)), by decide⟩
theorem sr_y_X4_lock : sr_okY mX4_lock := ⟨List.mem_append_right _ (List.mem_of_getElem? (i := 449) (by decide +kernel)), List.mem_append_right _ (List.mem_of_getElem? (i := 1) (by decide +kernel)), rfl, by decide +kernel, by decide, by decide +kernel⟩
theorem sr_k_X4_lock : sr_okV mX4_lock := ⟨sr_y_X4_lock, List.mem_append_right _ (List.mem_of_getElem? (i := 447) (by decide +kernel)), List.mem_append_right _ (List.mem_of_getElem? (i := 448) (by decide +kernel)), by decide⟩
theorem sr_y_X4_use : sr_okY mX4_use := ⟨List.mem_append_right _ (List.mem_of_getElem? (i := 453) (by decide +kernel)), List.mem_append_right _ (List.mem_of_getElem? (i := 1) (by decide +kernel)), rfl, by decide +kernel, by decide, by decide +kernel⟩
theorem sr_k_X4_use : sr_okV mX4_use := ⟨sr_y_X4_use, List.mem_append_right _ (List.mem_of_getElem? (i := 451) (by decide +kernel)), List.mem_append_right _ (List.mem_of_getElem? (i := 452) (by decide +kernel)), by decide⟩
theorem sr_y_X4_undo : sr_okY mX4_undo := ⟨List.mem_append_right _ (List.mem_of_getElem? (i := 457) (by decide +kernel)), List.mem_append_right _ (List.mem_of_getElem? (i := 1) (by decide +kernel)), rfl, by decide +kernel, by decide, by decide +kernel⟩
theorem sr_k_X4_undo : sr_okV mX4_undo := ⟨sr_y_X4_undo, List.mem_append_right _ (List.mem_of_getElem? (i := 455) (by decide +kernel)), List.mem_append_right _ (List.mem_of_getElem? (i := 456) (by decide +kernel)), by decide⟩
theorem sr_y_X4_keep : sr_okY mX4_keep := ⟨List.mem_append_right _ (List.mem_of_getElem? (i := 465) (by decide +kernel)), List.mem_append_right _ (List.mem_of_getElem? (i := 1) (by decide +kernel)), rfl, by decide +kernel, by decide, by decide +kernel⟩
theorem sr_k_X4_keep : sr_okV mX4_keep := ⟨sr_y_X4_keep, List.mem_append_right _ (List.mem_of_getElem? (i := 463) (by decide +kernel)), List.mem_append_right _ (List.mem_of_getElem? (i := 464) (by decide +kernel)), by decide⟩
theorem sr_y_X4_on : sr_okY mX4_on := ⟨List.mem_append_right _ (List.mem_of_getElem? (i := 474) (by decide +kernel)), List.mem_append_right _ (List.mem_of_getElem? (i := 1) (by decide +kernel)), rfl, by decide +kernel, by decide, by decide +kernel⟩
theorem sr_k_X4_on : sr_okV mX4_on := ⟨sr_y_X4_on, List.mem_append_right _ (List.mem_of_getElem? (i := 472) (by decide +kernel)), List.mem_append_right _ (List.mem_of_getElem? (i := 473) (by decide +kernel)), by decide⟩
theorem sr_y_X4_things : sr_okY mX4_things := ⟨List.mem_append_right _ (List.mem_of_getElem? (i := 482) (by decide +kernel)), List.mem_append_right _ (List.mem_of_getElem? (i := 1) (by decide +kernel)), rfl, by decide +kernel, by decide, by decide +kernel⟩
theorem sr_k_X4_things : sr_okV mX4_things := ⟨sr_y_X4_things, List.mem_append_right _ (List.mem_of_getElem? (i := 480) (by decide +kernel)), List.mem_append_right _ (List.mem_of_getElem? (i := 481) (by decide +kernel)), by decide⟩
theorem sr_y_X4_both : sr_okY mX4_both := ⟨List.mem_append_right _ (List.mem_of_getElem? (i := 486) (by decide +kernel)), List.mem_append_right _ (List.mem_of_getElem? (i := 1) (by decide +kernel)), rfl, by decide +kernel, by decide, by decide +kernel⟩
theorem sr_k_X4_both : sr_okV mX4_both := ⟨sr_y_X4_both, List.mem_append_right _ (List.mem_of_getElem? (i := 484) (by decide +kernel)), List.mem_append_right _ (List.mem_of_getElem? (i := 485) (by decide +kernel)), by decide⟩
theorem sr_y_X4_apart : sr_okY mX4_apart := ⟨List.mem_append_right _ (List.mem_of_getElem? (i := 490) (by decide +kernel)), List.mem_append_right _ (List.mem_of_getElem? (i := 1) (by decide +kernel)), rfl, by decide +kernel, by decide, by decide +kernel⟩
theorem sr_k_X4_apart : sr_okV mX4_apart := ⟨sr_y_X4_apart, List.mem_append_right _ (List.mem_of_getElem? (i := 488) (by decide +kernel)), List.mem_append_right _ (List.mem_of_getElem? (i := 489) (by decide +kernel)), by decide⟩
theorem sr_y_X4_has : sr_okY mX4_has := ⟨List.mem_append_right _ (List.mem_of_getElem? (i := 497) (by decide +kernel)), List.mem_append_right _ (List.mem_of_getElem? (i := 1) (by decide +kernel)), rfl, by decide +kernel, by decide, by decide +kernel⟩
theorem sr_k_X4_has : sr_okV mX4_has := ⟨sr_y_X4_has, List.mem_append_right _ (List.mem_of_getElem? (i := 495) (by decide +kernel)), List.mem_append_right _ (List.mem_of_getElem? (i := 496) (by decide +kernel)), by decide⟩
theorem sr_y_X4_fits : sr_okY mX4_fits := ⟨List.mem_append_right _ (List.mem_of_getElem? (i := 502) (by decide +kernel)), List.mem_append_right _ (List.mem_of_getElem? (i := 1) (by decide +kernel)), rfl, by decide +kernel, by decide, by decide +kernel⟩
theorem sr_k_X4_fits : sr_okV mX4_fits := ⟨sr_y_X4_fits, List.mem_append_right _ (List.mem_of_getElem? (i := 500) (by decide +kernel)), List.mem_append_right _ (List.mem_of_getElem? (i := 501) (by decide +kernel)), by decide⟩
theorem sr_y_X4_looks : sr_okY mX4_looks := ⟨List.mem_append_right _ (List.mem_of_getElem? (i := 514) (by decide +kernel)), List.mem_append_right _ (List.mem_of_getElem? (i := 1) (by decide +kernel)), rfl, by decide +kernel, by decide, by decide +kernel⟩
theorem sr_k_X4_looks : sr_okV mX4_looks := ⟨sr_y_X4_looks, List.mem_append_right _ (List.mem_of_getElem? (i := 512) (by decide +kernel)), List.mem_append_right _ (List.mem_of_getElem? (i := 513) (by decide +kernel)), by decide⟩
theorem sr_y_X4_drawer : sr_okY mX4_drawer := ⟨List.mem_append_right _ (List.mem_of_getElem? (i := 530) (by decide +kernel)), List.mem_append_right _ (List.mem_of_getElem? (i := 1) (by decide +kernel)), rfl, by decide +kernel, by decide, by decide +kernel⟩
theorem sr_k_X4_drawer : sr_okV mX4_drawer := ⟨sr_y_X4_drawer, List.mem_append_right _ (List.mem_of_getElem? (i := 528) (by decide +kernel)), List.mem_append_right _ (List.mem_of_getElem? (i := 529) (by decide +kernel)), by decide⟩
theorem sr_y_X4_lives : sr_okY mX4_lives := ⟨List.mem_append_right _ (List.mem_of_getElem? (i := 542) (by decide +kernel)), List.mem_append_right _ (List.mem_of_getElem? (i := 1) (by decide +kernel)), rfl, by decide +kernel, by decide, by decide +kernel⟩
theorem sr_k_X4_lives : sr_okV mX4_lives := ⟨sr_y_X4_lives, List.mem_append_right _ (List.mem_of_getElem? (i := 540) (by decide +kernel)), List.mem_append_right _ (List.mem_of_getElem? (i := 541) (by decide +kernel)), by decide⟩
theorem sr_y_X4_nearest : sr_okY mX4_nearest := ⟨List.mem_append_right _ (List.mem_of_getElem? (i := 546) (by decide +kernel)), List.mem_append_right _ (List.mem_of_getElem? (i := 1) (by decide +kernel)), rfl, by decide +kernel, by decide, by decide +kernel⟩
theorem sr_k_X4_nearest : sr_okV mX4_nearest := ⟨sr_y_X4_nearest, List.mem_append_right _ (List.mem_of_getElem? (i := 544) (by decide +kernel)), List.mem_append_right _ (List.mem_of_getElem? (i := 545) (by decide +kernel)), by decide⟩
theorem sr_y_X4_twins : sr_okY mX4_twins := ⟨List.mem_append_right _ (List.mem_of_getElem? (i := 554) (by decide +kernel)), List.mem_append_right _ (List.mem_of_getElem? (i := 1) (by decide +kernel)), rfl, by decide +kernel, by decide, by decide +kernel⟩
theorem sr_k_X4_twins : sr_okV mX4_twins := ⟨sr_y_X4_twins, List.mem_append_right _ (List.mem_of_getElem? (i := 552) (by decide +kernel)), List.mem_append_right _ (List.mem_of_getElem? (i := 553) (by decide +kernel)), by decide⟩
theorem sr_y_X4_pairs : sr_okY mX4_pairs := ⟨List.mem_append_right _ (List.mem_of_getElem? (i := 562) (by decide +kernel)), List.mem_append_right _ (List.mem_of_getElem? (i := 1) (by decide +kernel)), rfl, by decide +kernel, by decide, by decide +kernel⟩
theorem sr_k_X4_pairs : sr_okV mX4_pairs := ⟨sr_y_X4_pairs, List.mem_append_right _ (List.mem_of_getElem? (i := 560) (by decide +kernel)), List.mem_append_right _ (List.mem_of_getElem? (i := 561) (by decide +kernel)), by decide⟩
theorem sr_y_X4_ring : sr_okY mX4_ring := ⟨List.mem_append_right _ (List.mem_of_getElem? (i := 566) (by decide +kernel)), List.mem_append_right _ (List.mem_of_getElem? (i := 1) (by decide +kernel)), rfl, by decide +kernel, by decide, by decide +kernel⟩
theorem sr_k_X4_ring : sr_okV mX4_ring := ⟨sr_y_X4_ring, List.mem_append_right _ (List.mem_of_getElem? (i := 564) (by decide +kernel)), List.mem_append_right _ (List.mem_of_getElem? (i := 565) (by decide +kernel)), by decide⟩
theorem sr_y_X4_who : sr_okY mX4_who := ⟨List.mem_append_right _ (List.mem_of_getElem? (i := 578) (by decide +kernel)), List.mem_append_right _ (List.mem_of_getElem? (i := 1) (by decide +kernel)), rfl, by decide +kernel, by decide, by decide +kernel⟩
theorem sr_k_X4_who : sr_okV mX4_who := ⟨sr_y_X4_who, List.mem_append_right _ (List.mem_of_getElem? (i := 576) (by decide +kernel)), List.mem_append_right _ (List.mem_of_getElem? (i := 577) (by decide +kernel)), by decide⟩
theorem sr_y_X4_marks : sr_okY mX4_marks := ⟨List.mem_append_right _ (List.mem_of_getElem? (i := 582) (by decide +kernel)), List.mem_append_right _ (List.mem_of_getElem? (i := 1) (by decide +kernel)), rfl, by decide +kernel, by decide, by decide +kernel⟩
theorem sr_k_X4_marks : sr_okV mX4_marks := ⟨sr_y_X4_marks, List.mem_append_right _ (List.mem_of_getElem? (i := 580) (by decide +kernel)), List.mem_append_right _ (List.mem_of_getElem? (i := 581) (by decide +kernel)), by decide⟩
theorem sr_y_X4_bill : sr_okY mX4_bill := ⟨List.mem_append_right _ (List.mem_of_getElem? (i := 586) (by decide +kernel)), List.mem_append_right _ (List.mem_of_getElem? (i := 1) (by decide +kernel)), rfl, by decide +kernel, by decide, by decide +kernel⟩
theorem sr_k_X4_bill : sr_okV mX4_bill := ⟨sr_y_X4_bill, List.mem_append_right _ (List.mem_of_getElem? (i := 584) (by decide +kernel)), List.mem_append_right _ (List.mem_of_getElem? (i := 585) (by decide +kernel)), by decide⟩
theorem sr_y_X4_pays : sr_okY mX4_pays := ⟨List.mem_append_right _ (List.mem_of_getElem? (i := 597) (by decide +kernel)), List.mem_append_right _ (List.mem_of_getElem? (i := 1) (by decide +kernel)), rfl, by decide +kernel, by decide, by decide +kernel⟩
theorem sr_k_X4_pays : sr_okV mX4_pays := ⟨sr_y_X4_pays, List.mem_append_right _ (List.mem_of_getElem? (i := 595) (by decide +kernel)), List.mem_append_right _ (List.mem_of_getElem? (i := 596) (by decide +kernel)), by decide⟩
theorem sr_y_X4_cheapest : sr_okY mX4_cheapest := ⟨List.mem_append_right _ (List.mem_of_getElem? (i := 601) (by decide +kernel)), List.mem_append_right _ (List.mem_of_getElem? (i := 1) (by decide +kernel)), rfl, by decide +kernel, by decide, by decide +kernel⟩
theorem sr_k_X4_cheapest : sr_okV mX4_cheapest := ⟨sr_y_X4_cheapest, List.mem_append_right _ (List.mem_of_getElem? (i := 599) (by decide +kernel)), List.mem_append_right _ (List.mem_of_getElem? (i := 600) (by decide +kernel)), by decide⟩
theorem sr_y_X4_spread : sr_okY mX4_spread := ⟨List.mem_append_right _ (List.mem_of_getElem? (i := 605) (by decide +kernel)), List.mem_append_right _ (List.mem_of_getElem? (i := 1) (by decide +kernel)), rfl, by decide +kernel, by decide, by decide +kernel⟩
theorem sr_k_X4_spread : sr_okV mX4_spread := ⟨sr_y_X4_spread, List.mem_append_right _ (List.mem_of_getElem? (i := 603) (by decide +kernel)), List.mem_append_right _ (List.mem_of_getElem? (i := 604) (by decide +kernel)), by decide⟩
theorem sr_y_X4_odds : sr_okY mX4_odds := ⟨List.mem_append_right _ (List.mem_of_getElem? (i := 616) (by decide +kernel)), List.mem_append_right _ (List.mem_of_getElem? (i := 1) (by decide +kernel)), rfl, by decide +kernel, by decide, by decide +kernel⟩
theorem sr_k_X4_odds : sr_okV mX4_odds := ⟨sr_y_X4_odds, List.mem_append_right _ (List.mem_of_getElem? (i := 614) (by decide +kernel)), List.mem_append_right _ (List.mem_of_getElem? (i := 615) (by decide +kernel)), by decide⟩
theorem sr_y_X4_lots : sr_okY mX4_lots := ⟨List.mem_append_right _ (List.mem_of_getElem? (i := 620) (by decide +kernel)), List.mem_append_right _ (List.mem_of_getElem? (i := 1) (by decide +kernel)), rfl, by decide +kernel, by decide, by decide +kernel⟩
theorem sr_k_X4_lots : sr_okV mX4_lots := ⟨sr_y_X4_lots, List.mem_append_right _ (List.mem_of_getElem? (i := 618) (by decide +kernel)), List.mem_append_right _ (List.mem_of_getElem? (i := 619) (by decide +kernel)), by decide⟩
theorem sr_y_X4_asked : sr_okY mX4_asked := ⟨List.mem_append_right _ (List.mem_of_getElem? (i := 632) (by decide +kernel)), List.mem_append_right _ (List.mem_of_getElem? (i := 1) (by decide +kernel)), rfl, by decide +kernel, by decide, by decide +kernel⟩
theorem sr_k_X4_asked : sr_okV mX4_asked := ⟨sr_y_X4_asked, List.mem_append_right _ (List.mem_of_getElem? (i := 630) (by decide +kernel)), List.mem_append_right _ (List.mem_of_getElem? (i := 631) (by decide +kernel)), by decide⟩
theorem sr_y_X4_upper : sr_okY mX4_upper := ⟨List.mem_append_right _ (List.mem_of_getElem? (i := 636) (by decide +kernel)), List.mem_append_right _ (List.mem_of_getElem? (i := 1) (by decide +kernel)), rfl, by decide +kernel, by decide, by decide +kernel⟩
theorem sr_k_X4_upper : sr_okV mX4_upper := ⟨sr_y_X4_upper, List.mem_append_right _ (List.mem_of_getElem? (i := 634) (by decide +kernel)), List.mem_append_right _ (List.mem_of_getElem? (i := 635) (by decide +kernel)), by decide⟩
theorem sr_y_X4_lower : sr_okY mX4_lower := ⟨List.mem_append_right _ (List.mem_of_getElem? (i := 640) (by decide +kernel)), List.mem_append_right _ (List.mem_of_getElem? (i := 1) (by decide +kernel)), rfl, by decide +kernel, by decide, by decide +kernel⟩
theorem sr_k_X4_lower : sr_okV mX4_lower := ⟨sr_y_X4_lower, List.mem_append_right _ (List.mem_of_getElem? (i := 638) (by decide +kernel)), List.mem_append_right _ (List.mem_of_getElem? (i := 639) (by decide +kernel)), by decide⟩
theorem sr_y_X4_count : sr_okY mX4_count := ⟨List.mem_append_right _ (List.mem_of_getElem? (i := 644) (by decide +kernel)), List.mem_append_right _ (List.mem_of_getElem? (i := 1) (by decide +kernel)), rfl, by decide +kernel, by decide, by decide +kernel⟩
theorem sr_k_X4_count : sr_okV mX4_count := ⟨sr_y_X4_count, List.mem_append_right _ (List.mem_of_getElem? (i := 642) (by decide +kernel)), List.mem_append_right _ (List.mem_of_getElem? (i := 643) (by decide +kernel)), by decide⟩
theorem sr_y_X4_finding : sr_okY mX4_finding := ⟨List.mem_append_right _ (List.mem_of_getElem? (i := 661) (by decide +kernel)), List.mem_append_right _ (List.mem_of_getElem? (i := 1) (by decide +kernel)), rfl, by decide +kernel, by decide, by decide +kernel⟩
theorem sr_k_X4_finding : sr_okV mX4_finding := ⟨sr_y_X4_finding, List.mem_append_right _ (List.mem_of_getElem? (i := 659) (by decide +kernel)), List.mem_append_right _ (List.mem_of_getElem? (i := 660) (by decide +kernel)), by decide⟩
theorem sr_y_X4_findings : sr_okY mX4_findings := ⟨List.mem_append_right _ (List.mem_of_getElem? (i := 665) (by decide +kernel)), List.mem_append_right _ (List.mem_of_getElem? (i := 1) (by decide +kernel)), rfl, by decide +kernel, by decide, by decide +kernel⟩
theorem sr_k_X4_findings : sr_okV mX4_findings := ⟨sr_y_X4_findings, List.mem_append_right _ (List.mem_of_getElem? (i := 663) (by decide +kernel)), List.mem_append_right _ (List.mem_of_getElem? (i := 664) (by decide +kernel)), by decide⟩
theorem sr_y_X4_digest : sr_okY mX4_digest := ⟨List.mem_append_right _ (List.mem_of_getElem? (i := 669) (by decide +kernel)), List.mem_append_right _ (List.mem_of_getElem? (i := 1) (by decide +kernel)), rfl, by decide +kernel, by decide, by decide +kernel⟩
theorem sr_k_X4_digest : sr_okV mX4_digest := ⟨sr_y_X4_digest, List.mem_append_right _ (List.mem_of_getElem? (i := 667) (by decide +kernel)), List.mem_append_right _ (List.mem_of_getElem? (i := 668) (by decide +kernel)), by decide⟩
theorem sr_y_X4_found : sr_okY mX4_found := ⟨List.mem_append_right _ (List.mem_of_getElem? (i := 192) (by decide +kernel)), List.mem_append_right _ (List.mem_of_getElem? (i := 1) (by decide +kernel)), rfl, by decide +kernel, by decide, by decide +kernel⟩
theorem sr_k_X4_found : sr_okV mX4_found := ⟨sr_y_X4_found, List.mem_append_right _ (List.mem_of_getElem? (i := 191) (by decide +kernel)), List.mem_append_left _ (List.mem_of_getElem? (i := 1) (by decide +kernel)), by decide⟩
theorem sr_y_X4_makePaper : sr_okY mX4_makePaper := ⟨List.mem_append_right _ (List.mem_of_getElem? (i := 184) (by decide +kernel)), List.mem_append_right _ (List.mem_of_getElem? (i := 1) (by decide +kernel)), rfl, by decide +kernel, by decide, by decide +kernel⟩
theorem sr_k_X4_makePaper : sr_okV mX4_makePaper := ⟨sr_y_X4_makePaper, List.mem_append_right _ (List.mem_of_getElem? (i := 183) (by decide +kernel)), List.mem_append_left _ (List.mem_of_getElem? (i := 0) (by decide +kernel)), by decide⟩
theorem sr_y_X4_refusalOfPaper : sr_okY mX4_refusalOfPaper := ⟨List.mem_append_right _ (List.mem_of_getElem? (i := 212) (by decide +kernel)), List.mem_append_right _ (List.mem_of_getElem? (i := 1) (by decide +kernel)), rfl, by decide +kernel, by decide, by decide +kernel⟩
theorem sr_k_X4_refusalOfPaper : sr_okV mX4_refusalOfPaper := ⟨sr_y_X4_refusalOfPaper, List.mem_append_right _ (List.mem_of_getElem? (i := 211) (by decide +kernel)), List.mem_append_left _ (List.mem_of_getElem? (i := 3) (by decide +kernel)), by decide⟩
theorem sr_y_X4_refusalOfPlace : sr_okY mX4_refusalOfPlace := ⟨List.mem_append_right _ (List.mem_of_getElem? (i := 208) (by decide +kernel)), List.mem_append_right _ (List.mem_of_getElem? (i := 1) (by decide +kernel)), rfl, by decide +kernel, by decide, by decide +kernel⟩
theorem sr_k_X4_refusalOfPlace : sr_okV mX4_refusalOfPlace := ⟨sr_y_X4_refusalOfPlace, List.mem_append_right _ (List.mem_of_getElem? (i := 207) (by decide +kernel)), List.mem_append_left _ (List.mem_of_getElem? (i := 2) (by decide +kernel)), by decide⟩
theorem sr_y_X4_tell : sr_okY mX4_tell := ⟨List.mem_append_right _ (List.mem_of_getElem? (i := 229) (by decide +kernel)), List.mem_append_right _ (List.mem_of_getElem? (i := 1) (by decide +kernel)), rfl, by decide +kernel, by decide, by decide +kernel⟩
theorem sr_k_X4_tell : sr_okV mX4_tell := ⟨sr_y_X4_tell, List.mem_append_right _ (List.mem_of_getElem? (i := 228) (by decide +kernel)), List.mem_append_left _ (List.mem_of_getElem? (i := 4) (by decide +kernel)), by decide⟩
theorem sr_y_X4_tellShare : sr_okY mX4_tellShare := ⟨List.mem_append_right _ (List.mem_of_getElem? (i := 609) (by decide +kernel)), List.mem_append_right _ (List.mem_of_getElem? (i := 1) (by decide +kernel)), rfl, by decide +kernel, by decide, by decide +kernel⟩
theorem sr_k_X4_tellShare : sr_okV mX4_tellShare := ⟨sr_y_X4_tellShare, List.mem_append_right _ (List.mem_of_getElem? (i := 608) (by decide +kernel)), List.mem_append_left _ (List.mem_of_getElem? (i := 30) (by decide +kernel)), by decide⟩
theorem sr_y_X4_commonMeasure : sr_okY mX4_commonMeasure := ⟨List.mem_append_right _ (List.mem_of_getElem? (i := 612) (by decide +kernel)), List.mem_append_right _ (List.mem_of_getElem? (i := 1) (by decide +kernel)), rfl, by decide +kernel, by decide, by decide +kernel⟩
theorem sr_k_X4_commonMeasure : sr_okS mX4_commonMeasure := ⟨sr_y_X4_commonMeasure, List.mem_append_right _ (List.mem_of_getElem? (i := 611) (by decide +kernel))⟩
theorem sr_y_X4_firstBit : sr_okY mX4_firstBit := ⟨List.mem_append_right _ (List.mem_of_getElem? (i := 493) (by decide +kernel)), List.mem_append_right _ (List.mem_of_getElem? (i := 1) (by decide +kernel)), rfl, by decide +kernel, by decide, by decide +kernel⟩
theorem sr_k_X4_firstBit : sr_okS mX4_firstBit := ⟨sr_y_X4_firstBit, List.mem_append_right _ (List.mem_of_getElem? (i := 492) (by decide +kernel))⟩
theorem sr_y_X4_isGuest : sr_okY mX4_isGuest := ⟨List.mem_append_right _ (List.mem_of_getElem? (i := 363) (by decide +kernel)), List.mem_append_right _ (List.mem_of_getElem? (i := 1) (by decide +kernel)), rfl, by decide +kernel, by decide, by decide +kernel⟩
theorem sr_k_X4_isGuest : sr_okV mX4_isGuest := ⟨sr_y_X4_isGuest, List.mem_append_right _ (List.mem_of_getElem? (i := 362) (by decide +kernel)), List.mem_append_left _ (List.mem_of_getElem? (i := 13) (by decide +kernel)), by decide⟩
theorem sr_y_X4_isThing : sr_okY mX4_isThing := ⟨List.mem_append_right _ (List.mem_of_getElem? (i := 550) (by decide +kernel)), List.mem_append_right _ (List.mem_of_getElem? (i := 1) (by decide +kernel)), rfl, by decide +kernel, by decide, by decide +kernel⟩
theorem sr_k_X4_isThing : sr_okV mX4_isThing := ⟨sr_y_X4_isThing, List.mem_append_right _ (List.mem_of_getElem? (i := 549) (by decide +kernel)), List.mem_append_left _ (List.mem_of_getElem? (i := 25) (by decide +kernel)), by decide⟩
theorem sr_y_X4_isThingSet : sr_okY mX4_isThingSet := ⟨List.mem_append_right _ (List.mem_of_getElem? (i := 506) (by decide +kernel)), List.mem_append_right _ (List.mem_of_getElem? (i := 1) (by decide +kernel)), rfl, by decide +kernel, by decide, by decide +kernel⟩
theorem sr_k_X4_isThingSet : sr_okV mX4_isThingSet := ⟨sr_y_X4_isThingSet, List.mem_append_right _ (List.mem_of_getElem? (i := 505) (by decide +kernel)), List.mem_append_left _ (List.mem_of_getElem? (i := 19) (by decide +kernel)), by decide⟩
theorem sr_y_X4_isLaw : sr_okY mX4_isLaw := ⟨List.mem_append_right _ (List.mem_of_getElem? (i := 589) (by decide +kernel)), List.mem_append_right _ (List.mem_of_getElem? (i := 1) (by decide +kernel)), rfl, by decide +kernel, by decide, by decide +kernel⟩
theorem sr_k_X4_isLaw : sr_okS mX4_isLaw := ⟨sr_y_X4_isLaw, List.mem_append_right _ (List.mem_of_getElem? (i := 588) (by decide +kernel))⟩
theorem sr_y_X4_factOf : sr_okY mX4_factOf := ⟨List.mem_append_right _ (List.mem_of_getElem? (i := 367) (by decide +kernel)), List.mem_append_right _ (List.mem_of_getElem? (i := 1) (by decide +kernel)), rfl, by decide +kernel, by decide, by decide +kernel⟩
theorem sr_k_X4_factOf : sr_okV mX4_factOf := ⟨sr_y_X4_factOf, List.mem_append_right _ (List.mem_of_getElem? (i := 366) (by decide +kernel)), List.mem_append_left _ (List.mem_of_getElem? (i := 14) (by decide +kernel)), by decide⟩
theorem sr_y_X4_secondLife : sr_okY mX4_secondLife := ⟨List.mem_append_right _ (List.mem_of_getElem? (i := 371) (by decide +kernel)), List.mem_append_right _ (List.mem_of_getElem? (i := 1) (by decide +kernel)), rfl, by decide +kernel, by decide, by decide +kernel⟩
theorem sr_k_X4_secondLife : sr_okV mX4_secondLife := ⟨sr_y_X4_secondLife, List.mem_append_right _ (List.mem_of_getElem? (i := 370) (by decide +kernel)), List.mem_append_left _ (List.mem_of_getElem? (i := 15) (by decide +kernel)), by decide⟩
theorem sr_y_X4_isSecondOf : sr_okY mX4_isSecondOf := ⟨List.mem_append_right _ (List.mem_of_getElem? (i := 558) (by decide +kernel)), List.mem_append_right _ (List.mem_of_getElem? (i := 1) (by decide +kernel)), rfl, by decide +kernel, by decide, by decide +kernel⟩
theorem sr_k_X4_isSecondOf : sr_okV mX4_isSecondOf := ⟨sr_y_X4_isSecondOf, List.mem_append_right _ (List.mem_of_getElem? (i := 557) (by decide +kernel)), List.mem_append_left _ (List.mem_of_getElem? (i := 26) (by decide +kernel)), by decide⟩
theorem sr_y_X4_thingsIn : sr_okY mX4_thingsIn := ⟨List.mem_append_right _ (List.mem_of_getElem? (i := 420) (by decide +kernel)), List.mem_append_right _ (List.mem_of_getElem? (i := 1) (by decide +kernel)), rfl, by decide +kernel, by decide, by decide +kernel⟩
theorem sr_k_X4_thingsIn : sr_okV mX4_thingsIn := ⟨sr_y_X4_thingsIn, List.mem_append_right _ (List.mem_of_getElem? (i := 419) (by decide +kernel)), List.mem_append_left _ (List.mem_of_getElem? (i := 17) (by decide +kernel)), by decide⟩
theorem sr_y_X4_thingsByTurn : sr_okY mX4_thingsByTurn := ⟨List.mem_append_right _ (List.mem_of_getElem? (i := 510) (by decide +kernel)), List.mem_append_right _ (List.mem_of_getElem? (i := 1) (by decide +kernel)), rfl, by decide +kernel, by decide, by decide +kernel⟩
theorem sr_k_X4_thingsByTurn : sr_okV mX4_thingsByTurn := ⟨sr_y_X4_thingsByTurn, List.mem_append_right _ (List.mem_of_getElem? (i := 509) (by decide +kernel)), List.mem_append_left _ (List.mem_of_getElem? (i := 20) (by decide +kernel)), by decide⟩
theorem sr_y_X4_turnsWith : sr_okY mX4_turnsWith := ⟨List.mem_append_right _ (List.mem_of_getElem? (i := 534) (by decide +kernel)), List.mem_append_right _ (List.mem_of_getElem? (i := 1) (by decide +kernel)), rfl, by decide +kernel, by decide, by decide +kernel⟩
theorem sr_k_X4_turnsWith : sr_okV mX4_turnsWith := ⟨sr_y_X4_turnsWith, List.mem_append_right _ (List.mem_of_getElem? (i := 533) (by decide +kernel)), List.mem_append_left _ (List.mem_of_getElem? (i := 24) (by decide +kernel)), by decide⟩
theorem sr_y_X4_addDifference : sr_okY mX4_addDifference := ⟨List.mem_append_right _ (List.mem_of_getElem? (i := 518) (by decide +kernel)), List.mem_append_right _ (List.mem_of_getElem? (i := 1) (by decide +kernel)), rfl, by decide +kernel, by decide, by decide +kernel⟩
theorem sr_k_X4_addDifference : sr_okV mX4_addDifference := ⟨sr_y_X4_addDifference, List.mem_append_right _ (List.mem_of_getElem? (i := 517) (by decide +kernel)), List.mem_append_left _ (List.mem_of_getElem? (i := 21) (by decide +kernel)), by decide⟩
theorem sr_y_X4_fewestTellingApart : sr_okY mX4_fewestTellingApart := ⟨List.mem_append_right _ (List.mem_of_getElem? (i := 522) (by decide +kernel)), List.mem_append_right _ (List.mem_of_getElem? (i := 1) (by decide +kernel)), rfl, by decide +kernel, by decide, by decide +kernel⟩
theorem sr_k_X4_fewestTellingApart : sr_okV mX4_fewestTellingApart := ⟨sr_y_X4_fewestTellingApart, List.mem_append_right _ (List.mem_of_getElem? (i := 521) (by decide +kernel)), List.mem_append_left _ (List.mem_of_getElem? (i := 22) (by decide +kernel)), by decide⟩
theorem sr_y_X4_tellsApart : sr_okY mX4_tellsApart := ⟨List.mem_append_right _ (List.mem_of_getElem? (i := 526) (by decide +kernel)), List.mem_append_right _ (List.mem_of_getElem? (i := 1) (by decide +kernel)), rfl, by decide +kernel, by decide, by decide +kernel⟩
theorem sr_k_X4_tellsApart : sr_okV mX4_tellsApart := ⟨sr_y_X4_tellsApart, List.mem_append_right _ (List.mem_of_getElem? (i := 525) (by decide +kernel)), List.mem_append_left _ (List.mem_of_getElem? (i := 23) (by decide +kernel)), by decide⟩
theorem sr_y_X4_endsOfWalk : sr_okY mX4_endsOfWalk := ⟨List.mem_append_right _ (List.mem_of_getElem? (i := 570) (by decide +kernel)), List.mem_append_right _ (List.mem_of_getElem? (i := 1) (by decide +kernel)), rfl, by decide +kernel, by decide, by decide +kernel⟩
theorem sr_k_X4_endsOfWalk : sr_okV mX4_endsOfWalk := ⟨sr_y_X4_endsOfWalk, List.mem_append_right _ (List.mem_of_getElem? (i := 569) (by decide +kernel)), List.mem_append_left _ (List.mem_of_getElem? (i := 27) (by decide +kernel)), by decide⟩
theorem sr_y_X4_leadsOn : sr_okY mX4_leadsOn := ⟨List.mem_append_right _ (List.mem_of_getElem? (i := 574) (by decide +kernel)), List.mem_append_right _ (List.mem_of_getElem? (i := 1) (by decide +kernel)), rfl, by decide +kernel, by decide, by decide +kernel⟩
theorem sr_k_X4_leadsOn : sr_okV mX4_leadsOn := ⟨sr_y_X4_leadsOn, List.mem_append_right _ (List.mem_of_getElem? (i := 573) (by decide +kernel)), List.mem_append_left _ (List.mem_of_getElem? (i := 28) (by decide +kernel)), by decide⟩
theorem sr_y_X4_billFor : sr_okY mX4_billFor := ⟨List.mem_append_right _ (List.mem_of_getElem? (i := 593) (by decide +kernel)), List.mem_append_right _ (List.mem_of_getElem? (i := 1) (by decide +kernel)), rfl, by decide +kernel, by decide, by decide +kernel⟩
theorem sr_k_X4_billFor : sr_okV mX4_billFor := ⟨sr_y_X4_billFor, List.mem_append_right _ (List.mem_of_getElem? (i := 592) (by decide +kernel)), List.mem_append_left _ (List.mem_of_getElem? (i := 29) (by decide +kernel)), by decide⟩
theorem sr_y_X4_actByLot : sr_okY mX4_actByLot := ⟨List.mem_append_right _ (List.mem_of_getElem? (i := 628) (by decide +kernel)), List.mem_append_right _ (List.mem_of_getElem? (i := 1) (by decide +kernel)), rfl, by decide +kernel, by decide, by decide +kernel⟩
theorem sr_k_X4_actByLot : sr_okV mX4_actByLot := ⟨sr_y_X4_actByLot, List.mem_append_right _ (List.mem_of_getElem? (i := 627) (by decide +kernel)), List.mem_append_left _ (List.mem_of_getElem? (i := 31) (by decide +kernel)), by decide⟩
theorem sr_y_X4_forgetKept : sr_okY mX4_forgetKept := ⟨List.mem_append_right _ (List.mem_of_getElem? (i := 351) (by decide +kernel)), List.mem_append_right _ (List.mem_of_getElem? (i := 1) (by decide +kernel)), rfl, by decide +kernel, by decide, by decide +kernel⟩
theorem sr_k_X4_forgetKept : sr_okV mX4_forgetKept := ⟨sr_y_X4_forgetKept, List.mem_append_right _ (List.mem_of_getElem? (i := 350) (by decide +kernel)), List.mem_append_left _ (List.mem_of_getElem? (i := 12) (by decide +kernel)), by decide⟩
theorem sr_y_X4_keptDeeds : sr_okY mX4_keptDeeds := ⟨List.mem_append_right _ (List.mem_of_getElem? (i := 657) (by decide +kernel)), List.mem_append_right _ (List.mem_of_getElem? (i := 1) (by decide +kernel)), rfl, by decide +kernel, by decide, by decide +kernel⟩
theorem sr_k_X4_keptDeeds : sr_okV mX4_keptDeeds := ⟨sr_y_X4_keptDeeds, List.mem_append_right _ (List.mem_of_getElem? (i := 656) (by decide +kernel)), List.mem_append_left _ (List.mem_of_getElem? (i := 33) (by decide +kernel)), by decide⟩
theorem sr_y_X4_keptCount : sr_okY mX4_keptCount := ⟨List.mem_append_right _ (List.mem_of_getElem? (i := 653) (by decide +kernel)), List.mem_append_right _ (List.mem_of_getElem? (i := 1) (by decide +kernel)), rfl, by decide +kernel, by decide, by decide +kernel⟩
theorem sr_k_X4_keptCount : sr_okV mX4_keptCount := ⟨sr_y_X4_keptCount, List.mem_append_right _ (List.mem_of_getElem? (i := 652) (by decide +kernel)), List.mem_append_left _ (List.mem_of_getElem? (i := 32) (by decide +kernel)), by decide⟩
theorem sr_y_X5_init : sr_okY mX5_init := ⟨List.mem_append_right _ (List.mem_of_getElem? (i := 682) (by decide +kernel)), List.mem_append_right _ (List.mem_of_getElem? (i := 6) (by decide +kernel)), rfl, by decide +kernel, by decide, by decide +kernel⟩
theorem sr_k_X5_init : sr_okI mX5_init := ⟨sr_y_X5_init, List.mem_append_right _ (List.mem_of_getElem? (i := 681) (by decide +kernel)), rfl, rfl⟩
theorem sr_y_X5_in : sr_okY mX5_in := ⟨List.mem_append_right _ (List.mem_of_getElem? (i := 799) (by decide +kernel)), List.mem_append_right _ (List.mem_of_getElem? (i := 6) (by decide +kernel)), rfl, by decide +kernel, by decide, by decide +kernel⟩
theorem sr_k_X5_in : sr_okS mX5_in := ⟨sr_y_X5_in, List.mem_append_right _ (List.mem_of_getElem? (i := 798) (by decide +kernel))⟩
theorem sr_y_X5_holds : sr_okY mX5_holds := ⟨List.mem_append_right _ (List.mem_of_getElem? (i := 961) (by decide +kernel)), List.mem_append_right _ (List.mem_of_getElem? (i := 6) (by decide +kernel)), rfl, by decide +kernel, by decide, by decide +kernel⟩
theorem sr_k_X5_holds : sr_okS mX5_holds := ⟨sr_y_X5_holds, List.mem_append_right _ (List.mem_of_getElem? (i := 960) (by decide +kernel))⟩
theorem sr_y_X5_bits : sr_okY mX5_bits := ⟨List.mem_append_right _ (List.mem_of_getElem? (i := 934) (by decide +kernel)), List.mem_append_right _ (List.mem_of_getElem? (i := 6) (by decide +kernel)), rfl, by decide +kernel, by decide, by decide +kernel⟩
theorem sr_k_X5_bits : sr_okS mX5_bits := ⟨sr_y_X5_bits, List.mem_append_right _ (List.mem_of_getElem? (i := 933) (by decide +kernel))⟩
theorem sr_y_X5_meets : sr_okY mX5_meets := ⟨List.mem_append_right _ (List.mem_of_getElem? (i := 822) (by decide +kernel)), List.mem_append_right _ (List.mem_of_getElem? (i := 6) (by decide +kernel)), rfl, by decide +kernel, by decide, by decide +kernel⟩
theorem sr_k_X5_meets : sr_okV mX5_meets := ⟨sr_y_X5_meets, List.mem_append_right _ (List.mem_of_getElem? (i := 821) (by decide +kernel)), List.mem_append_left _ (List.mem_of_getElem? (i := 34) (by decide +kernel)), by decide⟩
theorem sr_y_X5_finding : sr_okY mX5_finding := ⟨List.mem_append_right _ (List.mem_of_getElem? (i := 792) (by decide +kernel)), List.mem_append_right _ (List.mem_of_getElem? (i := 6) (by decide +kernel)), rfl, by decide +kernel, by decide, by decide +kernel⟩
theorem sr_k_X5_finding : sr_okV mX5_finding := ⟨sr_y_X5_finding, List.mem_append_right _ (List.mem_of_getElem? (i := 790) (by decide +kernel)), List.mem_append_right _ (List.mem_of_getElem? (i := 791) (by decide +kernel)), by decide⟩
theorem sr_y_X5_findings : sr_okY mX5_findings := ⟨List.mem_append_right _ (List.mem_of_getElem? (i := 796) (by decide +kernel)), List.mem_append_right _ (List.mem_of_getElem? (i := 6) (by decide +kernel)), rfl, by decide +kernel, by decide, by decide +kernel⟩
theorem sr_k_X5_findings : sr_okV mX5_findings := ⟨sr_y_X5_findings, List.mem_append_right _ (List.mem_of_getElem? (i := 794) (by decide +kernel)), List.mem_append_right _ (List.mem_of_getElem? (i := 795) (by decide +kernel)), by decide⟩
theorem sr_y_X5_tells : sr_okY mX5_tells := ⟨List.mem_append_right _ (List.mem_of_getElem? (i := 834) (by decide +kernel)), List.mem_append_right _ (List.mem_of_getElem? (i := 6) (by decide +kernel)), rfl, by decide +kernel, by decide, by decide +kernel⟩
theorem sr_k_X5_tells : sr_okV mX5_tells := ⟨sr_y_X5_tells, List.mem_append_right _ (List.mem_of_getElem? (i := 833) (by decide +kernel)), List.mem_append_left _ (List.mem_of_getElem? (i := 36) (by decide +kernel)), by decide⟩
theorem sr_y_X5_asked : sr_okY mX5_asked := ⟨List.mem_append_right _ (List.mem_of_getElem? (i := 803) (by decide +kernel)), List.mem_append_right _ (List.mem_of_getElem? (i := 6) (by decide +kernel)), rfl, by decide +kernel, by decide, by decide +kernel⟩
theorem sr_k_X5_asked : sr_okV mX5_asked := ⟨sr_y_X5_asked, List.mem_append_right _ (List.mem_of_getElem? (i := 801) (by decide +kernel)), List.mem_append_right _ (List.mem_of_getElem? (i := 802) (by decide +kernel)), by decide⟩
theorem sr_y_X5_fraction : sr_okY mX5_fraction := ⟨List.mem_append_right _ (List.mem_of_getElem? (i := 1105) (by decide +kernel)), List.mem_append_right _ (List.mem_of_getElem? (i := 6) (by decide +kernel)), rfl, by decide +kernel, by decide, by decide +kernel⟩
theorem sr_k_X5_fraction : sr_okV mX5_fraction := ⟨sr_y_X5_fraction, List.mem_append_right _ (List.mem_of_getElem? (i := 1104) (by decide +kernel)), List.mem_append_left _ (List.mem_of_getElem? (i := 64) (by decide +kernel)), by decide⟩
theorem sr_y_X5_upper : sr_okY mX5_upper := ⟨List.mem_append_right _ (List.mem_of_getElem? (i := 807) (by decide +kernel)), List.mem_append_right _ (List.mem_of_getElem? (i := 6) (by decide +kernel)), rfl, by decide +kernel, by decide, by decide +kernel⟩
theorem sr_k_X5_upper : sr_okV mX5_upper := ⟨sr_y_X5_upper, List.mem_append_right _ (List.mem_of_getElem? (i := 805) (by decide +kernel)), List.mem_append_right _ (List.mem_of_getElem? (i := 806) (by decide +kernel)), by decide⟩
theorem sr_y_X5_lower : sr_okY mX5_lower := ⟨List.mem_append_right _ (List.mem_of_getElem? (i := 811) (by decide +kernel)), List.mem_append_right _ (List.mem_of_getElem? (i := 6) (by decide +kernel)), rfl, by decide +kernel, by decide, by decide +kernel⟩
theorem sr_k_X5_lower : sr_okV mX5_lower := ⟨sr_y_X5_lower, List.mem_append_right _ (List.mem_of_getElem? (i := 809) (by decide +kernel)), List.mem_append_right _ (List.mem_of_getElem? (i := 810) (by decide +kernel)), by decide⟩
theorem sr_y_X5_isRow : sr_okY mX5_isRow := ⟨List.mem_append_right _ (List.mem_of_getElem? (i := 818) (by decide +kernel)), List.mem_append_right _ (List.mem_of_getElem? (i := 6) (by decide +kernel)), rfl, by decide +kernel, by decide, by decide +kernel⟩
theorem sr_k_X5_isRow : sr_okS mX5_isRow := ⟨sr_y_X5_isRow, List.mem_append_right _ (List.mem_of_getElem? (i := 817) (by decide +kernel))⟩
theorem sr_y_X5_rowAt : sr_okY mX5_rowAt := ⟨List.mem_append_right _ (List.mem_of_getElem? (i := 830) (by decide +kernel)), List.mem_append_right _ (List.mem_of_getElem? (i := 6) (by decide +kernel)), rfl, by decide +kernel, by decide, by decide +kernel⟩
theorem sr_k_X5_rowAt : sr_okV mX5_rowAt := ⟨sr_y_X5_rowAt, List.mem_append_right _ (List.mem_of_getElem? (i := 829) (by decide +kernel)), List.mem_append_left _ (List.mem_of_getElem? (i := 35) (by decide +kernel)), by decide⟩
theorem sr_y_X5_row : sr_okY mX5_row := ⟨List.mem_append_right _ (List.mem_of_getElem? (i := 815) (by decide +kernel)), List.mem_append_right _ (List.mem_of_getElem? (i := 6) (by decide +kernel)), rfl, by decide +kernel, by decide, by decide +kernel⟩
theorem sr_k_X5_row : sr_okV mX5_row := ⟨sr_y_X5_row, List.mem_append_right _ (List.mem_of_getElem? (i := 813) (by decide +kernel)), List.mem_append_right _ (List.mem_of_getElem? (i := 814) (by decide +kernel)), by decide⟩
theorem sr_y_X5_lay : sr_okY mX5_lay := ⟨List.mem_append_right _ (List.mem_of_getElem? (i := 826) (by decide +kernel)), List.mem_append_right _ (List.mem_of_getElem? (i := 6) (by decide +kernel)), rfl, by decide +kernel, by decide, by decide +kernel⟩
theorem sr_k_X5_lay : sr_okV mX5_lay := ⟨sr_y_X5_lay, List.mem_append_right _ (List.mem_of_getElem? (i := 824) (by decide +kernel)), List.mem_append_right _ (List.mem_of_getElem? (i := 825) (by decide +kernel)), by decide⟩
theorem sr_y_X5_at : sr_okY mX5_at := ⟨List.mem_append_right _ (List.mem_of_getElem? (i := 838) (by decide +kernel)), List.mem_append_right _ (List.mem_of_getElem? (i := 6) (by decide +kernel)), rfl, by decide +kernel, by decide, by decide +kernel⟩
theorem sr_k_X5_at : sr_okV mX5_at := ⟨sr_y_X5_at, List.mem_append_right _ (List.mem_of_getElem? (i := 836) (by decide +kernel)), List.mem_append_right _ (List.mem_of_getElem? (i := 837) (by decide +kernel)), by decide⟩
theorem sr_y_X5_tear : sr_okY mX5_tear := ⟨List.mem_append_right _ (List.mem_of_getElem? (i := 842) (by decide +kernel)), List.mem_append_right _ (List.mem_of_getElem? (i := 6) (by decide +kernel)), rfl, by decide +kernel, by decide, by decide +kernel⟩
theorem sr_k_X5_tear : sr_okV mX5_tear := ⟨sr_y_X5_tear, List.mem_append_right _ (List.mem_of_getElem? (i := 840) (by decide +kernel)), List.mem_append_right _ (List.mem_of_getElem? (i := 841) (by decide +kernel)), by decide⟩
theorem sr_y_X5_copy : sr_okY mX5_copy := ⟨List.mem_append_right _ (List.mem_of_getElem? (i := 846) (by decide +kernel)), List.mem_append_right _ (List.mem_of_getElem? (i := 6) (by decide +kernel)), rfl, by decide +kernel, by decide, by decide +kernel⟩
theorem sr_k_X5_copy : sr_okV mX5_copy := ⟨sr_y_X5_copy, List.mem_append_right _ (List.mem_of_getElem? (i := 844) (by decide +kernel)), List.mem_append_right _ (List.mem_of_getElem? (i := 845) (by decide +kernel)), by decide⟩
theorem sr_y_X5_mean : sr_okY mX5_mean := ⟨List.mem_append_right _ (List.mem_of_getElem? (i := 850) (by decide +kernel)), List.mem_append_right _ (List.mem_of_getElem? (i := 6) (by decide +kernel)), rfl, by decide +kernel, by decide, by decide +kernel⟩
theorem sr_k_X5_mean : sr_okV mX5_mean := ⟨sr_y_X5_mean, List.mem_append_right _ (List.mem_of_getElem? (i := 848) (by decide +kernel)), List.mem_append_right _ (List.mem_of_getElem? (i := 849) (by decide +kernel)), by decide⟩
theorem sr_y_X5_isText : sr_okY mX5_isText := ⟨List.mem_append_right _ (List.mem_of_getElem? (i := 857) (by decide +kernel)), List.mem_append_right _ (List.mem_of_getElem? (i := 6) (by decide +kernel)), rfl, by decide +kernel, by decide, by decide +kernel⟩
theorem sr_k_X5_isText : sr_okS mX5_isText := ⟨sr_y_X5_isText, List.mem_append_right _ (List.mem_of_getElem? (i := 856) (by decide +kernel))⟩
theorem sr_y_X5_text : sr_okY mX5_text := ⟨List.mem_append_right _ (List.mem_of_getElem? (i := 854) (by decide +kernel)), List.mem_append_right _ (List.mem_of_getElem? (i := 6) (by decide +kernel)), rfl, by decide +kernel, by decide, by decide +kernel⟩
theorem sr_k_X5_text : sr_okV mX5_text := ⟨sr_y_X5_text, List.mem_append_right _ (List.mem_of_getElem? (i := 852) (by decide +kernel)), List.mem_append_right _ (List.mem_of_getElem? (i := 853) (by decide +kernel)), by decide⟩
theorem sr_y_X5_put : sr_okY mX5_put := ⟨List.mem_append_right _ (List.mem_of_getElem? (i := 861) (by decide +kernel)), List.mem_append_right _ (List.mem_of_getElem? (i := 6) (by decide +kernel)), rfl, by decide +kernel, by decide, by decide +kernel⟩
theorem sr_k_X5_put : sr_okV mX5_put := ⟨sr_y_X5_put, List.mem_append_right _ (List.mem_of_getElem? (i := 859) (by decide +kernel)), List.mem_append_right _ (List.mem_of_getElem? (i := 860) (by decide +kernel)), by decide⟩
theorem sr_y_X5_byteAt : sr_okY mX5_byteAt := ⟨List.mem_append_right _ (List.mem_of_getElem? (i := 873) (by decide +kernel)), List.mem_append_right _ (List.mem_of_getElem? (i := 6) (by decide +kernel)), rfl, by decide +kernel, by decide, by decide +kernel⟩
theorem sr_k_X5_byteAt : sr_okV mX5_byteAt := ⟨sr_y_X5_byteAt, List.mem_append_right _ (List.mem_of_getElem? (i := 872) (by decide +kernel)), List.mem_append_left _ (List.mem_of_getElem? (i := 38) (by decide +kernel)), by decide⟩
theorem sr_y_X5_kindOf : sr_okY mX5_kindOf := ⟨List.mem_append_right _ (List.mem_of_getElem? (i := 896) (by decide +kernel)), List.mem_append_right _ (List.mem_of_getElem? (i := 6) (by decide +kernel)), rfl, by decide +kernel, by decide, by decide +kernel⟩
theorem sr_k_X5_kindOf : sr_okS mX5_kindOf := ⟨sr_y_X5_kindOf, List.mem_append_right _ (List.mem_of_getElem? (i := 895) (by decide +kernel))⟩
theorem sr_y_X5_figure : sr_okY mX5_figure := ⟨List.mem_append_right _ (List.mem_of_getElem? (i := 885) (by decide +kernel)), List.mem_append_right _ (List.mem_of_getElem? (i := 6) (by decide +kernel)), rfl, by decide +kernel, by decide, by decide +kernel⟩
theorem sr_k_X5_figure : sr_okV mX5_figure := ⟨sr_y_X5_figure, List.mem_append_right _ (List.mem_of_getElem? (i := 884) (by decide +kernel)), List.mem_append_left _ (List.mem_of_getElem? (i := 41) (by decide +kernel)), by decide⟩
theorem sr_y_X5_readsTurns : sr_okY mX5_readsTurns := ⟨List.mem_append_right _ (List.mem_of_getElem? (i := 881) (by decide +kernel)), List.mem_append_right _ (List.mem_of_getElem? (i := 6) (by decide +kernel)), rfl, by decide +kernel, by decide, by decide +kernel⟩
theorem sr_k_X5_readsTurns : sr_okV mX5_readsTurns := ⟨sr_y_X5_readsTurns, List.mem_append_right _ (List.mem_of_getElem? (i := 880) (by decide +kernel)), List.mem_append_left _ (List.mem_of_getElem? (i := 40) (by decide +kernel)), by decide⟩
theorem sr_y_X5_readsThing : sr_okY mX5_readsThing := ⟨List.mem_append_right _ (List.mem_of_getElem? (i := 889) (by decide +kernel)), List.mem_append_right _ (List.mem_of_getElem? (i := 6) (by decide +kernel)), rfl, by decide +kernel, by decide, by decide +kernel⟩
theorem sr_k_X5_readsThing : sr_okV mX5_readsThing := ⟨sr_y_X5_readsThing, List.mem_append_right _ (List.mem_of_getElem? (i := 888) (by decide +kernel)), List.mem_append_left _ (List.mem_of_getElem? (i := 42) (by decide +kernel)), by decide⟩
theorem sr_y_X5_readsGuest : sr_okY mX5_readsGuest := ⟨List.mem_append_right _ (List.mem_of_getElem? (i := 893) (by decide +kernel)), List.mem_append_right _ (List.mem_of_getElem? (i := 6) (by decide +kernel)), rfl, by decide +kernel, by decide, by decide +kernel⟩
theorem sr_k_X5_readsGuest : sr_okV mX5_readsGuest := ⟨sr_y_X5_readsGuest, List.mem_append_right _ (List.mem_of_getElem? (i := 892) (by decide +kernel)), List.mem_append_left _ (List.mem_of_getElem? (i := 43) (by decide +kernel)), by decide⟩
theorem sr_y_X5_readsItem : sr_okY mX5_readsItem := ⟨List.mem_append_right _ (List.mem_of_getElem? (i := 877) (by decide +kernel)), List.mem_append_right _ (List.mem_of_getElem? (i := 6) (by decide +kernel)), rfl, by decide +kernel, by decide, by decide +kernel⟩
theorem sr_k_X5_readsItem : sr_okV mX5_readsItem := ⟨sr_y_X5_readsItem, List.mem_append_right _ (List.mem_of_getElem? (i := 876) (by decide +kernel)), List.mem_append_left _ (List.mem_of_getElem? (i := 39) (by decide +kernel)), by decide⟩
theorem sr_y_X5_faultOf : sr_okY mX5_faultOf := ⟨List.mem_append_right _ (List.mem_of_getElem? (i := 869) (by decide +kernel)), List.mem_append_right _ (List.mem_of_getElem? (i := 6) (by decide +kernel)), rfl, by decide +kernel, by decide, by decide +kernel⟩
theorem sr_k_X5_faultOf : sr_okV mX5_faultOf := ⟨sr_y_X5_faultOf, List.mem_append_right _ (List.mem_of_getElem? (i := 868) (by decide +kernel)), List.mem_append_left _ (List.mem_of_getElem? (i := 37) (by decide +kernel)), by decide⟩
theorem sr_y_X5_fault : sr_okY mX5_fault := ⟨List.mem_append_right _ (List.mem_of_getElem? (i := 865) (by decide +kernel)), List.mem_append_right _ (List.mem_of_getElem? (i := 6) (by decide +kernel)), rfl, by decide +kernel, by decide, by decide +kernel⟩
theorem sr_k_X5_fault : sr_okV mX5_fault := ⟨sr_y_X5_fault, List.mem_append_right _ (List.mem_of_getElem? (i := 863) (by decide +kernel)), List.mem_append_right _ (List.mem_of_getElem? (i := 864) (by decide +kernel)), by decide⟩
theorem sr_y_X5_hotel : sr_okY mX5_hotel := ⟨List.mem_append_right _ (List.mem_of_getElem? (i := 900) (by decide +kernel)), List.mem_append_right _ (List.mem_of_getElem? (i := 6) (by decide +kernel)), rfl, by decide +kernel, by decide, by decide +kernel⟩
theorem sr_k_X5_hotel : sr_okV mX5_hotel := ⟨sr_y_X5_hotel, List.mem_append_right _ (List.mem_of_getElem? (i := 898) (by decide +kernel)), List.mem_append_right _ (List.mem_of_getElem? (i := 899) (by decide +kernel)), by decide⟩
theorem sr_y_X5_isGuest : sr_okY mX5_isGuest := ⟨List.mem_append_right _ (List.mem_of_getElem? (i := 908) (by decide +kernel)), List.mem_append_right _ (List.mem_of_getElem? (i := 6) (by decide +kernel)), rfl, by decide +kernel, by decide, by decide +kernel⟩
theorem sr_k_X5_isGuest : sr_okV mX5_isGuest := ⟨sr_y_X5_isGuest, List.mem_append_right _ (List.mem_of_getElem? (i := 907) (by decide +kernel)), List.mem_append_left _ (List.mem_of_getElem? (i := 44) (by decide +kernel)), by decide⟩
theorem sr_y_X5_isThing : sr_okY mX5_isThing := ⟨List.mem_append_right _ (List.mem_of_getElem? (i := 1053) (by decide +kernel)), List.mem_append_right _ (List.mem_of_getElem? (i := 6) (by decide +kernel)), rfl, by decide +kernel, by decide, by decide +kernel⟩
theorem sr_k_X5_isThing : sr_okV mX5_isThing := ⟨sr_y_X5_isThing, List.mem_append_right _ (List.mem_of_getElem? (i := 1052) (by decide +kernel)), List.mem_append_left _ (List.mem_of_getElem? (i := 60) (by decide +kernel)), by decide⟩
theorem sr_y_X5_isThings : sr_okY mX5_isThings := ⟨List.mem_append_right _ (List.mem_of_getElem? (i := 1020) (by decide +kernel)), List.mem_append_right _ (List.mem_of_getElem? (i := 6) (by decide +kernel)), rfl, by decide +kernel, by decide, by decide +kernel⟩
theorem sr_k_X5_isThings : sr_okV mX5_isThings := ⟨sr_y_X5_isThings, List.mem_append_right _ (List.mem_of_getElem? (i := 1019) (by decide +kernel)), List.mem_append_left _ (List.mem_of_getElem? (i := 56) (by decide +kernel)), by decide⟩
theorem sr_y_X5_allLives : sr_okY mX5_allLives := ⟨List.mem_append_right _ (List.mem_of_getElem? (i := 924) (by decide +kernel)), List.mem_append_right _ (List.mem_of_getElem? (i := 6) (by decide +kernel)), rfl, by decide +kernel, by decide, by decide +kernel⟩
theorem sr_k_X5_allLives : sr_okV mX5_allLives := ⟨sr_y_X5_allLives, List.mem_append_right _ (List.mem_of_getElem? (i := 923) (by decide +kernel)), List.mem_append_left _ (List.mem_of_getElem? (i := 48) (by decide +kernel)), by decide⟩
theorem sr_y_X5_withChoice : sr_okY mX5_withChoice := ⟨List.mem_append_right _ (List.mem_of_getElem? (i := 927) (by decide +kernel)), List.mem_append_right _ (List.mem_of_getElem? (i := 6) (by decide +kernel)), rfl, by decide +kernel, by decide, by decide +kernel⟩
theorem sr_k_X5_withChoice : sr_okS mX5_withChoice := ⟨sr_y_X5_withChoice, List.mem_append_right _ (List.mem_of_getElem? (i := 926) (by decide +kernel))⟩
theorem sr_y_X5_secondBy : sr_okY mX5_secondBy := ⟨List.mem_append_right _ (List.mem_of_getElem? (i := 920) (by decide +kernel)), List.mem_append_right _ (List.mem_of_getElem? (i := 6) (by decide +kernel)), rfl, by decide +kernel, by decide, by decide +kernel⟩
theorem sr_k_X5_secondBy : sr_okV mX5_secondBy := ⟨sr_y_X5_secondBy, List.mem_append_right _ (List.mem_of_getElem? (i := 919) (by decide +kernel)), List.mem_append_left _ (List.mem_of_getElem? (i := 47) (by decide +kernel)), by decide⟩
theorem sr_y_X5_second : sr_okY mX5_second := ⟨List.mem_append_right _ (List.mem_of_getElem? (i := 916) (by decide +kernel)), List.mem_append_right _ (List.mem_of_getElem? (i := 6) (by decide +kernel)), rfl, by decide +kernel, by decide, by decide +kernel⟩
theorem sr_k_X5_second : sr_okV mX5_second := ⟨sr_y_X5_second, List.mem_append_right _ (List.mem_of_getElem? (i := 915) (by decide +kernel)), List.mem_append_left _ (List.mem_of_getElem? (i := 46) (by decide +kernel)), by decide⟩
theorem sr_y_X5_isHad : sr_okY mX5_isHad := ⟨List.mem_append_right _ (List.mem_of_getElem? (i := 950) (by decide +kernel)), List.mem_append_right _ (List.mem_of_getElem? (i := 6) (by decide +kernel)), rfl, by decide +kernel, by decide, by decide +kernel⟩
theorem sr_k_X5_isHad : sr_okV mX5_isHad := ⟨sr_y_X5_isHad, List.mem_append_right _ (List.mem_of_getElem? (i := 949) (by decide +kernel)), List.mem_append_left _ (List.mem_of_getElem? (i := 52) (by decide +kernel)), by decide⟩
theorem sr_y_X5_thingsOf : sr_okY mX5_thingsOf := ⟨List.mem_append_right _ (List.mem_of_getElem? (i := 946) (by decide +kernel)), List.mem_append_right _ (List.mem_of_getElem? (i := 6) (by decide +kernel)), rfl, by decide +kernel, by decide, by decide +kernel⟩
theorem sr_k_X5_thingsOf : sr_okV mX5_thingsOf := ⟨sr_y_X5_thingsOf, List.mem_append_right _ (List.mem_of_getElem? (i := 945) (by decide +kernel)), List.mem_append_left _ (List.mem_of_getElem? (i := 51) (by decide +kernel)), by decide⟩
theorem sr_y_X5_guestTells : sr_okY mX5_guestTells := ⟨List.mem_append_right _ (List.mem_of_getElem? (i := 912) (by decide +kernel)), List.mem_append_right _ (List.mem_of_getElem? (i := 6) (by decide +kernel)), rfl, by decide +kernel, by decide, by decide +kernel⟩
theorem sr_k_X5_guestTells : sr_okV mX5_guestTells := ⟨sr_y_X5_guestTells, List.mem_append_right _ (List.mem_of_getElem? (i := 911) (by decide +kernel)), List.mem_append_left _ (List.mem_of_getElem? (i := 45) (by decide +kernel)), by decide⟩
theorem sr_y_X5_guest : sr_okY mX5_guest := ⟨List.mem_append_right _ (List.mem_of_getElem? (i := 904) (by decide +kernel)), List.mem_append_right _ (List.mem_of_getElem? (i := 6) (by decide +kernel)), rfl, by decide +kernel, by decide, by decide +kernel⟩
theorem sr_k_X5_guest : sr_okV mX5_guest := ⟨sr_y_X5_guest, List.mem_append_right _ (List.mem_of_getElem? (i := 902) (by decide +kernel)), List.mem_append_right _ (List.mem_of_getElem? (i := 903) (by decide +kernel)), by decide⟩
theorem sr_y_X5_isSoldier : sr_okY mX5_isSoldier := ⟨List.mem_append_right _ (List.mem_of_getElem? (i := 942) (by decide +kernel)), List.mem_append_right _ (List.mem_of_getElem? (i := 6) (by decide +kernel)), rfl, by decide +kernel, by decide, by decide +kernel⟩
theorem sr_k_X5_isSoldier : sr_okV mX5_isSoldier := ⟨sr_y_X5_isSoldier, List.mem_append_right _ (List.mem_of_getElem? (i := 941) (by decide +kernel)), List.mem_append_left _ (List.mem_of_getElem? (i := 50) (by decide +kernel)), by decide⟩
theorem sr_y_X5_soldiers : sr_okY mX5_soldiers := ⟨List.mem_append_right _ (List.mem_of_getElem? (i := 938) (by decide +kernel)), List.mem_append_right _ (List.mem_of_getElem? (i := 6) (by decide +kernel)), rfl, by decide +kernel, by decide, by decide +kernel⟩
theorem sr_k_X5_soldiers : sr_okV mX5_soldiers := ⟨sr_y_X5_soldiers, List.mem_append_right _ (List.mem_of_getElem? (i := 937) (by decide +kernel)), List.mem_append_left _ (List.mem_of_getElem? (i := 49) (by decide +kernel)), by decide⟩
theorem sr_y_X5_mark : sr_okY mX5_mark := ⟨List.mem_append_right _ (List.mem_of_getElem? (i := 931) (by decide +kernel)), List.mem_append_right _ (List.mem_of_getElem? (i := 6) (by decide +kernel)), rfl, by decide +kernel, by decide, by decide +kernel⟩
theorem sr_k_X5_mark : sr_okV mX5_mark := ⟨sr_y_X5_mark, List.mem_append_right _ (List.mem_of_getElem? (i := 929) (by decide +kernel)), List.mem_append_right _ (List.mem_of_getElem? (i := 930) (by decide +kernel)), by decide⟩
theorem sr_y_X5_turn : sr_okY mX5_turn := ⟨List.mem_append_right _ (List.mem_of_getElem? (i := 954) (by decide +kernel)), List.mem_append_right _ (List.mem_of_getElem? (i := 6) (by decide +kernel)), rfl, by decide +kernel, by decide, by decide +kernel⟩
theorem sr_k_X5_turn : sr_okV mX5_turn := ⟨sr_y_X5_turn, List.mem_append_right _ (List.mem_of_getElem? (i := 952) (by decide +kernel)), List.mem_append_right _ (List.mem_of_getElem? (i := 953) (by decide +kernel)), by decide⟩
theorem sr_y_X5_remember : sr_okY mX5_remember := ⟨List.mem_append_right _ (List.mem_of_getElem? (i := 965) (by decide +kernel)), List.mem_append_right _ (List.mem_of_getElem? (i := 6) (by decide +kernel)), rfl, by decide +kernel, by decide, by decide +kernel⟩
theorem sr_k_X5_remember : sr_okV mX5_remember := ⟨sr_y_X5_remember, List.mem_append_right _ (List.mem_of_getElem? (i := 964) (by decide +kernel)), List.mem_append_left _ (List.mem_of_getElem? (i := 53) (by decide +kernel)), by decide⟩
theorem sr_y_X5_uses : sr_okY mX5_uses := ⟨List.mem_append_right _ (List.mem_of_getElem? (i := 977) (by decide +kernel)), List.mem_append_right _ (List.mem_of_getElem? (i := 6) (by decide +kernel)), rfl, by decide +kernel, by decide, by decide +kernel⟩
theorem sr_k_X5_uses : sr_okV mX5_uses := ⟨sr_y_X5_uses, List.mem_append_right _ (List.mem_of_getElem? (i := 976) (by decide +kernel)), List.mem_append_left _ (List.mem_of_getElem? (i := 54) (by decide +kernel)), by decide⟩
theorem sr_y_X5_change : sr_okY mX5_change := ⟨List.mem_append_right _ (List.mem_of_getElem? (i := 958) (by decide +kernel)), List.mem_append_right _ (List.mem_of_getElem? (i := 6) (by decide +kernel)), rfl, by decide +kernel, by decide, by decide +kernel⟩
theorem sr_k_X5_change : sr_okV mX5_change := ⟨sr_y_X5_change, List.mem_append_right _ (List.mem_of_getElem? (i := 956) (by decide +kernel)), List.mem_append_right _ (List.mem_of_getElem? (i := 957) (by decide +kernel)), by decide⟩
theorem sr_y_X5_lock : sr_okY mX5_lock := ⟨List.mem_append_right _ (List.mem_of_getElem? (i := 969) (by decide +kernel)), List.mem_append_right _ (List.mem_of_getElem? (i := 6) (by decide +kernel)), rfl, by decide +kernel, by decide, by decide +kernel⟩
theorem sr_k_X5_lock : sr_okV mX5_lock := ⟨sr_y_X5_lock, List.mem_append_right _ (List.mem_of_getElem? (i := 967) (by decide +kernel)), List.mem_append_right _ (List.mem_of_getElem? (i := 968) (by decide +kernel)), by decide⟩
theorem sr_y_X5_use : sr_okY mX5_use := ⟨List.mem_append_right _ (List.mem_of_getElem? (i := 973) (by decide +kernel)), List.mem_append_right _ (List.mem_of_getElem? (i := 6) (by decide +kernel)), rfl, by decide +kernel, by decide, by decide +kernel⟩
theorem sr_k_X5_use : sr_okV mX5_use := ⟨sr_y_X5_use, List.mem_append_right _ (List.mem_of_getElem? (i := 971) (by decide +kernel)), List.mem_append_right _ (List.mem_of_getElem? (i := 972) (by decide +kernel)), by decide⟩
theorem sr_y_X5_undo : sr_okY mX5_undo := ⟨List.mem_append_right _ (List.mem_of_getElem? (i := 981) (by decide +kernel)), List.mem_append_right _ (List.mem_of_getElem? (i := 6) (by decide +kernel)), rfl, by decide +kernel, by decide, by decide +kernel⟩
theorem sr_k_X5_undo : sr_okV mX5_undo := ⟨sr_y_X5_undo, List.mem_append_right _ (List.mem_of_getElem? (i := 979) (by decide +kernel)), List.mem_append_right _ (List.mem_of_getElem? (i := 980) (by decide +kernel)), by decide⟩
theorem sr_y_X5_keep : sr_okY mX5_keep := ⟨List.mem_append_right _ (List.mem_of_getElem? (i := 985) (by decide +kernel)), List.mem_append_right _ (List.mem_of_getElem? (i := 6) (by decide +kernel)), rfl, by decide +kernel, by decide, by decide +kernel⟩
theorem sr_k_X5_keep : sr_okV mX5_keep := ⟨sr_y_X5_keep, List.mem_append_right _ (List.mem_of_getElem? (i := 983) (by decide +kernel)), List.mem_append_right _ (List.mem_of_getElem? (i := 984) (by decide +kernel)), by decide⟩
theorem sr_y_X5_on : sr_okY mX5_on := ⟨List.mem_append_right _ (List.mem_of_getElem? (i := 989) (by decide +kernel)), List.mem_append_right _ (List.mem_of_getElem? (i := 6) (by decide +kernel)), rfl, by decide +kernel, by decide, by decide +kernel⟩
theorem sr_k_X5_on : sr_okV mX5_on := ⟨sr_y_X5_on, List.mem_append_right _ (List.mem_of_getElem? (i := 987) (by decide +kernel)), List.mem_append_right _ (List.mem_of_getElem? (i := 988) (by decide +kernel)), by decide⟩
theorem sr_y_X5_roomOf : sr_okY mX5_roomOf := ⟨List.mem_append_right _ (List.mem_of_getElem? (i := 997) (by decide +kernel)), List.mem_append_right _ (List.mem_of_getElem? (i := 6) (by decide +kernel)), rfl, by decide +kernel, by decide, by decide +kernel⟩
theorem sr_k_X5_roomOf : sr_okV mX5_roomOf := ⟨sr_y_X5_roomOf, List.mem_append_right _ (List.mem_of_getElem? (i := 996) (by decide +kernel)), List.mem_append_left _ (List.mem_of_getElem? (i := 55) (by decide +kernel)), by decide⟩
theorem sr_y_X5_things : sr_okY mX5_things := ⟨List.mem_append_right _ (List.mem_of_getElem? (i := 993) (by decide +kernel)), List.mem_append_right _ (List.mem_of_getElem? (i := 6) (by decide +kernel)), rfl, by decide +kernel, by decide, by decide +kernel⟩
theorem sr_k_X5_things : sr_okV mX5_things := ⟨sr_y_X5_things, List.mem_append_right _ (List.mem_of_getElem? (i := 991) (by decide +kernel)), List.mem_append_right _ (List.mem_of_getElem? (i := 992) (by decide +kernel)), by decide⟩
theorem sr_y_X5_both : sr_okY mX5_both := ⟨List.mem_append_right _ (List.mem_of_getElem? (i := 1001) (by decide +kernel)), List.mem_append_right _ (List.mem_of_getElem? (i := 6) (by decide +kernel)), rfl, by decide +kernel, by decide, by decide +kernel⟩
theorem sr_k_X5_both : sr_okV mX5_both := ⟨sr_y_X5_both, List.mem_append_right _ (List.mem_of_getElem? (i := 999) (by decide +kernel)), List.mem_append_right _ (List.mem_of_getElem? (i := 1000) (by decide +kernel)), by decide⟩
theorem sr_y_X5_lowest : sr_okY mX5_lowest := ⟨List.mem_append_right _ (List.mem_of_getElem? (i := 1008) (by decide +kernel)), List.mem_append_right _ (List.mem_of_getElem? (i := 6) (by decide +kernel)), rfl, by decide +kernel, by decide, by decide +kernel⟩
theorem sr_k_X5_lowest : sr_okS mX5_lowest := ⟨sr_y_X5_lowest, List.mem_append_right _ (List.mem_of_getElem? (i := 1007) (by decide +kernel))⟩
theorem sr_y_X5_apart : sr_okY mX5_apart := ⟨List.mem_append_right _ (List.mem_of_getElem? (i := 1005) (by decide +kernel)), List.mem_append_right _ (List.mem_of_getElem? (i := 6) (by decide +kernel)), rfl, by decide +kernel, by decide, by decide +kernel⟩
theorem sr_k_X5_apart : sr_okV mX5_apart := ⟨sr_y_X5_apart, List.mem_append_right _ (List.mem_of_getElem? (i := 1003) (by decide +kernel)), List.mem_append_right _ (List.mem_of_getElem? (i := 1004) (by decide +kernel)), by decide⟩
theorem sr_y_X5_has : sr_okY mX5_has := ⟨List.mem_append_right _ (List.mem_of_getElem? (i := 1012) (by decide +kernel)), List.mem_append_right _ (List.mem_of_getElem? (i := 6) (by decide +kernel)), rfl, by decide +kernel, by decide, by decide +kernel⟩
theorem sr_k_X5_has : sr_okV mX5_has := ⟨sr_y_X5_has, List.mem_append_right _ (List.mem_of_getElem? (i := 1010) (by decide +kernel)), List.mem_append_right _ (List.mem_of_getElem? (i := 1011) (by decide +kernel)), by decide⟩
theorem sr_y_X5_fits : sr_okY mX5_fits := ⟨List.mem_append_right _ (List.mem_of_getElem? (i := 1016) (by decide +kernel)), List.mem_append_right _ (List.mem_of_getElem? (i := 6) (by decide +kernel)), rfl, by decide +kernel, by decide, by decide +kernel⟩
theorem sr_k_X5_fits : sr_okV mX5_fits := ⟨sr_y_X5_fits, List.mem_append_right _ (List.mem_of_getElem? (i := 1014) (by decide +kernel)), List.mem_append_right _ (List.mem_of_getElem? (i := 1015) (by decide +kernel)), by decide⟩
theorem sr_y_X5_isTold : sr_okY mX5_isTold := ⟨List.mem_append_right _ (List.mem_of_getElem? (i := 1032) (by decide +kernel)), List.mem_append_right _ (List.mem_of_getElem? (i := 6) (by decide +kernel)), rfl, by decide +kernel, by decide, by decide +kernel⟩
theorem sr_k_X5_isTold : sr_okV mX5_isTold := ⟨sr_y_X5_isTold, List.mem_append_right _ (List.mem_of_getElem? (i := 1031) (by decide +kernel)), List.mem_append_left _ (List.mem_of_getElem? (i := 58) (by decide +kernel)), by decide⟩
theorem sr_y_X5_fewestBy : sr_okY mX5_fewestBy := ⟨List.mem_append_right _ (List.mem_of_getElem? (i := 1028) (by decide +kernel)), List.mem_append_right _ (List.mem_of_getElem? (i := 6) (by decide +kernel)), rfl, by decide +kernel, by decide, by decide +kernel⟩
theorem sr_k_X5_fewestBy : sr_okV mX5_fewestBy := ⟨sr_y_X5_fewestBy, List.mem_append_right _ (List.mem_of_getElem? (i := 1027) (by decide +kernel)), List.mem_append_left _ (List.mem_of_getElem? (i := 57) (by decide +kernel)), by decide⟩
theorem sr_y_X5_looks : sr_okY mX5_looks := ⟨List.mem_append_right _ (List.mem_of_getElem? (i := 1024) (by decide +kernel)), List.mem_append_right _ (List.mem_of_getElem? (i := 6) (by decide +kernel)), rfl, by decide +kernel, by decide, by decide +kernel⟩
theorem sr_k_X5_looks : sr_okV mX5_looks := ⟨sr_y_X5_looks, List.mem_append_right _ (List.mem_of_getElem? (i := 1022) (by decide +kernel)), List.mem_append_right _ (List.mem_of_getElem? (i := 1023) (by decide +kernel)), by decide⟩
theorem sr_y_X5_thereBy : sr_okY mX5_thereBy := ⟨List.mem_append_right _ (List.mem_of_getElem? (i := 1041) (by decide +kernel)), List.mem_append_right _ (List.mem_of_getElem? (i := 6) (by decide +kernel)), rfl, by decide +kernel, by decide, by decide +kernel⟩
theorem sr_k_X5_thereBy : sr_okV mX5_thereBy := ⟨sr_y_X5_thereBy, List.mem_append_right _ (List.mem_of_getElem? (i := 1040) (by decide +kernel)), List.mem_append_left _ (List.mem_of_getElem? (i := 59) (by decide +kernel)), by decide⟩
theorem sr_y_X5_drawer : sr_okY mX5_drawer := ⟨List.mem_append_right _ (List.mem_of_getElem? (i := 1036) (by decide +kernel)), List.mem_append_right _ (List.mem_of_getElem? (i := 6) (by decide +kernel)), rfl, by decide +kernel, by decide, by decide +kernel⟩
theorem sr_k_X5_drawer : sr_okV mX5_drawer := ⟨sr_y_X5_drawer, List.mem_append_right _ (List.mem_of_getElem? (i := 1034) (by decide +kernel)), List.mem_append_right _ (List.mem_of_getElem? (i := 1035) (by decide +kernel)), by decide⟩
theorem sr_y_X5_lives : sr_okY mX5_lives := ⟨List.mem_append_right _ (List.mem_of_getElem? (i := 1045) (by decide +kernel)), List.mem_append_right _ (List.mem_of_getElem? (i := 6) (by decide +kernel)), rfl, by decide +kernel, by decide, by decide +kernel⟩
theorem sr_k_X5_lives : sr_okV mX5_lives := ⟨sr_y_X5_lives, List.mem_append_right _ (List.mem_of_getElem? (i := 1043) (by decide +kernel)), List.mem_append_right _ (List.mem_of_getElem? (i := 1044) (by decide +kernel)), by decide⟩
theorem sr_y_X5_nearest : sr_okY mX5_nearest := ⟨List.mem_append_right _ (List.mem_of_getElem? (i := 1049) (by decide +kernel)), List.mem_append_right _ (List.mem_of_getElem? (i := 6) (by decide +kernel)), rfl, by decide +kernel, by decide, by decide +kernel⟩
theorem sr_k_X5_nearest : sr_okV mX5_nearest := ⟨sr_y_X5_nearest, List.mem_append_right _ (List.mem_of_getElem? (i := 1047) (by decide +kernel)), List.mem_append_right _ (List.mem_of_getElem? (i := 1048) (by decide +kernel)), by decide⟩
theorem sr_y_X5_isSecond : sr_okY mX5_isSecond := ⟨List.mem_append_right _ (List.mem_of_getElem? (i := 1061) (by decide +kernel)), List.mem_append_right _ (List.mem_of_getElem? (i := 6) (by decide +kernel)), rfl, by decide +kernel, by decide, by decide +kernel⟩
theorem sr_k_X5_isSecond : sr_okV mX5_isSecond := ⟨sr_y_X5_isSecond, List.mem_append_right _ (List.mem_of_getElem? (i := 1060) (by decide +kernel)), List.mem_append_left _ (List.mem_of_getElem? (i := 61) (by decide +kernel)), by decide⟩
theorem sr_y_X5_twins : sr_okY mX5_twins := ⟨List.mem_append_right _ (List.mem_of_getElem? (i := 1057) (by decide +kernel)), List.mem_append_right _ (List.mem_of_getElem? (i := 6) (by decide +kernel)), rfl, by decide +kernel, by decide, by decide +kernel⟩
theorem sr_k_X5_twins : sr_okV mX5_twins := ⟨sr_y_X5_twins, List.mem_append_right _ (List.mem_of_getElem? (i := 1055) (by decide +kernel)), List.mem_append_right _ (List.mem_of_getElem? (i := 1056) (by decide +kernel)), by decide⟩
theorem sr_y_X5_pairs : sr_okY mX5_pairs := ⟨List.mem_append_right _ (List.mem_of_getElem? (i := 1065) (by decide +kernel)), List.mem_append_right _ (List.mem_of_getElem? (i := 6) (by decide +kernel)), rfl, by decide +kernel, by decide, by decide +kernel⟩
theorem sr_k_X5_pairs : sr_okV mX5_pairs := ⟨sr_y_X5_pairs, List.mem_append_right _ (List.mem_of_getElem? (i := 1063) (by decide +kernel)), List.mem_append_right _ (List.mem_of_getElem? (i := 1064) (by decide +kernel)), by decide⟩
theorem sr_y_X5_layRings : sr_okY mX5_layRings := ⟨List.mem_append_right _ (List.mem_of_getElem? (i := 1073) (by decide +kernel)), List.mem_append_right _ (List.mem_of_getElem? (i := 6) (by decide +kernel)), rfl, by decide +kernel, by decide, by decide +kernel⟩
theorem sr_k_X5_layRings : sr_okV mX5_layRings := ⟨sr_y_X5_layRings, List.mem_append_right _ (List.mem_of_getElem? (i := 1072) (by decide +kernel)), List.mem_append_left _ (List.mem_of_getElem? (i := 62) (by decide +kernel)), by decide⟩
theorem sr_y_X5_ring : sr_okY mX5_ring := ⟨List.mem_append_right _ (List.mem_of_getElem? (i := 1069) (by decide +kernel)), List.mem_append_right _ (List.mem_of_getElem? (i := 6) (by decide +kernel)), rfl, by decide +kernel, by decide, by decide +kernel⟩
theorem sr_k_X5_ring : sr_okV mX5_ring := ⟨sr_y_X5_ring, List.mem_append_right _ (List.mem_of_getElem? (i := 1067) (by decide +kernel)), List.mem_append_right _ (List.mem_of_getElem? (i := 1068) (by decide +kernel)), by decide⟩
theorem sr_y_X5_who : sr_okY mX5_who := ⟨List.mem_append_right _ (List.mem_of_getElem? (i := 1077) (by decide +kernel)), List.mem_append_right _ (List.mem_of_getElem? (i := 6) (by decide +kernel)), rfl, by decide +kernel, by decide, by decide +kernel⟩
theorem sr_k_X5_who : sr_okV mX5_who := ⟨sr_y_X5_who, List.mem_append_right _ (List.mem_of_getElem? (i := 1075) (by decide +kernel)), List.mem_append_right _ (List.mem_of_getElem? (i := 1076) (by decide +kernel)), by decide⟩
theorem sr_y_X5_marks : sr_okY mX5_marks := ⟨List.mem_append_right _ (List.mem_of_getElem? (i := 1081) (by decide +kernel)), List.mem_append_right _ (List.mem_of_getElem? (i := 6) (by decide +kernel)), rfl, by decide +kernel, by decide, by decide +kernel⟩
theorem sr_k_X5_marks : sr_okV mX5_marks := ⟨sr_y_X5_marks, List.mem_append_right _ (List.mem_of_getElem? (i := 1079) (by decide +kernel)), List.mem_append_right _ (List.mem_of_getElem? (i := 1080) (by decide +kernel)), by decide⟩
theorem sr_y_X5_billOf : sr_okY mX5_billOf := ⟨List.mem_append_right _ (List.mem_of_getElem? (i := 1089) (by decide +kernel)), List.mem_append_right _ (List.mem_of_getElem? (i := 6) (by decide +kernel)), rfl, by decide +kernel, by decide, by decide +kernel⟩
theorem sr_k_X5_billOf : sr_okV mX5_billOf := ⟨sr_y_X5_billOf, List.mem_append_right _ (List.mem_of_getElem? (i := 1088) (by decide +kernel)), List.mem_append_left _ (List.mem_of_getElem? (i := 63) (by decide +kernel)), by decide⟩
theorem sr_y_X5_bill : sr_okY mX5_bill := ⟨List.mem_append_right _ (List.mem_of_getElem? (i := 1085) (by decide +kernel)), List.mem_append_right _ (List.mem_of_getElem? (i := 6) (by decide +kernel)), rfl, by decide +kernel, by decide, by decide +kernel⟩
theorem sr_k_X5_bill : sr_okV mX5_bill := ⟨sr_y_X5_bill, List.mem_append_right _ (List.mem_of_getElem? (i := 1083) (by decide +kernel)), List.mem_append_right _ (List.mem_of_getElem? (i := 1084) (by decide +kernel)), by decide⟩
theorem sr_y_X5_pays : sr_okY mX5_pays := ⟨List.mem_append_right _ (List.mem_of_getElem? (i := 1093) (by decide +kernel)), List.mem_append_right _ (List.mem_of_getElem? (i := 6) (by decide +kernel)), rfl, by decide +kernel, by decide, by decide +kernel⟩
theorem sr_k_X5_pays : sr_okV mX5_pays := ⟨sr_y_X5_pays, List.mem_append_right _ (List.mem_of_getElem? (i := 1091) (by decide +kernel)), List.mem_append_right _ (List.mem_of_getElem? (i := 1092) (by decide +kernel)), by decide⟩
theorem sr_y_X5_cheapest : sr_okY mX5_cheapest := ⟨List.mem_append_right _ (List.mem_of_getElem? (i := 1097) (by decide +kernel)), List.mem_append_right _ (List.mem_of_getElem? (i := 6) (by decide +kernel)), rfl, by decide +kernel, by decide, by decide +kernel⟩
theorem sr_k_X5_cheapest : sr_okV mX5_cheapest := ⟨sr_y_X5_cheapest, List.mem_append_right _ (List.mem_of_getElem? (i := 1095) (by decide +kernel)), List.mem_append_right _ (List.mem_of_getElem? (i := 1096) (by decide +kernel)), by decide⟩
theorem sr_y_X5_spread : sr_okY mX5_spread := ⟨List.mem_append_right _ (List.mem_of_getElem? (i := 1101) (by decide +kernel)), List.mem_append_right _ (List.mem_of_getElem? (i := 6) (by decide +kernel)), rfl, by decide +kernel, by decide, by decide +kernel⟩
theorem sr_k_X5_spread : sr_okV mX5_spread := ⟨sr_y_X5_spread, List.mem_append_right _ (List.mem_of_getElem? (i := 1099) (by decide +kernel)), List.mem_append_right _ (List.mem_of_getElem? (i := 1100) (by decide +kernel)), by decide⟩
theorem sr_y_X5_odds : sr_okY mX5_odds := ⟨List.mem_append_right _ (List.mem_of_getElem? (i := 1109) (by decide +kernel)), List.mem_append_right _ (List.mem_of_getElem? (i := 6) (by decide +kernel)), rfl, by decide +kernel, by decide, by decide +kernel⟩
theorem sr_k_X5_odds : sr_okV mX5_odds := ⟨sr_y_X5_odds, List.mem_append_right _ (List.mem_of_getElem? (i := 1107) (by decide +kernel)), List.mem_append_right _ (List.mem_of_getElem? (i := 1108) (by decide +kernel)), by decide⟩
theorem sr_y_X5_lots : sr_okY mX5_lots := ⟨List.mem_append_right _ (List.mem_of_getElem? (i := 1113) (by decide +kernel)), List.mem_append_right _ (List.mem_of_getElem? (i := 6) (by decide +kernel)), rfl, by decide +kernel, by decide, by decide +kernel⟩
theorem sr_k_X5_lots : sr_okV mX5_lots := ⟨sr_y_X5_lots, List.mem_append_right _ (List.mem_of_getElem? (i := 1111) (by decide +kernel)), List.mem_append_right _ (List.mem_of_getElem? (i := 1112) (by decide +kernel)), by decide⟩
theorem sr_y_X5_counted : sr_okY mX5_counted := ⟨List.mem_append_right _ (List.mem_of_getElem? (i := 1126) (by decide +kernel)), List.mem_append_right _ (List.mem_of_getElem? (i := 6) (by decide +kernel)), rfl, by decide +kernel, by decide, by decide +kernel⟩
theorem sr_k_X5_counted : sr_okV mX5_counted := ⟨sr_y_X5_counted, List.mem_append_right _ (List.mem_of_getElem? (i := 1125) (by decide +kernel)), List.mem_append_left _ (List.mem_of_getElem? (i := 65) (by decide +kernel)), by decide⟩
theorem sr_y_X5_count : sr_okY mX5_count := ⟨List.mem_append_right _ (List.mem_of_getElem? (i := 1122) (by decide +kernel)), List.mem_append_right _ (List.mem_of_getElem? (i := 6) (by decide +kernel)), rfl, by decide +kernel, by decide, by decide +kernel⟩
theorem sr_k_X5_count : sr_okV mX5_count := ⟨sr_y_X5_count, List.mem_append_right _ (List.mem_of_getElem? (i := 1120) (by decide +kernel)), List.mem_append_right _ (List.mem_of_getElem? (i := 1121) (by decide +kernel)), by decide⟩
theorem sr_y_X5_mix : sr_okY mX5_mix := ⟨List.mem_append_right _ (List.mem_of_getElem? (i := 1135) (by decide +kernel)), List.mem_append_right _ (List.mem_of_getElem? (i := 6) (by decide +kernel)), rfl, by decide +kernel, by decide, by decide +kernel⟩
theorem sr_k_X5_mix : sr_okV mX5_mix := ⟨sr_y_X5_mix, List.mem_append_right _ (List.mem_of_getElem? (i := 1134) (by decide +kernel)), List.mem_append_left _ (List.mem_of_getElem? (i := 66) (by decide +kernel)), by decide⟩
theorem sr_y_X5_mixHotel : sr_okY mX5_mixHotel := ⟨List.mem_append_right _ (List.mem_of_getElem? (i := 1140) (by decide +kernel)), List.mem_append_right _ (List.mem_of_getElem? (i := 6) (by decide +kernel)), rfl, by decide +kernel, by decide, by decide +kernel⟩
theorem sr_k_X5_mixHotel : sr_okV mX5_mixHotel := ⟨sr_y_X5_mixHotel, List.mem_append_right _ (List.mem_of_getElem? (i := 1139) (by decide +kernel)), List.mem_append_left _ (List.mem_of_getElem? (i := 67) (by decide +kernel)), by decide⟩
theorem sr_y_X5_digest : sr_okY mX5_digest := ⟨List.mem_append_right _ (List.mem_of_getElem? (i := 1130) (by decide +kernel)), List.mem_append_right _ (List.mem_of_getElem? (i := 6) (by decide +kernel)), rfl, by decide +kernel, by decide, by decide +kernel⟩
theorem sr_k_X5_digest : sr_okV mX5_digest := ⟨sr_y_X5_digest, List.mem_append_right _ (List.mem_of_getElem? (i := 1128) (by decide +kernel)), List.mem_append_right _ (List.mem_of_getElem? (i := 1129) (by decide +kernel)), by decide⟩
theorem sr_y_J6_bitCount : sr_okY mJ6_bitCount := ⟨List.mem_append_right _ (List.mem_of_getElem? (i := 408) (by decide +kernel)), List.mem_append_right _ (List.mem_of_getElem? (i := 8) (by decide +kernel)), rfl, by decide +kernel, by decide, by decide +kernel⟩
theorem sr_k_J6_bitCount : sr_okS mJ6_bitCount := ⟨sr_y_J6_bitCount, List.mem_append_right _ (List.mem_of_getElem? (i := 407) (by decide +kernel))⟩
/-- what the tables say of a method link -/
def sr_okL (own idx kind : Nat) (md : sr_MD) : Prop := match kind with
  | 0 => Cond.methodLink (sr_R own) idx md.2.1 ∈ lw_tbl ∧ sr_okV md
  | 1 => Cond.methodLink (sr_R own) idx md.2.1 ∈ lw_tbl ∧ sr_okS md
  | 2 => Cond.methodLink (sr_R own) idx md.2.1 ∈ lw_tbl ∧ sr_okI md
  | 3 => Cond.methodLink (sr_R own) idx objectInit ∈ lw_tbl
  | 4 => Cond.methodLink (sr_R own) idx arraycopyName ∈ lw_tbl
  | 5 => Cond.methodLinkNest (sr_R own) idx md.2.1 "SecondRoom" ∈ lw_tbl ∧ sr_okI md
  | _ => Cond.methodLink (sr_R own) idx yJ9_max_7cf53 ∈ lw_tbl
theorem sr_l_0_3 : sr_okL 0 3 3 mX0_clear := List.mem_append_right _ (List.mem_of_getElem? (i := 60) (by decide +kernel))
theorem sr_l_0_37 : sr_okL 0 37 0 mX0_clear := ⟨List.mem_append_right _ (List.mem_of_getElem? (i := 341) (by decide +kernel)), sr_k_X0_clear⟩
theorem sr_l_0_40 : sr_okL 0 40 0 mX0_addGuest := ⟨List.mem_append_right _ (List.mem_of_getElem? (i := 342) (by decide +kernel)), sr_k_X0_addGuest⟩
theorem sr_l_0_44 : sr_okL 0 44 0 mX0_addThing := ⟨List.mem_append_right _ (List.mem_of_getElem? (i := 343) (by decide +kernel)), sr_k_X0_addThing⟩
theorem sr_l_0_58 : sr_okL 0 58 0 mX0_lifeCount := ⟨List.mem_append_right _ (List.mem_of_getElem? (i := 376) (by decide +kernel)), sr_k_X0_lifeCount⟩
theorem sr_l_0_62 : sr_okL 0 62 0 mX0_lastAsFirst := ⟨List.mem_append_right _ (List.mem_of_getElem? (i := 380) (by decide +kernel)), sr_k_X0_lastAsFirst⟩
theorem sr_l_0_51 : sr_okL 0 51 0 mX0_isOfKind := ⟨List.mem_append_right _ (List.mem_of_getElem? (i := 416) (by decide +kernel)), sr_k_X0_isOfKind⟩
theorem sr_l_0_55 : sr_okL 0 55 0 mX0_lifeHas := ⟨List.mem_append_right _ (List.mem_of_getElem? (i := 425) (by decide +kernel)), sr_k_X0_lifeHas⟩
set_option maxRecDepth 20000 in
theorem sr_mls_ok_0 : ∀ q ∈ sr_mls_0, sr_okL 0 q.1 q.2.1 q.2.2 := List.forall_mem_cons.mpr ⟨sr_l_0_3, List.forall_mem_cons.mpr ⟨sr_l_0_37, List.forall_mem_cons.mpr ⟨sr_l_0_40, List.forall_mem_cons.mpr ⟨sr_l_0_44, List.forall_mem_cons.mpr ⟨sr_l_0_58, List.forall_mem_cons.mpr ⟨sr_l_0_62, List.forall_mem_cons.mpr ⟨sr_l_0_51, List.forall_mem_cons.mpr ⟨sr_l_0_55, fun _ h => absurd h List.not_mem_nil⟩⟩⟩⟩⟩⟩⟩⟩
theorem sr_f_0_9 : Cond.fieldLink (sr_R 0) 9 (TX0 0).1 (TX0 0).2.1 (TX0 0).2.2.1 ∈ lw_tbl := List.mem_append_right _ (List.mem_of_getElem? (i := 61) (by decide +kernel))
theorem sr_f_0_15 : Cond.fieldLink (sr_R 0) 15 (TX0 1).1 (TX0 1).2.1 (TX0 1).2.2.1 ∈ lw_tbl := List.mem_append_right _ (List.mem_of_getElem? (i := 64) (by decide +kernel))
theorem sr_f_0_18 : Cond.fieldLink (sr_R 0) 18 (TX0 2).1 (TX0 2).2.1 (TX0 2).2.2.1 ∈ lw_tbl := List.mem_append_right _ (List.mem_of_getElem? (i := 67) (by decide +kernel))
theorem sr_f_0_21 : Cond.fieldLink (sr_R 0) 21 (TX0 3).1 (TX0 3).2.1 (TX0 3).2.2.1 ∈ lw_tbl := List.mem_append_right _ (List.mem_of_getElem? (i := 70) (by decide +kernel))
theorem sr_f_0_25 : Cond.fieldLink (sr_R 0) 25 (TX0 4).1 (TX0 4).2.1 (TX0 4).2.2.1 ∈ lw_tbl := List.mem_append_right _ (List.mem_of_getElem? (i := 72) (by decide +kernel))
theorem sr_f_0_28 : Cond.fieldLink (sr_R 0) 28 (TX0 5).1 (TX0 5).2.1 (TX0 5).2.2.1 ∈ lw_tbl := List.mem_append_right _ (List.mem_of_getElem? (i := 74) (by decide +kernel))
theorem sr_f_0_31 : Cond.fieldLink (sr_R 0) 31 (TX0 6).1 (TX0 6).2.1 (TX0 6).2.2.1 ∈ lw_tbl := List.mem_append_right _ (List.mem_of_getElem? (i := 76) (by decide +kernel))
theorem sr_f_0_34 : Cond.fieldLink (sr_R 0) 34 (TX0 7).1 (TX0 7).2.1 (TX0 7).2.2.1 ∈ lw_tbl := List.mem_append_right _ (List.mem_of_getElem? (i := 77) (by decide +kernel))
def sr_okF (own idx ci k : Nat) : Prop := ∃ (C : String) (T : u_T) (N : Nat), vwCl[ci]? = some (C, T, N) ∧ k < N ∧ Cond.fieldLink (sr_R own) idx (T k).1 (T k).2.1 (T k).2.2.1 ∈ lw_tbl
theorem sr_fls_ok_0 : ∀ q ∈ sr_fls_0, sr_okF 0 q.1 q.2.1 q.2.2 := List.forall_mem_cons.mpr ⟨⟨RX0, TX0, 8, rfl, by decide, sr_f_0_9⟩, List.forall_mem_cons.mpr ⟨⟨RX0, TX0, 8, rfl, by decide, sr_f_0_15⟩, List.forall_mem_cons.mpr ⟨⟨RX0, TX0, 8, rfl, by decide, sr_f_0_18⟩, List.forall_mem_cons.mpr ⟨⟨RX0, TX0, 8, rfl, by decide, sr_f_0_21⟩, List.forall_mem_cons.mpr ⟨⟨RX0, TX0, 8, rfl, by decide, sr_f_0_25⟩, List.forall_mem_cons.mpr ⟨⟨RX0, TX0, 8, rfl, by decide, sr_f_0_28⟩, List.forall_mem_cons.mpr ⟨⟨RX0, TX0, 8, rfl, by decide, sr_f_0_31⟩, List.forall_mem_cons.mpr ⟨⟨RX0, TX0, 8, rfl, by decide, sr_f_0_34⟩, fun _ h => absurd h List.not_mem_nil⟩⟩⟩⟩⟩⟩⟩⟩
def sr_okN (own idx ci : Nat) : Prop := ∃ (C : String) (T : u_T) (N : Nat), vwCl[ci]? = some (C, T, N) ∧ Cond.classLink (sr_R own) idx C ∈ lw_tbl ∧ Cond.instantiable C N ∈ lw_tbl ∧ Cond.initialized C ∈ lw_tbl
theorem sr_nls_ok_0 : ∀ q ∈ sr_nls_0, sr_okN 0 q.1 q.2 := fun _ h => absurd h List.not_mem_nil
theorem sr_ics_ok_0 : ∀ q ∈ sr_ics_0, Cond.constant (sr_R 0) q.1 q.2 ∈ lw_tbl := fun _ h => absurd h List.not_mem_nil
theorem sr_lcs_ok_0 : ∀ q ∈ sr_lcs_0, Cond.constantLong (sr_R 0) q.1 q.2 ∈ lw_tbl := fun _ h => absurd h List.not_mem_nil
theorem sr_sls_ok_0 : ∀ q ∈ sr_sls_0, Cond.fieldLinkNest (sr_R 0) q.1 "SecondRoom" (if q.2 = 0 then "KIND_LETTERS" else "KIND_ABOVE") "[I" "SecondRoom" ∈ lw_tbl := List.forall_mem_cons.mpr ⟨List.mem_append_right _ (List.mem_of_getElem? (i := 404) (by decide +kernel)), fun _ h => absurd h List.not_mem_nil⟩
theorem sr_l_1_3 : sr_okL 1 3 3 mX0_clear := List.mem_append_right _ (List.mem_of_getElem? (i := 100) (by decide +kernel))
theorem sr_l_1_45 : sr_okL 1 45 0 mX1_carryOut := ⟨List.mem_append_right _ (List.mem_of_getElem? (i := 441) (by decide +kernel)), sr_k_X1_carryOut⟩
theorem sr_l_1_49 : sr_okL 1 49 0 mX1_roomOf := ⟨List.mem_append_right _ (List.mem_of_getElem? (i := 445) (by decide +kernel)), sr_k_X1_roomOf⟩
theorem sr_l_1_39 : sr_okL 1 39 4 mX0_clear := List.mem_append_right _ (List.mem_of_getElem? (i := 470) (by decide +kernel))
set_option maxRecDepth 20000 in
theorem sr_mls_ok_1 : ∀ q ∈ sr_mls_1, sr_okL 1 q.1 q.2.1 q.2.2 := List.forall_mem_cons.mpr ⟨sr_l_1_3, List.forall_mem_cons.mpr ⟨sr_l_1_45, List.forall_mem_cons.mpr ⟨sr_l_1_49, List.forall_mem_cons.mpr ⟨sr_l_1_39, fun _ h => absurd h List.not_mem_nil⟩⟩⟩⟩
theorem sr_f_1_34 : Cond.fieldLink (sr_R 1) 34 (TX0 5).1 (TX0 5).2.1 (TX0 5).2.2.1 ∈ lw_tbl := List.mem_append_right _ (List.mem_of_getElem? (i := 75) (by decide +kernel))
theorem sr_f_1_9 : Cond.fieldLink (sr_R 1) 9 (TX1 0).1 (TX1 0).2.1 (TX1 0).2.2.1 ∈ lw_tbl := List.mem_append_right _ (List.mem_of_getElem? (i := 101) (by decide +kernel))
theorem sr_f_1_15 : Cond.fieldLink (sr_R 1) 15 (TX1 1).1 (TX1 1).2.1 (TX1 1).2.2.1 ∈ lw_tbl := List.mem_append_right _ (List.mem_of_getElem? (i := 103) (by decide +kernel))
theorem sr_f_1_18 : Cond.fieldLink (sr_R 1) 18 (TX1 2).1 (TX1 2).2.1 (TX1 2).2.2.1 ∈ lw_tbl := List.mem_append_right _ (List.mem_of_getElem? (i := 105) (by decide +kernel))
theorem sr_f_1_21 : Cond.fieldLink (sr_R 1) 21 (TX1 3).1 (TX1 3).2.1 (TX1 3).2.2.1 ∈ lw_tbl := List.mem_append_right _ (List.mem_of_getElem? (i := 107) (by decide +kernel))
theorem sr_f_1_25 : Cond.fieldLink (sr_R 1) 25 (TX1 4).1 (TX1 4).2.1 (TX1 4).2.2.1 ∈ lw_tbl := List.mem_append_right _ (List.mem_of_getElem? (i := 109) (by decide +kernel))
theorem sr_f_1_28 : Cond.fieldLink (sr_R 1) 28 (TX1 5).1 (TX1 5).2.1 (TX1 5).2.2.1 ∈ lw_tbl := List.mem_append_right _ (List.mem_of_getElem? (i := 110) (by decide +kernel))
theorem sr_f_1_31 : Cond.fieldLink (sr_R 1) 31 (TX1 6).1 (TX1 6).2.1 (TX1 6).2.2.1 ∈ lw_tbl := List.mem_append_right _ (List.mem_of_getElem? (i := 111) (by decide +kernel))
theorem sr_fls_ok_1 : ∀ q ∈ sr_fls_1, sr_okF 1 q.1 q.2.1 q.2.2 := List.forall_mem_cons.mpr ⟨⟨RX0, TX0, 8, rfl, by decide, sr_f_1_34⟩, List.forall_mem_cons.mpr ⟨⟨RX1, TX1, 7, rfl, by decide, sr_f_1_9⟩, List.forall_mem_cons.mpr ⟨⟨RX1, TX1, 7, rfl, by decide, sr_f_1_15⟩, List.forall_mem_cons.mpr ⟨⟨RX1, TX1, 7, rfl, by decide, sr_f_1_18⟩, List.forall_mem_cons.mpr ⟨⟨RX1, TX1, 7, rfl, by decide, sr_f_1_21⟩, List.forall_mem_cons.mpr ⟨⟨RX1, TX1, 7, rfl, by decide, sr_f_1_25⟩, List.forall_mem_cons.mpr ⟨⟨RX1, TX1, 7, rfl, by decide, sr_f_1_28⟩, List.forall_mem_cons.mpr ⟨⟨RX1, TX1, 7, rfl, by decide, sr_f_1_31⟩, fun _ h => absurd h List.not_mem_nil⟩⟩⟩⟩⟩⟩⟩⟩
theorem sr_nls_ok_1 : ∀ q ∈ sr_nls_1, sr_okN 1 q.1 q.2 := fun _ h => absurd h List.not_mem_nil
theorem sr_ics_ok_1 : ∀ q ∈ sr_ics_1, Cond.constant (sr_R 1) q.1 q.2 ∈ lw_tbl := fun _ h => absurd h List.not_mem_nil
theorem sr_lcs_ok_1 : ∀ q ∈ sr_lcs_1, Cond.constantLong (sr_R 1) q.1 q.2 ∈ lw_tbl := fun _ h => absurd h List.not_mem_nil
theorem sr_sls_ok_1 : ∀ q ∈ sr_sls_1, Cond.fieldLinkNest (sr_R 1) q.1 "SecondRoom" (if q.2 = 0 then "KIND_LETTERS" else "KIND_ABOVE") "[I" "SecondRoom" ∈ lw_tbl := fun _ h => absurd h List.not_mem_nil
theorem sr_l_2_3 : sr_okL 2 3 3 mX0_clear := List.mem_append_right _ (List.mem_of_getElem? (i := 41) (by decide +kernel))
theorem sr_l_2_25 : sr_okL 2 25 0 mX3_sizeOf := ⟨List.mem_append_right _ (List.mem_of_getElem? (i := 286) (by decide +kernel)), sr_k_X3_sizeOf⟩
theorem sr_l_2_31 : sr_okL 2 31 0 mX0_clear := ⟨List.mem_append_right _ (List.mem_of_getElem? (i := 287) (by decide +kernel)), sr_k_X0_clear⟩
theorem sr_l_2_36 : sr_okL 2 36 0 mX2_skipBlanks := ⟨List.mem_append_right _ (List.mem_of_getElem? (i := 291) (by decide +kernel)), sr_k_X2_skipBlanks⟩
theorem sr_l_2_53 : sr_okL 2 53 0 mX2_here := ⟨List.mem_append_right _ (List.mem_of_getElem? (i := 295) (by decide +kernel)), sr_k_X2_here⟩
theorem sr_l_2_49 : sr_okL 2 49 0 mX3_placeOf := ⟨List.mem_append_right _ (List.mem_of_getElem? (i := 299) (by decide +kernel)), sr_k_X3_placeOf⟩
theorem sr_l_2_39 : sr_okL 2 39 0 mX2_readTurns := ⟨List.mem_append_right _ (List.mem_of_getElem? (i := 300) (by decide +kernel)), sr_k_X2_readTurns⟩
theorem sr_l_2_57 : sr_okL 2 57 0 mX2_figure := ⟨List.mem_append_right _ (List.mem_of_getElem? (i := 304) (by decide +kernel)), sr_k_X2_figure⟩
theorem sr_l_2_43 : sr_okL 2 43 0 mX2_readItem := ⟨List.mem_append_right _ (List.mem_of_getElem? (i := 308) (by decide +kernel)), sr_k_X2_readItem⟩
theorem sr_l_2_63 : sr_okL 2 63 0 mX2_readThing := ⟨List.mem_append_right _ (List.mem_of_getElem? (i := 312) (by decide +kernel)), sr_k_X2_readThing⟩
theorem sr_l_2_79 : sr_okL 2 79 0 mX0_addThing := ⟨List.mem_append_right _ (List.mem_of_getElem? (i := 316) (by decide +kernel)), sr_k_X0_addThing⟩
theorem sr_l_2_66 : sr_okL 2 66 0 mX2_readGuest := ⟨List.mem_append_right _ (List.mem_of_getElem? (i := 320) (by decide +kernel)), sr_k_X2_readGuest⟩
theorem sr_l_2_69 : sr_okL 2 69 1 mX2_kindByLetter := ⟨List.mem_append_right _ (List.mem_of_getElem? (i := 324) (by decide +kernel)), sr_k_X2_kindByLetter⟩
theorem sr_l_2_75 : sr_okL 2 75 0 mX0_addGuest := ⟨List.mem_append_right _ (List.mem_of_getElem? (i := 329) (by decide +kernel)), sr_k_X0_addGuest⟩
set_option maxRecDepth 20000 in
theorem sr_mls_ok_2 : ∀ q ∈ sr_mls_2, sr_okL 2 q.1 q.2.1 q.2.2 := List.forall_mem_cons.mpr ⟨sr_l_2_3, List.forall_mem_cons.mpr ⟨sr_l_2_25, List.forall_mem_cons.mpr ⟨sr_l_2_31, List.forall_mem_cons.mpr ⟨sr_l_2_36, List.forall_mem_cons.mpr ⟨sr_l_2_53, List.forall_mem_cons.mpr ⟨sr_l_2_49, List.forall_mem_cons.mpr ⟨sr_l_2_39, List.forall_mem_cons.mpr ⟨sr_l_2_57, List.forall_mem_cons.mpr ⟨sr_l_2_43, List.forall_mem_cons.mpr ⟨sr_l_2_63, List.forall_mem_cons.mpr ⟨sr_l_2_79, List.forall_mem_cons.mpr ⟨sr_l_2_66, List.forall_mem_cons.mpr ⟨sr_l_2_69, List.forall_mem_cons.mpr ⟨sr_l_2_75, fun _ h => absurd h List.not_mem_nil⟩⟩⟩⟩⟩⟩⟩⟩⟩⟩⟩⟩⟩⟩
theorem sr_f_2_21 : Cond.fieldLink (sr_R 2) 21 (TX2 0).1 (TX2 0).2.1 (TX2 0).2.2.1 ∈ lw_tbl := List.mem_append_right _ (List.mem_of_getElem? (i := 42) (by decide +kernel))
theorem sr_f_2_9 : Cond.fieldLink (sr_R 2) 9 (TX2 1).1 (TX2 1).2.1 (TX2 1).2.2.1 ∈ lw_tbl := List.mem_append_right _ (List.mem_of_getElem? (i := 43) (by decide +kernel))
theorem sr_f_2_15 : Cond.fieldLink (sr_R 2) 15 (TX2 2).1 (TX2 2).2.1 (TX2 2).2.2.1 ∈ lw_tbl := List.mem_append_right _ (List.mem_of_getElem? (i := 44) (by decide +kernel))
theorem sr_f_2_18 : Cond.fieldLink (sr_R 2) 18 (TX2 3).1 (TX2 3).2.1 (TX2 3).2.2.1 ∈ lw_tbl := List.mem_append_right _ (List.mem_of_getElem? (i := 45) (by decide +kernel))
theorem sr_f_2_60 : Cond.fieldLink (sr_R 2) 60 (TX0 0).1 (TX0 0).2.1 (TX0 0).2.2.1 ∈ lw_tbl := List.mem_append_right _ (List.mem_of_getElem? (i := 62) (by decide +kernel))
theorem sr_f_2_72 : Cond.fieldLink (sr_R 2) 72 (TX0 1).1 (TX0 1).2.1 (TX0 1).2.2.1 ∈ lw_tbl := List.mem_append_right _ (List.mem_of_getElem? (i := 65) (by decide +kernel))
theorem sr_f_2_46 : Cond.fieldLink (sr_R 2) 46 (TX0 2).1 (TX0 2).2.1 (TX0 2).2.2.1 ∈ lw_tbl := List.mem_append_right _ (List.mem_of_getElem? (i := 68) (by decide +kernel))
theorem sr_fls_ok_2 : ∀ q ∈ sr_fls_2, sr_okF 2 q.1 q.2.1 q.2.2 := List.forall_mem_cons.mpr ⟨⟨RX2, TX2, 4, rfl, by decide, sr_f_2_21⟩, List.forall_mem_cons.mpr ⟨⟨RX2, TX2, 4, rfl, by decide, sr_f_2_9⟩, List.forall_mem_cons.mpr ⟨⟨RX2, TX2, 4, rfl, by decide, sr_f_2_15⟩, List.forall_mem_cons.mpr ⟨⟨RX2, TX2, 4, rfl, by decide, sr_f_2_18⟩, List.forall_mem_cons.mpr ⟨⟨RX0, TX0, 8, rfl, by decide, sr_f_2_60⟩, List.forall_mem_cons.mpr ⟨⟨RX0, TX0, 8, rfl, by decide, sr_f_2_72⟩, List.forall_mem_cons.mpr ⟨⟨RX0, TX0, 8, rfl, by decide, sr_f_2_46⟩, fun _ h => absurd h List.not_mem_nil⟩⟩⟩⟩⟩⟩⟩
theorem sr_nls_ok_2 : ∀ q ∈ sr_nls_2, sr_okN 2 q.1 q.2 := fun _ h => absurd h List.not_mem_nil
theorem sr_ics_ok_2 : ∀ q ∈ sr_ics_2, Cond.constant (sr_R 2) q.1 q.2 ∈ lw_tbl := fun _ h => absurd h List.not_mem_nil
theorem sr_lcs_ok_2 : ∀ q ∈ sr_lcs_2, Cond.constantLong (sr_R 2) q.1 q.2 ∈ lw_tbl := fun _ h => absurd h List.not_mem_nil
theorem sr_sls_ok_2 : ∀ q ∈ sr_sls_2, Cond.fieldLinkNest (sr_R 2) q.1 "SecondRoom" (if q.2 = 0 then "KIND_LETTERS" else "KIND_ABOVE") "[I" "SecondRoom" ∈ lw_tbl := List.forall_mem_cons.mpr ⟨List.mem_append_right _ (List.mem_of_getElem? (i := 327) (by decide +kernel)), fun _ h => absurd h List.not_mem_nil⟩
theorem sr_l_3_1 : sr_okL 3 1 3 mX0_clear := List.mem_append_right _ (List.mem_of_getElem? (i := 23) (by decide +kernel))
theorem sr_l_3_20 : sr_okL 3 20 0 mX3_setPlace := ⟨List.mem_append_right _ (List.mem_of_getElem? (i := 197) (by decide +kernel)), sr_k_X3_setPlace⟩
theorem sr_l_3_24 : sr_okL 3 24 4 mX0_clear := List.mem_append_right _ (List.mem_of_getElem? (i := 254) (by decide +kernel))
theorem sr_l_3_30 : sr_okL 3 30 0 mX3_placeOf := ⟨List.mem_append_right _ (List.mem_of_getElem? (i := 269) (by decide +kernel)), sr_k_X3_placeOf⟩
theorem sr_l_3_34 : sr_okL 3 34 0 mX3_isMissing := ⟨List.mem_append_right _ (List.mem_of_getElem? (i := 649) (by decide +kernel)), sr_k_X3_isMissing⟩
set_option maxRecDepth 20000 in
theorem sr_mls_ok_3 : ∀ q ∈ sr_mls_3, sr_okL 3 q.1 q.2.1 q.2.2 := List.forall_mem_cons.mpr ⟨sr_l_3_1, List.forall_mem_cons.mpr ⟨sr_l_3_20, List.forall_mem_cons.mpr ⟨sr_l_3_24, List.forall_mem_cons.mpr ⟨sr_l_3_30, List.forall_mem_cons.mpr ⟨sr_l_3_34, fun _ h => absurd h List.not_mem_nil⟩⟩⟩⟩⟩
theorem sr_f_3_7 : Cond.fieldLink (sr_R 3) 7 (TX3 0).1 (TX3 0).2.1 (TX3 0).2.2.1 ∈ lw_tbl := List.mem_append_right _ (List.mem_of_getElem? (i := 24) (by decide +kernel))
theorem sr_f_3_13 : Cond.fieldLink (sr_R 3) 13 (TX3 1).1 (TX3 1).2.1 (TX3 1).2.2.1 ∈ lw_tbl := List.mem_append_right _ (List.mem_of_getElem? (i := 26) (by decide +kernel))
theorem sr_f_3_17 : Cond.fieldLink (sr_R 3) 17 (TX3 2).1 (TX3 2).2.1 (TX3 2).2.2.1 ∈ lw_tbl := List.mem_append_right _ (List.mem_of_getElem? (i := 27) (by decide +kernel))
theorem sr_fls_ok_3 : ∀ q ∈ sr_fls_3, sr_okF 3 q.1 q.2.1 q.2.2 := List.forall_mem_cons.mpr ⟨⟨RX3, TX3, 3, rfl, by decide, sr_f_3_7⟩, List.forall_mem_cons.mpr ⟨⟨RX3, TX3, 3, rfl, by decide, sr_f_3_13⟩, List.forall_mem_cons.mpr ⟨⟨RX3, TX3, 3, rfl, by decide, sr_f_3_17⟩, fun _ h => absurd h List.not_mem_nil⟩⟩⟩
theorem sr_nls_ok_3 : ∀ q ∈ sr_nls_3, sr_okN 3 q.1 q.2 := fun _ h => absurd h List.not_mem_nil
theorem sr_ics_ok_3 : ∀ q ∈ sr_ics_3, Cond.constant (sr_R 3) q.1 q.2 ∈ lw_tbl := fun _ h => absurd h List.not_mem_nil
theorem sr_lcs_ok_3 : ∀ q ∈ sr_lcs_3, Cond.constantLong (sr_R 3) q.1 q.2 ∈ lw_tbl := List.forall_mem_cons.mpr ⟨List.mem_append_right _ (List.mem_of_getElem? (i := 677) (by decide +kernel)), fun _ h => absurd h List.not_mem_nil⟩
theorem sr_sls_ok_3 : ∀ q ∈ sr_sls_3, Cond.fieldLinkNest (sr_R 3) q.1 "SecondRoom" (if q.2 = 0 then "KIND_LETTERS" else "KIND_ABOVE") "[I" "SecondRoom" ∈ lw_tbl := fun _ h => absurd h List.not_mem_nil
theorem sr_l_4_1 : sr_okL 4 1 3 mX0_clear := List.mem_append_right _ (List.mem_of_getElem? (i := 15) (by decide +kernel))
theorem sr_l_4_11 : sr_okL 4 11 2 mX3_init := ⟨List.mem_append_right _ (List.mem_of_getElem? (i := 20) (by decide +kernel)), sr_k_X3_init⟩
theorem sr_l_4_23 : sr_okL 4 23 2 mX2_init := ⟨List.mem_append_right _ (List.mem_of_getElem? (i := 38) (by decide +kernel)), sr_k_X2_init⟩
theorem sr_l_4_32 : sr_okL 4 32 5 mX0_init := ⟨List.mem_append_right _ (List.mem_of_getElem? (i := 57) (by decide +kernel)), sr_k_X0_init⟩
theorem sr_l_4_42 : sr_okL 4 42 5 mX1_init := ⟨List.mem_append_right _ (List.mem_of_getElem? (i := 97) (by decide +kernel)), sr_k_X1_init⟩
theorem sr_l_4_81 : sr_okL 4 81 0 mX4_makePaper := ⟨List.mem_append_right _ (List.mem_of_getElem? (i := 181) (by decide +kernel)), sr_k_X4_makePaper⟩
theorem sr_l_4_108 : sr_okL 4 108 0 mX3_isNumber := ⟨List.mem_append_right _ (List.mem_of_getElem? (i := 185) (by decide +kernel)), sr_k_X3_isNumber⟩
theorem sr_l_4_112 : sr_okL 4 112 0 mX4_found := ⟨List.mem_append_right _ (List.mem_of_getElem? (i := 189) (by decide +kernel)), sr_k_X4_found⟩
theorem sr_l_4_310 : sr_okL 4 310 0 mX3_make := ⟨List.mem_append_right _ (List.mem_of_getElem? (i := 193) (by decide +kernel)), sr_k_X3_make⟩
theorem sr_l_4_85 : sr_okL 4 85 0 mX4_refusalOfPlace := ⟨List.mem_append_right _ (List.mem_of_getElem? (i := 205) (by decide +kernel)), sr_k_X4_refusalOfPlace⟩
theorem sr_l_4_100 : sr_okL 4 100 0 mX4_refusalOfPaper := ⟨List.mem_append_right _ (List.mem_of_getElem? (i := 209) (by decide +kernel)), sr_k_X4_refusalOfPaper⟩
theorem sr_l_4_116 : sr_okL 4 116 0 mX3_isMissing := ⟨List.mem_append_right _ (List.mem_of_getElem? (i := 213) (by decide +kernel)), sr_k_X3_isMissing⟩
theorem sr_l_4_313 : sr_okL 4 313 0 mX3_isPlace := ⟨List.mem_append_right _ (List.mem_of_getElem? (i := 217) (by decide +kernel)), sr_k_X3_isPlace⟩
theorem sr_l_4_89 : sr_okL 4 89 0 mX3_placeOf := ⟨List.mem_append_right _ (List.mem_of_getElem? (i := 221) (by decide +kernel)), sr_k_X3_placeOf⟩
theorem sr_l_4_93 : sr_okL 4 93 0 mX3_setPlace := ⟨List.mem_append_right _ (List.mem_of_getElem? (i := 225) (by decide +kernel)), sr_k_X3_setPlace⟩
theorem sr_l_4_97 : sr_okL 4 97 0 mX4_tell := ⟨List.mem_append_right _ (List.mem_of_getElem? (i := 226) (by decide +kernel)), sr_k_X4_tell⟩
theorem sr_l_4_104 : sr_okL 4 104 0 mX3_remove := ⟨List.mem_append_right _ (List.mem_of_getElem? (i := 238) (by decide +kernel)), sr_k_X3_remove⟩
theorem sr_l_4_119 : sr_okL 4 119 0 mX3_arePlaces := ⟨List.mem_append_right _ (List.mem_of_getElem? (i := 246) (by decide +kernel)), sr_k_X3_arePlaces⟩
theorem sr_l_4_123 : sr_okL 4 123 0 mX3_copyPlaces := ⟨List.mem_append_right _ (List.mem_of_getElem? (i := 250) (by decide +kernel)), sr_k_X3_copyPlaces⟩
theorem sr_l_4_127 : sr_okL 4 127 0 mX3_sizeOf := ⟨List.mem_append_right _ (List.mem_of_getElem? (i := 261) (by decide +kernel)), sr_k_X3_sizeOf⟩
theorem sr_l_4_130 : sr_okL 4 130 0 mX3_sumOf := ⟨List.mem_append_right _ (List.mem_of_getElem? (i := 265) (by decide +kernel)), sr_k_X3_sumOf⟩
theorem sr_l_4_134 : sr_okL 4 134 0 mX2_read := ⟨List.mem_append_right _ (List.mem_of_getElem? (i := 282) (by decide +kernel)), sr_k_X2_read⟩
theorem sr_l_4_138 : sr_okL 4 138 0 mX0_takeOver := ⟨List.mem_append_right _ (List.mem_of_getElem? (i := 337) (by decide +kernel)), sr_k_X0_takeOver⟩
theorem sr_l_4_142 : sr_okL 4 142 0 mX1_begin := ⟨List.mem_append_right _ (List.mem_of_getElem? (i := 344) (by decide +kernel)), sr_k_X1_begin⟩
theorem sr_l_4_145 : sr_okL 4 145 0 mX4_forgetKept := ⟨List.mem_append_right _ (List.mem_of_getElem? (i := 348) (by decide +kernel)), sr_k_X4_forgetKept⟩
theorem sr_l_4_325 : sr_okL 4 325 0 mX1_forget := ⟨List.mem_append_right _ (List.mem_of_getElem? (i := 352) (by decide +kernel)), sr_k_X1_forget⟩
theorem sr_l_4_151 : sr_okL 4 151 0 mX4_isGuest := ⟨List.mem_append_right _ (List.mem_of_getElem? (i := 360) (by decide +kernel)), sr_k_X4_isGuest⟩
theorem sr_l_4_154 : sr_okL 4 154 0 mX4_factOf := ⟨List.mem_append_right _ (List.mem_of_getElem? (i := 364) (by decide +kernel)), sr_k_X4_factOf⟩
theorem sr_l_4_164 : sr_okL 4 164 0 mX4_secondLife := ⟨List.mem_append_right _ (List.mem_of_getElem? (i := 368) (by decide +kernel)), sr_k_X4_secondLife⟩
theorem sr_l_4_267 : sr_okL 4 267 0 mX0_secondLifeAt := ⟨List.mem_append_right _ (List.mem_of_getElem? (i := 372) (by decide +kernel)), sr_k_X0_secondLifeAt⟩
theorem sr_l_4_194 : sr_okL 4 194 0 mX1_roomOf := ⟨List.mem_append_right _ (List.mem_of_getElem? (i := 384) (by decide +kernel)), sr_k_X1_roomOf⟩
theorem sr_l_4_175 : sr_okL 4 175 0 mX1_lockedOf := ⟨List.mem_append_right _ (List.mem_of_getElem? (i := 388) (by decide +kernel)), sr_k_X1_lockedOf⟩
theorem sr_l_4_200 : sr_okL 4 200 0 mX1_hoursOf := ⟨List.mem_append_right _ (List.mem_of_getElem? (i := 392) (by decide +kernel)), sr_k_X1_hoursOf⟩
theorem sr_l_4_157 : sr_okL 4 157 0 mX0_isOfKind := ⟨List.mem_append_right _ (List.mem_of_getElem? (i := 400) (by decide +kernel)), sr_k_X0_isOfKind⟩
theorem sr_l_4_167 : sr_okL 4 167 1 mJ6_bitCount := ⟨List.mem_append_right _ (List.mem_of_getElem? (i := 406) (by decide +kernel)), sr_k_J6_bitCount⟩
theorem sr_l_4_178 : sr_okL 4 178 0 mX0_soldiers := ⟨List.mem_append_right _ (List.mem_of_getElem? (i := 412) (by decide +kernel)), sr_k_X0_soldiers⟩
theorem sr_l_4_182 : sr_okL 4 182 0 mX4_thingsIn := ⟨List.mem_append_right _ (List.mem_of_getElem? (i := 417) (by decide +kernel)), sr_k_X4_thingsIn⟩
theorem sr_l_4_219 : sr_okL 4 219 0 mX0_thingsOfLife := ⟨List.mem_append_right _ (List.mem_of_getElem? (i := 421) (by decide +kernel)), sr_k_X0_thingsOfLife⟩
theorem sr_l_4_191 : sr_okL 4 191 0 mX1_act := ⟨List.mem_append_right _ (List.mem_of_getElem? (i := 437) (by decide +kernel)), sr_k_X1_act⟩
theorem sr_l_4_203 : sr_okL 4 203 0 mX1_takeBackFrom := ⟨List.mem_append_right _ (List.mem_of_getElem? (i := 458) (by decide +kernel)), sr_k_X1_takeBackFrom⟩
theorem sr_l_4_206 : sr_okL 4 206 0 mX1_takeOver := ⟨List.mem_append_right _ (List.mem_of_getElem? (i := 466) (by decide +kernel)), sr_k_X1_takeOver⟩
theorem sr_l_4_209 : sr_okL 4 209 0 mX1_isForgotten := ⟨List.mem_append_right _ (List.mem_of_getElem? (i := 475) (by decide +kernel)), sr_k_X1_isForgotten⟩
theorem sr_l_4_213 : sr_okL 4 213 1 mX4_firstBit := ⟨List.mem_append_right _ (List.mem_of_getElem? (i := 491) (by decide +kernel)), sr_k_X4_firstBit⟩
theorem sr_l_4_216 : sr_okL 4 216 0 mX0_lifeCount := ⟨List.mem_append_right _ (List.mem_of_getElem? (i := 498) (by decide +kernel)), sr_k_X0_lifeCount⟩
theorem sr_l_4_222 : sr_okL 4 222 0 mX4_isThingSet := ⟨List.mem_append_right _ (List.mem_of_getElem? (i := 503) (by decide +kernel)), sr_k_X4_isThingSet⟩
theorem sr_l_4_225 : sr_okL 4 225 0 mX4_thingsByTurn := ⟨List.mem_append_right _ (List.mem_of_getElem? (i := 507) (by decide +kernel)), sr_k_X4_thingsByTurn⟩
theorem sr_l_4_228 : sr_okL 4 228 0 mX4_addDifference := ⟨List.mem_append_right _ (List.mem_of_getElem? (i := 515) (by decide +kernel)), sr_k_X4_addDifference⟩
theorem sr_l_4_231 : sr_okL 4 231 0 mX4_fewestTellingApart := ⟨List.mem_append_right _ (List.mem_of_getElem? (i := 519) (by decide +kernel)), sr_k_X4_fewestTellingApart⟩
theorem sr_l_4_322 : sr_okL 4 322 0 mX4_tellsApart := ⟨List.mem_append_right _ (List.mem_of_getElem? (i := 523) (by decide +kernel)), sr_k_X4_tellsApart⟩
theorem sr_l_4_237 : sr_okL 4 237 0 mX4_turnsWith := ⟨List.mem_append_right _ (List.mem_of_getElem? (i := 531) (by decide +kernel)), sr_k_X4_turnsWith⟩
theorem sr_l_4_248 : sr_okL 4 248 0 mX0_lifeHas := ⟨List.mem_append_right _ (List.mem_of_getElem? (i := 535) (by decide +kernel)), sr_k_X0_lifeHas⟩
theorem sr_l_4_240 : sr_okL 4 240 6 mX0_clear := List.mem_append_right _ (List.mem_of_getElem? (i := 536) (by decide +kernel))
theorem sr_l_4_245 : sr_okL 4 245 0 mX4_isThing := ⟨List.mem_append_right _ (List.mem_of_getElem? (i := 547) (by decide +kernel)), sr_k_X4_isThing⟩
theorem sr_l_4_251 : sr_okL 4 251 0 mX4_isSecondOf := ⟨List.mem_append_right _ (List.mem_of_getElem? (i := 555) (by decide +kernel)), sr_k_X4_isSecondOf⟩
theorem sr_l_4_254 : sr_okL 4 254 0 mX4_endsOfWalk := ⟨List.mem_append_right _ (List.mem_of_getElem? (i := 567) (by decide +kernel)), sr_k_X4_endsOfWalk⟩
theorem sr_l_4_257 : sr_okL 4 257 0 mX4_leadsOn := ⟨List.mem_append_right _ (List.mem_of_getElem? (i := 571) (by decide +kernel)), sr_k_X4_leadsOn⟩
theorem sr_l_4_260 : sr_okL 4 260 1 mX4_isLaw := ⟨List.mem_append_right _ (List.mem_of_getElem? (i := 587) (by decide +kernel)), sr_k_X4_isLaw⟩
theorem sr_l_4_263 : sr_okL 4 263 0 mX4_billFor := ⟨List.mem_append_right _ (List.mem_of_getElem? (i := 590) (by decide +kernel)), sr_k_X4_billFor⟩
theorem sr_l_4_270 : sr_okL 4 270 0 mX4_tellShare := ⟨List.mem_append_right _ (List.mem_of_getElem? (i := 606) (by decide +kernel)), sr_k_X4_tellShare⟩
theorem sr_l_4_316 : sr_okL 4 316 1 mX4_commonMeasure := ⟨List.mem_append_right _ (List.mem_of_getElem? (i := 610) (by decide +kernel)), sr_k_X4_commonMeasure⟩
theorem sr_l_4_281 : sr_okL 4 281 0 mX4_actByLot := ⟨List.mem_append_right _ (List.mem_of_getElem? (i := 625) (by decide +kernel)), sr_k_X4_actByLot⟩
theorem sr_l_4_287 : sr_okL 4 287 0 mX3_thereCount := ⟨List.mem_append_right _ (List.mem_of_getElem? (i := 645) (by decide +kernel)), sr_k_X3_thereCount⟩
theorem sr_l_4_290 : sr_okL 4 290 0 mX4_keptCount := ⟨List.mem_append_right _ (List.mem_of_getElem? (i := 650) (by decide +kernel)), sr_k_X4_keptCount⟩
theorem sr_l_4_300 : sr_okL 4 300 0 mX4_keptDeeds := ⟨List.mem_append_right _ (List.mem_of_getElem? (i := 654) (by decide +kernel)), sr_k_X4_keptDeeds⟩
theorem sr_l_4_297 : sr_okL 4 297 0 mX4_count := ⟨List.mem_append_right _ (List.mem_of_getElem? (i := 672) (by decide +kernel)), sr_k_X4_count⟩
theorem sr_l_4_303 : sr_okL 4 303 0 mX3_digestFrom := ⟨List.mem_append_right _ (List.mem_of_getElem? (i := 673) (by decide +kernel)), sr_k_X3_digestFrom⟩
set_option maxRecDepth 20000 in
theorem sr_mls_ok_4 : ∀ q ∈ sr_mls_4, sr_okL 4 q.1 q.2.1 q.2.2 := List.forall_mem_cons.mpr ⟨sr_l_4_1, List.forall_mem_cons.mpr ⟨sr_l_4_11, List.forall_mem_cons.mpr ⟨sr_l_4_23, List.forall_mem_cons.mpr ⟨sr_l_4_32, List.forall_mem_cons.mpr ⟨sr_l_4_42, List.forall_mem_cons.mpr ⟨sr_l_4_81, List.forall_mem_cons.mpr ⟨sr_l_4_108, List.forall_mem_cons.mpr ⟨sr_l_4_112, List.forall_mem_cons.mpr ⟨sr_l_4_310, List.forall_mem_cons.mpr ⟨sr_l_4_85, List.forall_mem_cons.mpr ⟨sr_l_4_100, List.forall_mem_cons.mpr ⟨sr_l_4_116, List.forall_mem_cons.mpr ⟨sr_l_4_313, List.forall_mem_cons.mpr ⟨sr_l_4_89, List.forall_mem_cons.mpr ⟨sr_l_4_93, List.forall_mem_cons.mpr ⟨sr_l_4_97, List.forall_mem_cons.mpr ⟨sr_l_4_104, List.forall_mem_cons.mpr ⟨sr_l_4_119, List.forall_mem_cons.mpr ⟨sr_l_4_123, List.forall_mem_cons.mpr ⟨sr_l_4_127, List.forall_mem_cons.mpr ⟨sr_l_4_130, List.forall_mem_cons.mpr ⟨sr_l_4_134, List.forall_mem_cons.mpr ⟨sr_l_4_138, List.forall_mem_cons.mpr ⟨sr_l_4_142, List.forall_mem_cons.mpr ⟨sr_l_4_145, List.forall_mem_cons.mpr ⟨sr_l_4_325, List.forall_mem_cons.mpr ⟨sr_l_4_151, List.forall_mem_cons.mpr ⟨sr_l_4_154, List.forall_mem_cons.mpr ⟨sr_l_4_164, List.forall_mem_cons.mpr ⟨sr_l_4_267, List.forall_mem_cons.mpr ⟨sr_l_4_194, List.forall_mem_cons.mpr ⟨sr_l_4_175, List.forall_mem_cons.mpr ⟨sr_l_4_200, List.forall_mem_cons.mpr ⟨sr_l_4_157, List.forall_mem_cons.mpr ⟨sr_l_4_167, List.forall_mem_cons.mpr ⟨sr_l_4_178, List.forall_mem_cons.mpr ⟨sr_l_4_182, List.forall_mem_cons.mpr ⟨sr_l_4_219, List.forall_mem_cons.mpr ⟨sr_l_4_191, List.forall_mem_cons.mpr ⟨sr_l_4_203, List.forall_mem_cons.mpr ⟨sr_l_4_206, List.forall_mem_cons.mpr ⟨sr_l_4_209, List.forall_mem_cons.mpr ⟨sr_l_4_213, List.forall_mem_cons.mpr ⟨sr_l_4_216, List.forall_mem_cons.mpr ⟨sr_l_4_222, List.forall_mem_cons.mpr ⟨sr_l_4_225, List.forall_mem_cons.mpr ⟨sr_l_4_228, List.forall_mem_cons.mpr ⟨sr_l_4_231, List.forall_mem_cons.mpr ⟨sr_l_4_322, List.forall_mem_cons.mpr ⟨sr_l_4_237, List.forall_mem_cons.mpr ⟨sr_l_4_248, List.forall_mem_cons.mpr ⟨sr_l_4_240, List.forall_mem_cons.mpr ⟨sr_l_4_245, List.forall_mem_cons.mpr ⟨sr_l_4_251, List.forall_mem_cons.mpr ⟨sr_l_4_254, List.forall_mem_cons.mpr ⟨sr_l_4_257, List.forall_mem_cons.mpr ⟨sr_l_4_260, List.forall_mem_cons.mpr ⟨sr_l_4_263, List.forall_mem_cons.mpr ⟨sr_l_4_270, List.forall_mem_cons.mpr ⟨sr_l_4_316, List.forall_mem_cons.mpr ⟨sr_l_4_281, List.forall_mem_cons.mpr ⟨sr_l_4_287, List.forall_mem_cons.mpr ⟨sr_l_4_290, List.forall_mem_cons.mpr ⟨sr_l_4_300, List.forall_mem_cons.mpr ⟨sr_l_4_297, List.forall_mem_cons.mpr ⟨sr_l_4_303, fun _ h => absurd h List.not_mem_nil⟩⟩⟩⟩⟩⟩⟩⟩⟩⟩⟩⟩⟩⟩⟩⟩⟩⟩⟩⟩⟩⟩⟩⟩⟩⟩⟩⟩⟩⟩⟩⟩⟩⟩⟩⟩⟩⟩⟩⟩⟩⟩⟩⟩⟩⟩⟩⟩⟩⟩⟩⟩⟩⟩⟩⟩⟩⟩⟩⟩⟩⟩⟩⟩⟩⟩
theorem sr_f_4_307 : Cond.fieldLink (sr_R 4) 307 (TX3 0).1 (TX3 0).2.1 (TX3 0).2.2.1 ∈ lw_tbl := List.mem_append_right _ (List.mem_of_getElem? (i := 25) (by decide +kernel))
theorem sr_f_4_185 : Cond.fieldLink (sr_R 4) 185 (TX0 0).1 (TX0 0).2.1 (TX0 0).2.2.1 ∈ lw_tbl := List.mem_append_right _ (List.mem_of_getElem? (i := 63) (by decide +kernel))
theorem sr_f_4_148 : Cond.fieldLink (sr_R 4) 148 (TX0 1).1 (TX0 1).2.1 (TX0 1).2.2.1 ∈ lw_tbl := List.mem_append_right _ (List.mem_of_getElem? (i := 66) (by decide +kernel))
theorem sr_f_4_234 : Cond.fieldLink (sr_R 4) 234 (TX0 2).1 (TX0 2).2.1 (TX0 2).2.2.1 ∈ lw_tbl := List.mem_append_right _ (List.mem_of_getElem? (i := 69) (by decide +kernel))
theorem sr_f_4_319 : Cond.fieldLink (sr_R 4) 319 (TX0 3).1 (TX0 3).2.1 (TX0 3).2.2.1 ∈ lw_tbl := List.mem_append_right _ (List.mem_of_getElem? (i := 71) (by decide +kernel))
theorem sr_f_4_161 : Cond.fieldLink (sr_R 4) 161 (TX0 4).1 (TX0 4).2.1 (TX0 4).2.2.1 ∈ lw_tbl := List.mem_append_right _ (List.mem_of_getElem? (i := 73) (by decide +kernel))
theorem sr_f_4_188 : Cond.fieldLink (sr_R 4) 188 (TX1 0).1 (TX1 0).2.1 (TX1 0).2.2.1 ∈ lw_tbl := List.mem_append_right _ (List.mem_of_getElem? (i := 102) (by decide +kernel))
theorem sr_f_4_284 : Cond.fieldLink (sr_R 4) 284 (TX1 1).1 (TX1 1).2.1 (TX1 1).2.2.1 ∈ lw_tbl := List.mem_append_right _ (List.mem_of_getElem? (i := 104) (by decide +kernel))
theorem sr_f_4_197 : Cond.fieldLink (sr_R 4) 197 (TX1 2).1 (TX1 2).2.1 (TX1 2).2.2.1 ∈ lw_tbl := List.mem_append_right _ (List.mem_of_getElem? (i := 106) (by decide +kernel))
theorem sr_f_4_172 : Cond.fieldLink (sr_R 4) 172 (TX1 3).1 (TX1 3).2.1 (TX1 3).2.2.1 ∈ lw_tbl := List.mem_append_right _ (List.mem_of_getElem? (i := 108) (by decide +kernel))
theorem sr_f_4_14 : Cond.fieldLink (sr_R 4) 14 (TX4 0).1 (TX4 0).2.1 (TX4 0).2.2.1 ∈ lw_tbl := List.mem_append_right _ (List.mem_of_getElem? (i := 128) (by decide +kernel))
theorem sr_f_4_18 : Cond.fieldLink (sr_R 4) 18 (TX4 1).1 (TX4 1).2.1 (TX4 1).2.2.1 ∈ lw_tbl := List.mem_append_right _ (List.mem_of_getElem? (i := 129) (by decide +kernel))
theorem sr_f_4_26 : Cond.fieldLink (sr_R 4) 26 (TX4 2).1 (TX4 2).2.1 (TX4 2).2.2.1 ∈ lw_tbl := List.mem_append_right _ (List.mem_of_getElem? (i := 130) (by decide +kernel))
theorem sr_f_4_33 : Cond.fieldLink (sr_R 4) 33 (TX4 3).1 (TX4 3).2.1 (TX4 3).2.2.1 ∈ lw_tbl := List.mem_append_right _ (List.mem_of_getElem? (i := 131) (by decide +kernel))
theorem sr_f_4_37 : Cond.fieldLink (sr_R 4) 37 (TX4 4).1 (TX4 4).2.1 (TX4 4).2.2.1 ∈ lw_tbl := List.mem_append_right _ (List.mem_of_getElem? (i := 132) (by decide +kernel))
theorem sr_f_4_43 : Cond.fieldLink (sr_R 4) 43 (TX4 5).1 (TX4 5).2.1 (TX4 5).2.2.1 ∈ lw_tbl := List.mem_append_right _ (List.mem_of_getElem? (i := 133) (by decide +kernel))
theorem sr_f_4_47 : Cond.fieldLink (sr_R 4) 47 (TX4 6).1 (TX4 6).2.1 (TX4 6).2.2.1 ∈ lw_tbl := List.mem_append_right _ (List.mem_of_getElem? (i := 134) (by decide +kernel))
theorem sr_f_4_51 : Cond.fieldLink (sr_R 4) 51 (TX4 7).1 (TX4 7).2.1 (TX4 7).2.2.1 ∈ lw_tbl := List.mem_append_right _ (List.mem_of_getElem? (i := 135) (by decide +kernel))
theorem sr_f_4_55 : Cond.fieldLink (sr_R 4) 55 (TX4 8).1 (TX4 8).2.1 (TX4 8).2.2.1 ∈ lw_tbl := List.mem_append_right _ (List.mem_of_getElem? (i := 136) (by decide +kernel))
theorem sr_f_4_59 : Cond.fieldLink (sr_R 4) 59 (TX4 9).1 (TX4 9).2.1 (TX4 9).2.2.1 ∈ lw_tbl := List.mem_append_right _ (List.mem_of_getElem? (i := 137) (by decide +kernel))
theorem sr_f_4_62 : Cond.fieldLink (sr_R 4) 62 (TX4 10).1 (TX4 10).2.1 (TX4 10).2.2.1 ∈ lw_tbl := List.mem_append_right _ (List.mem_of_getElem? (i := 138) (by decide +kernel))
theorem sr_f_4_65 : Cond.fieldLink (sr_R 4) 65 (TX4 11).1 (TX4 11).2.1 (TX4 11).2.2.1 ∈ lw_tbl := List.mem_append_right _ (List.mem_of_getElem? (i := 139) (by decide +kernel))
theorem sr_f_4_68 : Cond.fieldLink (sr_R 4) 68 (TX4 12).1 (TX4 12).2.1 (TX4 12).2.2.1 ∈ lw_tbl := List.mem_append_right _ (List.mem_of_getElem? (i := 140) (by decide +kernel))
theorem sr_f_4_72 : Cond.fieldLink (sr_R 4) 72 (TX4 13).1 (TX4 13).2.1 (TX4 13).2.2.1 ∈ lw_tbl := List.mem_append_right _ (List.mem_of_getElem? (i := 141) (by decide +kernel))
theorem sr_f_4_75 : Cond.fieldLink (sr_R 4) 75 (TX4 14).1 (TX4 14).2.1 (TX4 14).2.2.1 ∈ lw_tbl := List.mem_append_right _ (List.mem_of_getElem? (i := 142) (by decide +kernel))
theorem sr_f_4_78 : Cond.fieldLink (sr_R 4) 78 (TX4 15).1 (TX4 15).2.1 (TX4 15).2.2.1 ∈ lw_tbl := List.mem_append_right _ (List.mem_of_getElem? (i := 143) (by decide +kernel))
theorem sr_fls_ok_4 : ∀ q ∈ sr_fls_4, sr_okF 4 q.1 q.2.1 q.2.2 := List.forall_mem_cons.mpr ⟨⟨RX3, TX3, 3, rfl, by decide, sr_f_4_307⟩, List.forall_mem_cons.mpr ⟨⟨RX0, TX0, 8, rfl, by decide, sr_f_4_185⟩, List.forall_mem_cons.mpr ⟨⟨RX0, TX0, 8, rfl, by decide, sr_f_4_148⟩, List.forall_mem_cons.mpr ⟨⟨RX0, TX0, 8, rfl, by decide, sr_f_4_234⟩, List.forall_mem_cons.mpr ⟨⟨RX0, TX0, 8, rfl, by decide, sr_f_4_319⟩, List.forall_mem_cons.mpr ⟨⟨RX0, TX0, 8, rfl, by decide, sr_f_4_161⟩, List.forall_mem_cons.mpr ⟨⟨RX1, TX1, 7, rfl, by decide, sr_f_4_188⟩, List.forall_mem_cons.mpr ⟨⟨RX1, TX1, 7, rfl, by decide, sr_f_4_284⟩, List.forall_mem_cons.mpr ⟨⟨RX1, TX1, 7, rfl, by decide, sr_f_4_197⟩, List.forall_mem_cons.mpr ⟨⟨RX1, TX1, 7, rfl, by decide, sr_f_4_172⟩, List.forall_mem_cons.mpr ⟨⟨RX4, TX4, 16, rfl, by decide, sr_f_4_14⟩, List.forall_mem_cons.mpr ⟨⟨RX4, TX4, 16, rfl, by decide, sr_f_4_18⟩, List.forall_mem_cons.mpr ⟨⟨RX4, TX4, 16, rfl, by decide, sr_f_4_26⟩, List.forall_mem_cons.mpr ⟨⟨RX4, TX4, 16, rfl, by decide, sr_f_4_33⟩, List.forall_mem_cons.mpr ⟨⟨RX4, TX4, 16, rfl, by decide, sr_f_4_37⟩, List.forall_mem_cons.mpr ⟨⟨RX4, TX4, 16, rfl, by decide, sr_f_4_43⟩, List.forall_mem_cons.mpr ⟨⟨RX4, TX4, 16, rfl, by decide, sr_f_4_47⟩, List.forall_mem_cons.mpr ⟨⟨RX4, TX4, 16, rfl, by decide, sr_f_4_51⟩, List.forall_mem_cons.mpr ⟨⟨RX4, TX4, 16, rfl, by decide, sr_f_4_55⟩, List.forall_mem_cons.mpr ⟨⟨RX4, TX4, 16, rfl, by decide, sr_f_4_59⟩, List.forall_mem_cons.mpr ⟨⟨RX4, TX4, 16, rfl, by decide, sr_f_4_62⟩, List.forall_mem_cons.mpr ⟨⟨RX4, TX4, 16, rfl, by decide, sr_f_4_65⟩, List.forall_mem_cons.mpr ⟨⟨RX4, TX4, 16, rfl, by decide, sr_f_4_68⟩, List.forall_mem_cons.mpr ⟨⟨RX4, TX4, 16, rfl, by decide, sr_f_4_72⟩, List.forall_mem_cons.mpr ⟨⟨RX4, TX4, 16, rfl, by decide, sr_f_4_75⟩, List.forall_mem_cons.mpr ⟨⟨RX4, TX4, 16, rfl, by decide, sr_f_4_78⟩, fun _ h => absurd h List.not_mem_nil⟩⟩⟩⟩⟩⟩⟩⟩⟩⟩⟩⟩⟩⟩⟩⟩⟩⟩⟩⟩⟩⟩⟩⟩⟩⟩
theorem sr_nls_ok_4 : ∀ q ∈ sr_nls_4, sr_okN 4 q.1 q.2 := List.forall_mem_cons.mpr ⟨⟨RX3, TX3, 3, rfl, List.mem_append_right _ (List.mem_of_getElem? (i := 18) (by decide +kernel)), List.mem_append_right _ (List.mem_of_getElem? (i := 19) (by decide +kernel)), List.mem_append_right _ (List.mem_of_getElem? (i := 2) (by decide +kernel))⟩, List.forall_mem_cons.mpr ⟨⟨RX2, TX2, 4, rfl, List.mem_append_right _ (List.mem_of_getElem? (i := 36) (by decide +kernel)), List.mem_append_right _ (List.mem_of_getElem? (i := 37) (by decide +kernel)), List.mem_append_right _ (List.mem_of_getElem? (i := 3) (by decide +kernel))⟩, List.forall_mem_cons.mpr ⟨⟨RX0, TX0, 8, rfl, List.mem_append_right _ (List.mem_of_getElem? (i := 55) (by decide +kernel)), List.mem_append_right _ (List.mem_of_getElem? (i := 56) (by decide +kernel)), List.mem_append_right _ (List.mem_of_getElem? (i := 4) (by decide +kernel))⟩, List.forall_mem_cons.mpr ⟨⟨RX1, TX1, 7, rfl, List.mem_append_right _ (List.mem_of_getElem? (i := 95) (by decide +kernel)), List.mem_append_right _ (List.mem_of_getElem? (i := 96) (by decide +kernel)), List.mem_append_right _ (List.mem_of_getElem? (i := 5) (by decide +kernel))⟩, fun _ h => absurd h List.not_mem_nil⟩⟩⟩⟩
theorem sr_ics_ok_4 : ∀ q ∈ sr_ics_4, Cond.constant (sr_R 4) q.1 q.2 ∈ lw_tbl := fun _ h => absurd h List.not_mem_nil
theorem sr_lcs_ok_4 : ∀ q ∈ sr_lcs_4, Cond.constantLong (sr_R 4) q.1 q.2 ∈ lw_tbl := List.forall_mem_cons.mpr ⟨List.mem_append_right _ (List.mem_of_getElem? (i := 621) (by decide +kernel)), List.forall_mem_cons.mpr ⟨List.mem_append_right _ (List.mem_of_getElem? (i := 622) (by decide +kernel)), List.forall_mem_cons.mpr ⟨List.mem_append_right _ (List.mem_of_getElem? (i := 623) (by decide +kernel)), List.forall_mem_cons.mpr ⟨List.mem_append_right _ (List.mem_of_getElem? (i := 624) (by decide +kernel)), List.forall_mem_cons.mpr ⟨List.mem_append_right _ (List.mem_of_getElem? (i := 670) (by decide +kernel)), List.forall_mem_cons.mpr ⟨List.mem_append_right _ (List.mem_of_getElem? (i := 671) (by decide +kernel)), fun _ h => absurd h List.not_mem_nil⟩⟩⟩⟩⟩⟩
theorem sr_sls_ok_4 : ∀ q ∈ sr_sls_4, Cond.fieldLinkNest (sr_R 4) q.1 "SecondRoom" (if q.2 = 0 then "KIND_LETTERS" else "KIND_ABOVE") "[I" "SecondRoom" ∈ lw_tbl := fun _ h => absurd h List.not_mem_nil
theorem sr_l_5_1 : sr_okL 5 1 3 mX0_clear := List.mem_append_right _ (List.mem_of_getElem? (i := 683) (by decide +kernel))
theorem sr_l_5_80 : sr_okL 5 80 1 mX5_in := ⟨List.mem_append_right _ (List.mem_of_getElem? (i := 797) (by decide +kernel)), sr_k_X5_in⟩
theorem sr_l_5_90 : sr_okL 5 90 1 mX5_isRow := ⟨List.mem_append_right _ (List.mem_of_getElem? (i := 816) (by decide +kernel)), sr_k_X5_isRow⟩
theorem sr_l_5_94 : sr_okL 5 94 0 mX5_meets := ⟨List.mem_append_right _ (List.mem_of_getElem? (i := 819) (by decide +kernel)), sr_k_X5_meets⟩
theorem sr_l_5_98 : sr_okL 5 98 0 mX5_rowAt := ⟨List.mem_append_right _ (List.mem_of_getElem? (i := 827) (by decide +kernel)), sr_k_X5_rowAt⟩
theorem sr_l_5_102 : sr_okL 5 102 0 mX5_tells := ⟨List.mem_append_right _ (List.mem_of_getElem? (i := 831) (by decide +kernel)), sr_k_X5_tells⟩
theorem sr_l_5_105 : sr_okL 5 105 1 mX5_isText := ⟨List.mem_append_right _ (List.mem_of_getElem? (i := 855) (by decide +kernel)), sr_k_X5_isText⟩
theorem sr_l_5_142 : sr_okL 5 142 0 mX5_faultOf := ⟨List.mem_append_right _ (List.mem_of_getElem? (i := 866) (by decide +kernel)), sr_k_X5_faultOf⟩
theorem sr_l_5_111 : sr_okL 5 111 0 mX5_byteAt := ⟨List.mem_append_right _ (List.mem_of_getElem? (i := 870) (by decide +kernel)), sr_k_X5_byteAt⟩
theorem sr_l_5_139 : sr_okL 5 139 0 mX5_readsItem := ⟨List.mem_append_right _ (List.mem_of_getElem? (i := 874) (by decide +kernel)), sr_k_X5_readsItem⟩
theorem sr_l_5_130 : sr_okL 5 130 0 mX5_readsTurns := ⟨List.mem_append_right _ (List.mem_of_getElem? (i := 878) (by decide +kernel)), sr_k_X5_readsTurns⟩
theorem sr_l_5_114 : sr_okL 5 114 0 mX5_figure := ⟨List.mem_append_right _ (List.mem_of_getElem? (i := 882) (by decide +kernel)), sr_k_X5_figure⟩
theorem sr_l_5_133 : sr_okL 5 133 0 mX5_readsThing := ⟨List.mem_append_right _ (List.mem_of_getElem? (i := 886) (by decide +kernel)), sr_k_X5_readsThing⟩
theorem sr_l_5_136 : sr_okL 5 136 0 mX5_readsGuest := ⟨List.mem_append_right _ (List.mem_of_getElem? (i := 890) (by decide +kernel)), sr_k_X5_readsGuest⟩
theorem sr_l_5_127 : sr_okL 5 127 1 mX5_kindOf := ⟨List.mem_append_right _ (List.mem_of_getElem? (i := 894) (by decide +kernel)), sr_k_X5_kindOf⟩
theorem sr_l_5_174 : sr_okL 5 174 0 mX5_isGuest := ⟨List.mem_append_right _ (List.mem_of_getElem? (i := 905) (by decide +kernel)), sr_k_X5_isGuest⟩
theorem sr_l_5_177 : sr_okL 5 177 0 mX5_guestTells := ⟨List.mem_append_right _ (List.mem_of_getElem? (i := 909) (by decide +kernel)), sr_k_X5_guestTells⟩
theorem sr_l_5_171 : sr_okL 5 171 0 mX5_second := ⟨List.mem_append_right _ (List.mem_of_getElem? (i := 913) (by decide +kernel)), sr_k_X5_second⟩
theorem sr_l_5_164 : sr_okL 5 164 0 mX5_secondBy := ⟨List.mem_append_right _ (List.mem_of_getElem? (i := 917) (by decide +kernel)), sr_k_X5_secondBy⟩
theorem sr_l_5_157 : sr_okL 5 157 0 mX5_allLives := ⟨List.mem_append_right _ (List.mem_of_getElem? (i := 921) (by decide +kernel)), sr_k_X5_allLives⟩
theorem sr_l_5_161 : sr_okL 5 161 1 mX5_withChoice := ⟨List.mem_append_right _ (List.mem_of_getElem? (i := 925) (by decide +kernel)), sr_k_X5_withChoice⟩
theorem sr_l_5_183 : sr_okL 5 183 1 mX5_bits := ⟨List.mem_append_right _ (List.mem_of_getElem? (i := 932) (by decide +kernel)), sr_k_X5_bits⟩
theorem sr_l_5_186 : sr_okL 5 186 0 mX5_soldiers := ⟨List.mem_append_right _ (List.mem_of_getElem? (i := 935) (by decide +kernel)), sr_k_X5_soldiers⟩
theorem sr_l_5_180 : sr_okL 5 180 0 mX5_isSoldier := ⟨List.mem_append_right _ (List.mem_of_getElem? (i := 939) (by decide +kernel)), sr_k_X5_isSoldier⟩
theorem sr_l_5_189 : sr_okL 5 189 0 mX5_thingsOf := ⟨List.mem_append_right _ (List.mem_of_getElem? (i := 943) (by decide +kernel)), sr_k_X5_thingsOf⟩
theorem sr_l_5_167 : sr_okL 5 167 0 mX5_isHad := ⟨List.mem_append_right _ (List.mem_of_getElem? (i := 947) (by decide +kernel)), sr_k_X5_isHad⟩
theorem sr_l_5_192 : sr_okL 5 192 1 mX5_holds := ⟨List.mem_append_right _ (List.mem_of_getElem? (i := 959) (by decide +kernel)), sr_k_X5_holds⟩
theorem sr_l_5_195 : sr_okL 5 195 0 mX5_remember := ⟨List.mem_append_right _ (List.mem_of_getElem? (i := 962) (by decide +kernel)), sr_k_X5_remember⟩
theorem sr_l_5_198 : sr_okL 5 198 0 mX5_uses := ⟨List.mem_append_right _ (List.mem_of_getElem? (i := 974) (by decide +kernel)), sr_k_X5_uses⟩
theorem sr_l_5_201 : sr_okL 5 201 0 mX5_roomOf := ⟨List.mem_append_right _ (List.mem_of_getElem? (i := 994) (by decide +kernel)), sr_k_X5_roomOf⟩
theorem sr_l_5_204 : sr_okL 5 204 1 mX5_lowest := ⟨List.mem_append_right _ (List.mem_of_getElem? (i := 1006) (by decide +kernel)), sr_k_X5_lowest⟩
theorem sr_l_5_207 : sr_okL 5 207 0 mX5_isThings := ⟨List.mem_append_right _ (List.mem_of_getElem? (i := 1017) (by decide +kernel)), sr_k_X5_isThings⟩
theorem sr_l_5_213 : sr_okL 5 213 0 mX5_fewestBy := ⟨List.mem_append_right _ (List.mem_of_getElem? (i := 1025) (by decide +kernel)), sr_k_X5_fewestBy⟩
theorem sr_l_5_210 : sr_okL 5 210 0 mX5_isTold := ⟨List.mem_append_right _ (List.mem_of_getElem? (i := 1029) (by decide +kernel)), sr_k_X5_isTold⟩
theorem sr_l_5_217 : sr_okL 5 217 0 mX5_thereBy := ⟨List.mem_append_right _ (List.mem_of_getElem? (i := 1038) (by decide +kernel)), sr_k_X5_thereBy⟩
theorem sr_l_5_220 : sr_okL 5 220 0 mX5_isThing := ⟨List.mem_append_right _ (List.mem_of_getElem? (i := 1050) (by decide +kernel)), sr_k_X5_isThing⟩
theorem sr_l_5_223 : sr_okL 5 223 0 mX5_isSecond := ⟨List.mem_append_right _ (List.mem_of_getElem? (i := 1058) (by decide +kernel)), sr_k_X5_isSecond⟩
theorem sr_l_5_229 : sr_okL 5 229 0 mX5_layRings := ⟨List.mem_append_right _ (List.mem_of_getElem? (i := 1070) (by decide +kernel)), sr_k_X5_layRings⟩
theorem sr_l_5_233 : sr_okL 5 233 0 mX5_billOf := ⟨List.mem_append_right _ (List.mem_of_getElem? (i := 1086) (by decide +kernel)), sr_k_X5_billOf⟩
theorem sr_l_5_237 : sr_okL 5 237 0 mX5_fraction := ⟨List.mem_append_right _ (List.mem_of_getElem? (i := 1102) (by decide +kernel)), sr_k_X5_fraction⟩
theorem sr_l_5_249 : sr_okL 5 249 0 mX5_counted := ⟨List.mem_append_right _ (List.mem_of_getElem? (i := 1123) (by decide +kernel)), sr_k_X5_counted⟩
theorem sr_l_5_257 : sr_okL 5 257 0 mX5_mix := ⟨List.mem_append_right _ (List.mem_of_getElem? (i := 1132) (by decide +kernel)), sr_k_X5_mix⟩
theorem sr_l_5_265 : sr_okL 5 265 0 mX5_mixHotel := ⟨List.mem_append_right _ (List.mem_of_getElem? (i := 1137) (by decide +kernel)), sr_k_X5_mixHotel⟩
set_option maxRecDepth 20000 in
theorem sr_mls_ok_5 : ∀ q ∈ sr_mls_5, sr_okL 5 q.1 q.2.1 q.2.2 := List.forall_mem_cons.mpr ⟨sr_l_5_1, List.forall_mem_cons.mpr ⟨sr_l_5_80, List.forall_mem_cons.mpr ⟨sr_l_5_90, List.forall_mem_cons.mpr ⟨sr_l_5_94, List.forall_mem_cons.mpr ⟨sr_l_5_98, List.forall_mem_cons.mpr ⟨sr_l_5_102, List.forall_mem_cons.mpr ⟨sr_l_5_105, List.forall_mem_cons.mpr ⟨sr_l_5_142, List.forall_mem_cons.mpr ⟨sr_l_5_111, List.forall_mem_cons.mpr ⟨sr_l_5_139, List.forall_mem_cons.mpr ⟨sr_l_5_130, List.forall_mem_cons.mpr ⟨sr_l_5_114, List.forall_mem_cons.mpr ⟨sr_l_5_133, List.forall_mem_cons.mpr ⟨sr_l_5_136, List.forall_mem_cons.mpr ⟨sr_l_5_127, List.forall_mem_cons.mpr ⟨sr_l_5_174, List.forall_mem_cons.mpr ⟨sr_l_5_177, List.forall_mem_cons.mpr ⟨sr_l_5_171, List.forall_mem_cons.mpr ⟨sr_l_5_164, List.forall_mem_cons.mpr ⟨sr_l_5_157, List.forall_mem_cons.mpr ⟨sr_l_5_161, List.forall_mem_cons.mpr ⟨sr_l_5_183, List.forall_mem_cons.mpr ⟨sr_l_5_186, List.forall_mem_cons.mpr ⟨sr_l_5_180, List.forall_mem_cons.mpr ⟨sr_l_5_189, List.forall_mem_cons.mpr ⟨sr_l_5_167, List.forall_mem_cons.mpr ⟨sr_l_5_192, List.forall_mem_cons.mpr ⟨sr_l_5_195, List.forall_mem_cons.mpr ⟨sr_l_5_198, List.forall_mem_cons.mpr ⟨sr_l_5_201, List.forall_mem_cons.mpr ⟨sr_l_5_204, List.forall_mem_cons.mpr ⟨sr_l_5_207, List.forall_mem_cons.mpr ⟨sr_l_5_213, List.forall_mem_cons.mpr ⟨sr_l_5_210, List.forall_mem_cons.mpr ⟨sr_l_5_217, List.forall_mem_cons.mpr ⟨sr_l_5_220, List.forall_mem_cons.mpr ⟨sr_l_5_223, List.forall_mem_cons.mpr ⟨sr_l_5_229, List.forall_mem_cons.mpr ⟨sr_l_5_233, List.forall_mem_cons.mpr ⟨sr_l_5_237, List.forall_mem_cons.mpr ⟨sr_l_5_249, List.forall_mem_cons.mpr ⟨sr_l_5_257, List.forall_mem_cons.mpr ⟨sr_l_5_265, fun _ h => absurd h List.not_mem_nil⟩⟩⟩⟩⟩⟩⟩⟩⟩⟩⟩⟩⟩⟩⟩⟩⟩⟩⟩⟩⟩⟩⟩⟩⟩⟩⟩⟩⟩⟩⟩⟩⟩⟩⟩⟩⟩⟩⟩⟩⟩⟩⟩
theorem sr_f_5_76 : Cond.fieldLink (sr_R 5) 76 (TX5 0).1 (TX5 0).2.1 (TX5 0).2.2.1 ∈ lw_tbl := List.mem_append_right _ (List.mem_of_getElem? (i := 684) (by decide +kernel))
theorem sr_f_5_7 : Cond.fieldLink (sr_R 5) 7 (TX5 1).1 (TX5 1).2.1 (TX5 1).2.2.1 ∈ lw_tbl := List.mem_append_right _ (List.mem_of_getElem? (i := 685) (by decide +kernel))
theorem sr_f_5_84 : Cond.fieldLink (sr_R 5) 84 (TX5 2).1 (TX5 2).2.1 (TX5 2).2.2.1 ∈ lw_tbl := List.mem_append_right _ (List.mem_of_getElem? (i := 686) (by decide +kernel))
theorem sr_f_5_87 : Cond.fieldLink (sr_R 5) 87 (TX5 3).1 (TX5 3).2.1 (TX5 3).2.2.1 ∈ lw_tbl := List.mem_append_right _ (List.mem_of_getElem? (i := 687) (by decide +kernel))
theorem sr_f_5_13 : Cond.fieldLink (sr_R 5) 13 (TX5 4).1 (TX5 4).2.1 (TX5 4).2.2.1 ∈ lw_tbl := List.mem_append_right _ (List.mem_of_getElem? (i := 688) (by decide +kernel))
theorem sr_f_5_17 : Cond.fieldLink (sr_R 5) 17 (TX5 5).1 (TX5 5).2.1 (TX5 5).2.2.1 ∈ lw_tbl := List.mem_append_right _ (List.mem_of_getElem? (i := 689) (by decide +kernel))
theorem sr_f_5_20 : Cond.fieldLink (sr_R 5) 20 (TX5 6).1 (TX5 6).2.1 (TX5 6).2.2.1 ∈ lw_tbl := List.mem_append_right _ (List.mem_of_getElem? (i := 690) (by decide +kernel))
theorem sr_f_5_23 : Cond.fieldLink (sr_R 5) 23 (TX5 7).1 (TX5 7).2.1 (TX5 7).2.2.1 ∈ lw_tbl := List.mem_append_right _ (List.mem_of_getElem? (i := 691) (by decide +kernel))
theorem sr_f_5_26 : Cond.fieldLink (sr_R 5) 26 (TX5 8).1 (TX5 8).2.1 (TX5 8).2.2.1 ∈ lw_tbl := List.mem_append_right _ (List.mem_of_getElem? (i := 692) (by decide +kernel))
theorem sr_f_5_29 : Cond.fieldLink (sr_R 5) 29 (TX5 9).1 (TX5 9).2.1 (TX5 9).2.2.1 ∈ lw_tbl := List.mem_append_right _ (List.mem_of_getElem? (i := 693) (by decide +kernel))
theorem sr_f_5_145 : Cond.fieldLink (sr_R 5) 145 (TX5 10).1 (TX5 10).2.1 (TX5 10).2.2.1 ∈ lw_tbl := List.mem_append_right _ (List.mem_of_getElem? (i := 694) (by decide +kernel))
theorem sr_f_5_148 : Cond.fieldLink (sr_R 5) 148 (TX5 11).1 (TX5 11).2.1 (TX5 11).2.2.1 ∈ lw_tbl := List.mem_append_right _ (List.mem_of_getElem? (i := 695) (by decide +kernel))
theorem sr_f_5_151 : Cond.fieldLink (sr_R 5) 151 (TX5 12).1 (TX5 12).2.1 (TX5 12).2.2.1 ∈ lw_tbl := List.mem_append_right _ (List.mem_of_getElem? (i := 696) (by decide +kernel))
theorem sr_f_5_33 : Cond.fieldLink (sr_R 5) 33 (TX5 13).1 (TX5 13).2.1 (TX5 13).2.2.1 ∈ lw_tbl := List.mem_append_right _ (List.mem_of_getElem? (i := 697) (by decide +kernel))
theorem sr_f_5_36 : Cond.fieldLink (sr_R 5) 36 (TX5 14).1 (TX5 14).2.1 (TX5 14).2.2.1 ∈ lw_tbl := List.mem_append_right _ (List.mem_of_getElem? (i := 698) (by decide +kernel))
theorem sr_f_5_39 : Cond.fieldLink (sr_R 5) 39 (TX5 15).1 (TX5 15).2.1 (TX5 15).2.2.1 ∈ lw_tbl := List.mem_append_right _ (List.mem_of_getElem? (i := 699) (by decide +kernel))
theorem sr_f_5_42 : Cond.fieldLink (sr_R 5) 42 (TX5 16).1 (TX5 16).2.1 (TX5 16).2.2.1 ∈ lw_tbl := List.mem_append_right _ (List.mem_of_getElem? (i := 700) (by decide +kernel))
theorem sr_f_5_108 : Cond.fieldLink (sr_R 5) 108 (TX5 17).1 (TX5 17).2.1 (TX5 17).2.2.1 ∈ lw_tbl := List.mem_append_right _ (List.mem_of_getElem? (i := 701) (by decide +kernel))
theorem sr_f_5_121 : Cond.fieldLink (sr_R 5) 121 (TX5 18).1 (TX5 18).2.1 (TX5 18).2.2.1 ∈ lw_tbl := List.mem_append_right _ (List.mem_of_getElem? (i := 702) (by decide +kernel))
theorem sr_f_5_118 : Cond.fieldLink (sr_R 5) 118 (TX5 19).1 (TX5 19).2.1 (TX5 19).2.2.1 ∈ lw_tbl := List.mem_append_right _ (List.mem_of_getElem? (i := 703) (by decide +kernel))
theorem sr_f_5_124 : Cond.fieldLink (sr_R 5) 124 (TX5 20).1 (TX5 20).2.1 (TX5 20).2.2.1 ∈ lw_tbl := List.mem_append_right _ (List.mem_of_getElem? (i := 704) (by decide +kernel))
theorem sr_f_5_45 : Cond.fieldLink (sr_R 5) 45 (TX5 21).1 (TX5 21).2.1 (TX5 21).2.2.1 ∈ lw_tbl := List.mem_append_right _ (List.mem_of_getElem? (i := 705) (by decide +kernel))
theorem sr_f_5_48 : Cond.fieldLink (sr_R 5) 48 (TX5 22).1 (TX5 22).2.1 (TX5 22).2.2.1 ∈ lw_tbl := List.mem_append_right _ (List.mem_of_getElem? (i := 706) (by decide +kernel))
theorem sr_f_5_51 : Cond.fieldLink (sr_R 5) 51 (TX5 23).1 (TX5 23).2.1 (TX5 23).2.2.1 ∈ lw_tbl := List.mem_append_right _ (List.mem_of_getElem? (i := 707) (by decide +kernel))
theorem sr_f_5_154 : Cond.fieldLink (sr_R 5) 154 (TX5 24).1 (TX5 24).2.1 (TX5 24).2.2.1 ∈ lw_tbl := List.mem_append_right _ (List.mem_of_getElem? (i := 708) (by decide +kernel))
theorem sr_f_5_54 : Cond.fieldLink (sr_R 5) 54 (TX5 25).1 (TX5 25).2.1 (TX5 25).2.2.1 ∈ lw_tbl := List.mem_append_right _ (List.mem_of_getElem? (i := 709) (by decide +kernel))
theorem sr_f_5_57 : Cond.fieldLink (sr_R 5) 57 (TX5 26).1 (TX5 26).2.1 (TX5 26).2.2.1 ∈ lw_tbl := List.mem_append_right _ (List.mem_of_getElem? (i := 710) (by decide +kernel))
theorem sr_f_5_61 : Cond.fieldLink (sr_R 5) 61 (TX5 27).1 (TX5 27).2.1 (TX5 27).2.2.1 ∈ lw_tbl := List.mem_append_right _ (List.mem_of_getElem? (i := 711) (by decide +kernel))
theorem sr_f_5_64 : Cond.fieldLink (sr_R 5) 64 (TX5 28).1 (TX5 28).2.1 (TX5 28).2.2.1 ∈ lw_tbl := List.mem_append_right _ (List.mem_of_getElem? (i := 712) (by decide +kernel))
theorem sr_f_5_67 : Cond.fieldLink (sr_R 5) 67 (TX5 29).1 (TX5 29).2.1 (TX5 29).2.2.1 ∈ lw_tbl := List.mem_append_right _ (List.mem_of_getElem? (i := 713) (by decide +kernel))
theorem sr_f_5_70 : Cond.fieldLink (sr_R 5) 70 (TX5 30).1 (TX5 30).2.1 (TX5 30).2.2.1 ∈ lw_tbl := List.mem_append_right _ (List.mem_of_getElem? (i := 714) (by decide +kernel))
theorem sr_f_5_73 : Cond.fieldLink (sr_R 5) 73 (TX5 31).1 (TX5 31).2.1 (TX5 31).2.2.1 ∈ lw_tbl := List.mem_append_right _ (List.mem_of_getElem? (i := 715) (by decide +kernel))
theorem sr_f_5_226 : Cond.fieldLink (sr_R 5) 226 (TX5 32).1 (TX5 32).2.1 (TX5 32).2.2.1 ∈ lw_tbl := List.mem_append_right _ (List.mem_of_getElem? (i := 716) (by decide +kernel))
theorem sr_f_5_254 : Cond.fieldLink (sr_R 5) 254 (TX5 33).1 (TX5 33).2.1 (TX5 33).2.2.1 ∈ lw_tbl := List.mem_append_right _ (List.mem_of_getElem? (i := 717) (by decide +kernel))
theorem sr_fls_ok_5 : ∀ q ∈ sr_fls_5, sr_okF 5 q.1 q.2.1 q.2.2 := List.forall_mem_cons.mpr ⟨⟨RX5, TX5, 34, rfl, by decide, sr_f_5_76⟩, List.forall_mem_cons.mpr ⟨⟨RX5, TX5, 34, rfl, by decide, sr_f_5_7⟩, List.forall_mem_cons.mpr ⟨⟨RX5, TX5, 34, rfl, by decide, sr_f_5_84⟩, List.forall_mem_cons.mpr ⟨⟨RX5, TX5, 34, rfl, by decide, sr_f_5_87⟩, List.forall_mem_cons.mpr ⟨⟨RX5, TX5, 34, rfl, by decide, sr_f_5_13⟩, List.forall_mem_cons.mpr ⟨⟨RX5, TX5, 34, rfl, by decide, sr_f_5_17⟩, List.forall_mem_cons.mpr ⟨⟨RX5, TX5, 34, rfl, by decide, sr_f_5_20⟩, List.forall_mem_cons.mpr ⟨⟨RX5, TX5, 34, rfl, by decide, sr_f_5_23⟩, List.forall_mem_cons.mpr ⟨⟨RX5, TX5, 34, rfl, by decide, sr_f_5_26⟩, List.forall_mem_cons.mpr ⟨⟨RX5, TX5, 34, rfl, by decide, sr_f_5_29⟩, List.forall_mem_cons.mpr ⟨⟨RX5, TX5, 34, rfl, by decide, sr_f_5_145⟩, List.forall_mem_cons.mpr ⟨⟨RX5, TX5, 34, rfl, by decide, sr_f_5_148⟩, List.forall_mem_cons.mpr ⟨⟨RX5, TX5, 34, rfl, by decide, sr_f_5_151⟩, List.forall_mem_cons.mpr ⟨⟨RX5, TX5, 34, rfl, by decide, sr_f_5_33⟩, List.forall_mem_cons.mpr ⟨⟨RX5, TX5, 34, rfl, by decide, sr_f_5_36⟩, List.forall_mem_cons.mpr ⟨⟨RX5, TX5, 34, rfl, by decide, sr_f_5_39⟩, List.forall_mem_cons.mpr ⟨⟨RX5, TX5, 34, rfl, by decide, sr_f_5_42⟩, List.forall_mem_cons.mpr ⟨⟨RX5, TX5, 34, rfl, by decide, sr_f_5_108⟩, List.forall_mem_cons.mpr ⟨⟨RX5, TX5, 34, rfl, by decide, sr_f_5_121⟩, List.forall_mem_cons.mpr ⟨⟨RX5, TX5, 34, rfl, by decide, sr_f_5_118⟩, List.forall_mem_cons.mpr ⟨⟨RX5, TX5, 34, rfl, by decide, sr_f_5_124⟩, List.forall_mem_cons.mpr ⟨⟨RX5, TX5, 34, rfl, by decide, sr_f_5_45⟩, List.forall_mem_cons.mpr ⟨⟨RX5, TX5, 34, rfl, by decide, sr_f_5_48⟩, List.forall_mem_cons.mpr ⟨⟨RX5, TX5, 34, rfl, by decide, sr_f_5_51⟩, List.forall_mem_cons.mpr ⟨⟨RX5, TX5, 34, rfl, by decide, sr_f_5_154⟩, List.forall_mem_cons.mpr ⟨⟨RX5, TX5, 34, rfl, by decide, sr_f_5_54⟩, List.forall_mem_cons.mpr ⟨⟨RX5, TX5, 34, rfl, by decide, sr_f_5_57⟩, List.forall_mem_cons.mpr ⟨⟨RX5, TX5, 34, rfl, by decide, sr_f_5_61⟩, List.forall_mem_cons.mpr ⟨⟨RX5, TX5, 34, rfl, by decide, sr_f_5_64⟩, List.forall_mem_cons.mpr ⟨⟨RX5, TX5, 34, rfl, by decide, sr_f_5_67⟩, List.forall_mem_cons.mpr ⟨⟨RX5, TX5, 34, rfl, by decide, sr_f_5_70⟩, List.forall_mem_cons.mpr ⟨⟨RX5, TX5, 34, rfl, by decide, sr_f_5_73⟩, List.forall_mem_cons.mpr ⟨⟨RX5, TX5, 34, rfl, by decide, sr_f_5_226⟩, List.forall_mem_cons.mpr ⟨⟨RX5, TX5, 34, rfl, by decide, sr_f_5_254⟩, fun _ h => absurd h List.not_mem_nil⟩⟩⟩⟩⟩⟩⟩⟩⟩⟩⟩⟩⟩⟩⟩⟩⟩⟩⟩⟩⟩⟩⟩⟩⟩⟩⟩⟩⟩⟩⟩⟩⟩⟩
theorem sr_nls_ok_5 : ∀ q ∈ sr_nls_5, sr_okN 5 q.1 q.2 := fun _ h => absurd h List.not_mem_nil
theorem sr_ics_ok_5 : ∀ q ∈ sr_ics_5, Cond.constant (sr_R 5) q.1 q.2 ∈ lw_tbl := List.forall_mem_cons.mpr ⟨List.mem_append_right _ (List.mem_of_getElem? (i := 1037) (by decide +kernel)), List.forall_mem_cons.mpr ⟨List.mem_append_right _ (List.mem_of_getElem? (i := 1114) (by decide +kernel)), fun _ h => absurd h List.not_mem_nil⟩⟩
theorem sr_lcs_ok_5 : ∀ q ∈ sr_lcs_5, Cond.constantLong (sr_R 5) q.1 q.2 ∈ lw_tbl := List.forall_mem_cons.mpr ⟨List.mem_append_right _ (List.mem_of_getElem? (i := 1115) (by decide +kernel)), List.forall_mem_cons.mpr ⟨List.mem_append_right _ (List.mem_of_getElem? (i := 1116) (by decide +kernel)), List.forall_mem_cons.mpr ⟨List.mem_append_right _ (List.mem_of_getElem? (i := 1117) (by decide +kernel)), List.forall_mem_cons.mpr ⟨List.mem_append_right _ (List.mem_of_getElem? (i := 1118) (by decide +kernel)), List.forall_mem_cons.mpr ⟨List.mem_append_right _ (List.mem_of_getElem? (i := 1131) (by decide +kernel)), List.forall_mem_cons.mpr ⟨List.mem_append_right _ (List.mem_of_getElem? (i := 1136) (by decide +kernel)), List.forall_mem_cons.mpr ⟨List.mem_append_right _ (List.mem_of_getElem? (i := 1141) (by decide +kernel)), fun _ h => absurd h List.not_mem_nil⟩⟩⟩⟩⟩⟩⟩
theorem sr_sls_ok_5 : ∀ q ∈ sr_sls_5, Cond.fieldLinkNest (sr_R 5) q.1 "SecondRoom" (if q.2 = 0 then "KIND_LETTERS" else "KIND_ABOVE") "[I" "SecondRoom" ∈ lw_tbl := fun _ h => absurd h List.not_mem_nil
theorem sr_l_6_9 : sr_okL 6 9 2 mX4_init := ⟨List.mem_append_right _ (List.mem_of_getElem? (i := 12) (by decide +kernel)), sr_k_X4_init⟩
theorem sr_l_6_13 : sr_okL 6 13 0 mX4_row := ⟨List.mem_append_right _ (List.mem_of_getElem? (i := 177) (by decide +kernel)), sr_k_X4_row⟩
theorem sr_l_6_18 : sr_okL 6 18 0 mX4_lay := ⟨List.mem_append_right _ (List.mem_of_getElem? (i := 201) (by decide +kernel)), sr_k_X4_lay⟩
theorem sr_l_6_23 : sr_okL 6 23 0 mX4_at := ⟨List.mem_append_right _ (List.mem_of_getElem? (i := 230) (by decide +kernel)), sr_k_X4_at⟩
theorem sr_l_6_27 : sr_okL 6 27 0 mX4_tear := ⟨List.mem_append_right _ (List.mem_of_getElem? (i := 234) (by decide +kernel)), sr_k_X4_tear⟩
theorem sr_l_6_32 : sr_okL 6 32 0 mX4_copy := ⟨List.mem_append_right _ (List.mem_of_getElem? (i := 242) (by decide +kernel)), sr_k_X4_copy⟩
theorem sr_l_6_37 : sr_okL 6 37 0 mX4_mean := ⟨List.mem_append_right _ (List.mem_of_getElem? (i := 257) (by decide +kernel)), sr_k_X4_mean⟩
theorem sr_l_6_41 : sr_okL 6 41 0 mX4_text := ⟨List.mem_append_right _ (List.mem_of_getElem? (i := 270) (by decide +kernel)), sr_k_X4_text⟩
theorem sr_l_6_45 : sr_okL 6 45 0 mX4_put := ⟨List.mem_append_right _ (List.mem_of_getElem? (i := 274) (by decide +kernel)), sr_k_X4_put⟩
theorem sr_l_6_49 : sr_okL 6 49 0 mX4_fault := ⟨List.mem_append_right _ (List.mem_of_getElem? (i := 278) (by decide +kernel)), sr_k_X4_fault⟩
theorem sr_l_6_53 : sr_okL 6 53 0 mX4_hotel := ⟨List.mem_append_right _ (List.mem_of_getElem? (i := 333) (by decide +kernel)), sr_k_X4_hotel⟩
theorem sr_l_6_57 : sr_okL 6 57 0 mX4_guest := ⟨List.mem_append_right _ (List.mem_of_getElem? (i := 356) (by decide +kernel)), sr_k_X4_guest⟩
theorem sr_l_6_61 : sr_okL 6 61 0 mX4_mark := ⟨List.mem_append_right _ (List.mem_of_getElem? (i := 396) (by decide +kernel)), sr_k_X4_mark⟩
theorem sr_l_6_65 : sr_okL 6 65 0 mX4_turn := ⟨List.mem_append_right _ (List.mem_of_getElem? (i := 429) (by decide +kernel)), sr_k_X4_turn⟩
theorem sr_l_6_69 : sr_okL 6 69 0 mX4_change := ⟨List.mem_append_right _ (List.mem_of_getElem? (i := 433) (by decide +kernel)), sr_k_X4_change⟩
theorem sr_l_6_73 : sr_okL 6 73 0 mX4_lock := ⟨List.mem_append_right _ (List.mem_of_getElem? (i := 446) (by decide +kernel)), sr_k_X4_lock⟩
theorem sr_l_6_77 : sr_okL 6 77 0 mX4_use := ⟨List.mem_append_right _ (List.mem_of_getElem? (i := 450) (by decide +kernel)), sr_k_X4_use⟩
theorem sr_l_6_81 : sr_okL 6 81 0 mX4_undo := ⟨List.mem_append_right _ (List.mem_of_getElem? (i := 454) (by decide +kernel)), sr_k_X4_undo⟩
theorem sr_l_6_85 : sr_okL 6 85 0 mX4_keep := ⟨List.mem_append_right _ (List.mem_of_getElem? (i := 462) (by decide +kernel)), sr_k_X4_keep⟩
theorem sr_l_6_89 : sr_okL 6 89 0 mX4_on := ⟨List.mem_append_right _ (List.mem_of_getElem? (i := 471) (by decide +kernel)), sr_k_X4_on⟩
theorem sr_l_6_93 : sr_okL 6 93 0 mX4_things := ⟨List.mem_append_right _ (List.mem_of_getElem? (i := 479) (by decide +kernel)), sr_k_X4_things⟩
theorem sr_l_6_97 : sr_okL 6 97 0 mX4_both := ⟨List.mem_append_right _ (List.mem_of_getElem? (i := 483) (by decide +kernel)), sr_k_X4_both⟩
theorem sr_l_6_101 : sr_okL 6 101 0 mX4_apart := ⟨List.mem_append_right _ (List.mem_of_getElem? (i := 487) (by decide +kernel)), sr_k_X4_apart⟩
theorem sr_l_6_105 : sr_okL 6 105 0 mX4_has := ⟨List.mem_append_right _ (List.mem_of_getElem? (i := 494) (by decide +kernel)), sr_k_X4_has⟩
theorem sr_l_6_109 : sr_okL 6 109 0 mX4_fits := ⟨List.mem_append_right _ (List.mem_of_getElem? (i := 499) (by decide +kernel)), sr_k_X4_fits⟩
theorem sr_l_6_113 : sr_okL 6 113 0 mX4_looks := ⟨List.mem_append_right _ (List.mem_of_getElem? (i := 511) (by decide +kernel)), sr_k_X4_looks⟩
theorem sr_l_6_117 : sr_okL 6 117 0 mX4_drawer := ⟨List.mem_append_right _ (List.mem_of_getElem? (i := 527) (by decide +kernel)), sr_k_X4_drawer⟩
theorem sr_l_6_121 : sr_okL 6 121 0 mX4_lives := ⟨List.mem_append_right _ (List.mem_of_getElem? (i := 539) (by decide +kernel)), sr_k_X4_lives⟩
theorem sr_l_6_125 : sr_okL 6 125 0 mX4_nearest := ⟨List.mem_append_right _ (List.mem_of_getElem? (i := 543) (by decide +kernel)), sr_k_X4_nearest⟩
theorem sr_l_6_129 : sr_okL 6 129 0 mX4_twins := ⟨List.mem_append_right _ (List.mem_of_getElem? (i := 551) (by decide +kernel)), sr_k_X4_twins⟩
theorem sr_l_6_133 : sr_okL 6 133 0 mX4_pairs := ⟨List.mem_append_right _ (List.mem_of_getElem? (i := 559) (by decide +kernel)), sr_k_X4_pairs⟩
theorem sr_l_6_138 : sr_okL 6 138 0 mX4_ring := ⟨List.mem_append_right _ (List.mem_of_getElem? (i := 563) (by decide +kernel)), sr_k_X4_ring⟩
theorem sr_l_6_142 : sr_okL 6 142 0 mX4_who := ⟨List.mem_append_right _ (List.mem_of_getElem? (i := 575) (by decide +kernel)), sr_k_X4_who⟩
theorem sr_l_6_146 : sr_okL 6 146 0 mX4_marks := ⟨List.mem_append_right _ (List.mem_of_getElem? (i := 579) (by decide +kernel)), sr_k_X4_marks⟩
theorem sr_l_6_150 : sr_okL 6 150 0 mX4_bill := ⟨List.mem_append_right _ (List.mem_of_getElem? (i := 583) (by decide +kernel)), sr_k_X4_bill⟩
theorem sr_l_6_154 : sr_okL 6 154 0 mX4_pays := ⟨List.mem_append_right _ (List.mem_of_getElem? (i := 594) (by decide +kernel)), sr_k_X4_pays⟩
theorem sr_l_6_158 : sr_okL 6 158 0 mX4_cheapest := ⟨List.mem_append_right _ (List.mem_of_getElem? (i := 598) (by decide +kernel)), sr_k_X4_cheapest⟩
theorem sr_l_6_162 : sr_okL 6 162 0 mX4_spread := ⟨List.mem_append_right _ (List.mem_of_getElem? (i := 602) (by decide +kernel)), sr_k_X4_spread⟩
theorem sr_l_6_166 : sr_okL 6 166 0 mX4_odds := ⟨List.mem_append_right _ (List.mem_of_getElem? (i := 613) (by decide +kernel)), sr_k_X4_odds⟩
theorem sr_l_6_170 : sr_okL 6 170 0 mX4_lots := ⟨List.mem_append_right _ (List.mem_of_getElem? (i := 617) (by decide +kernel)), sr_k_X4_lots⟩
theorem sr_l_6_174 : sr_okL 6 174 0 mX4_asked := ⟨List.mem_append_right _ (List.mem_of_getElem? (i := 629) (by decide +kernel)), sr_k_X4_asked⟩
theorem sr_l_6_178 : sr_okL 6 178 0 mX4_upper := ⟨List.mem_append_right _ (List.mem_of_getElem? (i := 633) (by decide +kernel)), sr_k_X4_upper⟩
theorem sr_l_6_183 : sr_okL 6 183 0 mX4_lower := ⟨List.mem_append_right _ (List.mem_of_getElem? (i := 637) (by decide +kernel)), sr_k_X4_lower⟩
theorem sr_l_6_187 : sr_okL 6 187 0 mX4_count := ⟨List.mem_append_right _ (List.mem_of_getElem? (i := 641) (by decide +kernel)), sr_k_X4_count⟩
theorem sr_l_6_191 : sr_okL 6 191 0 mX4_finding := ⟨List.mem_append_right _ (List.mem_of_getElem? (i := 658) (by decide +kernel)), sr_k_X4_finding⟩
theorem sr_l_6_195 : sr_okL 6 195 0 mX4_findings := ⟨List.mem_append_right _ (List.mem_of_getElem? (i := 662) (by decide +kernel)), sr_k_X4_findings⟩
theorem sr_l_6_199 : sr_okL 6 199 0 mX4_digest := ⟨List.mem_append_right _ (List.mem_of_getElem? (i := 666) (by decide +kernel)), sr_k_X4_digest⟩
theorem sr_l_6_12 : sr_okL 6 12 2 mX5_init := ⟨List.mem_append_right _ (List.mem_of_getElem? (i := 680) (by decide +kernel)), sr_k_X5_init⟩
theorem sr_l_6_194 : sr_okL 6 194 0 mX5_finding := ⟨List.mem_append_right _ (List.mem_of_getElem? (i := 789) (by decide +kernel)), sr_k_X5_finding⟩
theorem sr_l_6_198 : sr_okL 6 198 0 mX5_findings := ⟨List.mem_append_right _ (List.mem_of_getElem? (i := 793) (by decide +kernel)), sr_k_X5_findings⟩
theorem sr_l_6_177 : sr_okL 6 177 0 mX5_asked := ⟨List.mem_append_right _ (List.mem_of_getElem? (i := 800) (by decide +kernel)), sr_k_X5_asked⟩
theorem sr_l_6_182 : sr_okL 6 182 0 mX5_upper := ⟨List.mem_append_right _ (List.mem_of_getElem? (i := 804) (by decide +kernel)), sr_k_X5_upper⟩
theorem sr_l_6_186 : sr_okL 6 186 0 mX5_lower := ⟨List.mem_append_right _ (List.mem_of_getElem? (i := 808) (by decide +kernel)), sr_k_X5_lower⟩
theorem sr_l_6_17 : sr_okL 6 17 0 mX5_row := ⟨List.mem_append_right _ (List.mem_of_getElem? (i := 812) (by decide +kernel)), sr_k_X5_row⟩
theorem sr_l_6_22 : sr_okL 6 22 0 mX5_lay := ⟨List.mem_append_right _ (List.mem_of_getElem? (i := 823) (by decide +kernel)), sr_k_X5_lay⟩
theorem sr_l_6_26 : sr_okL 6 26 0 mX5_at := ⟨List.mem_append_right _ (List.mem_of_getElem? (i := 835) (by decide +kernel)), sr_k_X5_at⟩
theorem sr_l_6_31 : sr_okL 6 31 0 mX5_tear := ⟨List.mem_append_right _ (List.mem_of_getElem? (i := 839) (by decide +kernel)), sr_k_X5_tear⟩
theorem sr_l_6_36 : sr_okL 6 36 0 mX5_copy := ⟨List.mem_append_right _ (List.mem_of_getElem? (i := 843) (by decide +kernel)), sr_k_X5_copy⟩
theorem sr_l_6_40 : sr_okL 6 40 0 mX5_mean := ⟨List.mem_append_right _ (List.mem_of_getElem? (i := 847) (by decide +kernel)), sr_k_X5_mean⟩
theorem sr_l_6_44 : sr_okL 6 44 0 mX5_text := ⟨List.mem_append_right _ (List.mem_of_getElem? (i := 851) (by decide +kernel)), sr_k_X5_text⟩
theorem sr_l_6_48 : sr_okL 6 48 0 mX5_put := ⟨List.mem_append_right _ (List.mem_of_getElem? (i := 858) (by decide +kernel)), sr_k_X5_put⟩
theorem sr_l_6_52 : sr_okL 6 52 0 mX5_fault := ⟨List.mem_append_right _ (List.mem_of_getElem? (i := 862) (by decide +kernel)), sr_k_X5_fault⟩
theorem sr_l_6_56 : sr_okL 6 56 0 mX5_hotel := ⟨List.mem_append_right _ (List.mem_of_getElem? (i := 897) (by decide +kernel)), sr_k_X5_hotel⟩
theorem sr_l_6_60 : sr_okL 6 60 0 mX5_guest := ⟨List.mem_append_right _ (List.mem_of_getElem? (i := 901) (by decide +kernel)), sr_k_X5_guest⟩
theorem sr_l_6_64 : sr_okL 6 64 0 mX5_mark := ⟨List.mem_append_right _ (List.mem_of_getElem? (i := 928) (by decide +kernel)), sr_k_X5_mark⟩
theorem sr_l_6_68 : sr_okL 6 68 0 mX5_turn := ⟨List.mem_append_right _ (List.mem_of_getElem? (i := 951) (by decide +kernel)), sr_k_X5_turn⟩
theorem sr_l_6_72 : sr_okL 6 72 0 mX5_change := ⟨List.mem_append_right _ (List.mem_of_getElem? (i := 955) (by decide +kernel)), sr_k_X5_change⟩
theorem sr_l_6_76 : sr_okL 6 76 0 mX5_lock := ⟨List.mem_append_right _ (List.mem_of_getElem? (i := 966) (by decide +kernel)), sr_k_X5_lock⟩
theorem sr_l_6_80 : sr_okL 6 80 0 mX5_use := ⟨List.mem_append_right _ (List.mem_of_getElem? (i := 970) (by decide +kernel)), sr_k_X5_use⟩
theorem sr_l_6_84 : sr_okL 6 84 0 mX5_undo := ⟨List.mem_append_right _ (List.mem_of_getElem? (i := 978) (by decide +kernel)), sr_k_X5_undo⟩
theorem sr_l_6_88 : sr_okL 6 88 0 mX5_keep := ⟨List.mem_append_right _ (List.mem_of_getElem? (i := 982) (by decide +kernel)), sr_k_X5_keep⟩
theorem sr_l_6_92 : sr_okL 6 92 0 mX5_on := ⟨List.mem_append_right _ (List.mem_of_getElem? (i := 986) (by decide +kernel)), sr_k_X5_on⟩
theorem sr_l_6_96 : sr_okL 6 96 0 mX5_things := ⟨List.mem_append_right _ (List.mem_of_getElem? (i := 990) (by decide +kernel)), sr_k_X5_things⟩
theorem sr_l_6_100 : sr_okL 6 100 0 mX5_both := ⟨List.mem_append_right _ (List.mem_of_getElem? (i := 998) (by decide +kernel)), sr_k_X5_both⟩
theorem sr_l_6_104 : sr_okL 6 104 0 mX5_apart := ⟨List.mem_append_right _ (List.mem_of_getElem? (i := 1002) (by decide +kernel)), sr_k_X5_apart⟩
theorem sr_l_6_108 : sr_okL 6 108 0 mX5_has := ⟨List.mem_append_right _ (List.mem_of_getElem? (i := 1009) (by decide +kernel)), sr_k_X5_has⟩
theorem sr_l_6_112 : sr_okL 6 112 0 mX5_fits := ⟨List.mem_append_right _ (List.mem_of_getElem? (i := 1013) (by decide +kernel)), sr_k_X5_fits⟩
theorem sr_l_6_116 : sr_okL 6 116 0 mX5_looks := ⟨List.mem_append_right _ (List.mem_of_getElem? (i := 1021) (by decide +kernel)), sr_k_X5_looks⟩
theorem sr_l_6_120 : sr_okL 6 120 0 mX5_drawer := ⟨List.mem_append_right _ (List.mem_of_getElem? (i := 1033) (by decide +kernel)), sr_k_X5_drawer⟩
theorem sr_l_6_124 : sr_okL 6 124 0 mX5_lives := ⟨List.mem_append_right _ (List.mem_of_getElem? (i := 1042) (by decide +kernel)), sr_k_X5_lives⟩
theorem sr_l_6_128 : sr_okL 6 128 0 mX5_nearest := ⟨List.mem_append_right _ (List.mem_of_getElem? (i := 1046) (by decide +kernel)), sr_k_X5_nearest⟩
theorem sr_l_6_132 : sr_okL 6 132 0 mX5_twins := ⟨List.mem_append_right _ (List.mem_of_getElem? (i := 1054) (by decide +kernel)), sr_k_X5_twins⟩
theorem sr_l_6_137 : sr_okL 6 137 0 mX5_pairs := ⟨List.mem_append_right _ (List.mem_of_getElem? (i := 1062) (by decide +kernel)), sr_k_X5_pairs⟩
theorem sr_l_6_141 : sr_okL 6 141 0 mX5_ring := ⟨List.mem_append_right _ (List.mem_of_getElem? (i := 1066) (by decide +kernel)), sr_k_X5_ring⟩
theorem sr_l_6_145 : sr_okL 6 145 0 mX5_who := ⟨List.mem_append_right _ (List.mem_of_getElem? (i := 1074) (by decide +kernel)), sr_k_X5_who⟩
theorem sr_l_6_149 : sr_okL 6 149 0 mX5_marks := ⟨List.mem_append_right _ (List.mem_of_getElem? (i := 1078) (by decide +kernel)), sr_k_X5_marks⟩
theorem sr_l_6_153 : sr_okL 6 153 0 mX5_bill := ⟨List.mem_append_right _ (List.mem_of_getElem? (i := 1082) (by decide +kernel)), sr_k_X5_bill⟩
theorem sr_l_6_157 : sr_okL 6 157 0 mX5_pays := ⟨List.mem_append_right _ (List.mem_of_getElem? (i := 1090) (by decide +kernel)), sr_k_X5_pays⟩
theorem sr_l_6_161 : sr_okL 6 161 0 mX5_cheapest := ⟨List.mem_append_right _ (List.mem_of_getElem? (i := 1094) (by decide +kernel)), sr_k_X5_cheapest⟩
theorem sr_l_6_165 : sr_okL 6 165 0 mX5_spread := ⟨List.mem_append_right _ (List.mem_of_getElem? (i := 1098) (by decide +kernel)), sr_k_X5_spread⟩
theorem sr_l_6_169 : sr_okL 6 169 0 mX5_odds := ⟨List.mem_append_right _ (List.mem_of_getElem? (i := 1106) (by decide +kernel)), sr_k_X5_odds⟩
theorem sr_l_6_173 : sr_okL 6 173 0 mX5_lots := ⟨List.mem_append_right _ (List.mem_of_getElem? (i := 1110) (by decide +kernel)), sr_k_X5_lots⟩
theorem sr_l_6_190 : sr_okL 6 190 0 mX5_count := ⟨List.mem_append_right _ (List.mem_of_getElem? (i := 1119) (by decide +kernel)), sr_k_X5_count⟩
theorem sr_l_6_202 : sr_okL 6 202 0 mX5_digest := ⟨List.mem_append_right _ (List.mem_of_getElem? (i := 1127) (by decide +kernel)), sr_k_X5_digest⟩
set_option maxRecDepth 20000 in
theorem sr_mls_ok_6 : ∀ q ∈ sr_mls_6, sr_okL 6 q.1 q.2.1 q.2.2 := List.forall_mem_cons.mpr ⟨sr_l_6_9, List.forall_mem_cons.mpr ⟨sr_l_6_13, List.forall_mem_cons.mpr ⟨sr_l_6_18, List.forall_mem_cons.mpr ⟨sr_l_6_23, List.forall_mem_cons.mpr ⟨sr_l_6_27, List.forall_mem_cons.mpr ⟨sr_l_6_32, List.forall_mem_cons.mpr ⟨sr_l_6_37, List.forall_mem_cons.mpr ⟨sr_l_6_41, List.forall_mem_cons.mpr ⟨sr_l_6_45, List.forall_mem_cons.mpr ⟨sr_l_6_49, List.forall_mem_cons.mpr ⟨sr_l_6_53, List.forall_mem_cons.mpr ⟨sr_l_6_57, List.forall_mem_cons.mpr ⟨sr_l_6_61, List.forall_mem_cons.mpr ⟨sr_l_6_65, List.forall_mem_cons.mpr ⟨sr_l_6_69, List.forall_mem_cons.mpr ⟨sr_l_6_73, List.forall_mem_cons.mpr ⟨sr_l_6_77, List.forall_mem_cons.mpr ⟨sr_l_6_81, List.forall_mem_cons.mpr ⟨sr_l_6_85, List.forall_mem_cons.mpr ⟨sr_l_6_89, List.forall_mem_cons.mpr ⟨sr_l_6_93, List.forall_mem_cons.mpr ⟨sr_l_6_97, List.forall_mem_cons.mpr ⟨sr_l_6_101, List.forall_mem_cons.mpr ⟨sr_l_6_105, List.forall_mem_cons.mpr ⟨sr_l_6_109, List.forall_mem_cons.mpr ⟨sr_l_6_113, List.forall_mem_cons.mpr ⟨sr_l_6_117, List.forall_mem_cons.mpr ⟨sr_l_6_121, List.forall_mem_cons.mpr ⟨sr_l_6_125, List.forall_mem_cons.mpr ⟨sr_l_6_129, List.forall_mem_cons.mpr ⟨sr_l_6_133, List.forall_mem_cons.mpr ⟨sr_l_6_138, List.forall_mem_cons.mpr ⟨sr_l_6_142, List.forall_mem_cons.mpr ⟨sr_l_6_146, List.forall_mem_cons.mpr ⟨sr_l_6_150, List.forall_mem_cons.mpr ⟨sr_l_6_154, List.forall_mem_cons.mpr ⟨sr_l_6_158, List.forall_mem_cons.mpr ⟨sr_l_6_162, List.forall_mem_cons.mpr ⟨sr_l_6_166, List.forall_mem_cons.mpr ⟨sr_l_6_170, List.forall_mem_cons.mpr ⟨sr_l_6_174, List.forall_mem_cons.mpr ⟨sr_l_6_178, List.forall_mem_cons.mpr ⟨sr_l_6_183, List.forall_mem_cons.mpr ⟨sr_l_6_187, List.forall_mem_cons.mpr ⟨sr_l_6_191, List.forall_mem_cons.mpr ⟨sr_l_6_195, List.forall_mem_cons.mpr ⟨sr_l_6_199, List.forall_mem_cons.mpr ⟨sr_l_6_12, List.forall_mem_cons.mpr ⟨sr_l_6_194, List.forall_mem_cons.mpr ⟨sr_l_6_198, List.forall_mem_cons.mpr ⟨sr_l_6_177, List.forall_mem_cons.mpr ⟨sr_l_6_182, List.forall_mem_cons.mpr ⟨sr_l_6_186, List.forall_mem_cons.mpr ⟨sr_l_6_17, List.forall_mem_cons.mpr ⟨sr_l_6_22, List.forall_mem_cons.mpr ⟨sr_l_6_26, List.forall_mem_cons.mpr ⟨sr_l_6_31, List.forall_mem_cons.mpr ⟨sr_l_6_36, List.forall_mem_cons.mpr ⟨sr_l_6_40, List.forall_mem_cons.mpr ⟨sr_l_6_44, List.forall_mem_cons.mpr ⟨sr_l_6_48, List.forall_mem_cons.mpr ⟨sr_l_6_52, List.forall_mem_cons.mpr ⟨sr_l_6_56, List.forall_mem_cons.mpr ⟨sr_l_6_60, List.forall_mem_cons.mpr ⟨sr_l_6_64, List.forall_mem_cons.mpr ⟨sr_l_6_68, List.forall_mem_cons.mpr ⟨sr_l_6_72, List.forall_mem_cons.mpr ⟨sr_l_6_76, List.forall_mem_cons.mpr ⟨sr_l_6_80, List.forall_mem_cons.mpr ⟨sr_l_6_84, List.forall_mem_cons.mpr ⟨sr_l_6_88, List.forall_mem_cons.mpr ⟨sr_l_6_92, List.forall_mem_cons.mpr ⟨sr_l_6_96, List.forall_mem_cons.mpr ⟨sr_l_6_100, List.forall_mem_cons.mpr ⟨sr_l_6_104, List.forall_mem_cons.mpr ⟨sr_l_6_108, List.forall_mem_cons.mpr ⟨sr_l_6_112, List.forall_mem_cons.mpr ⟨sr_l_6_116, List.forall_mem_cons.mpr ⟨sr_l_6_120, List.forall_mem_cons.mpr ⟨sr_l_6_124, List.forall_mem_cons.mpr ⟨sr_l_6_128, List.forall_mem_cons.mpr ⟨sr_l_6_132, List.forall_mem_cons.mpr ⟨sr_l_6_137, List.forall_mem_cons.mpr ⟨sr_l_6_141, List.forall_mem_cons.mpr ⟨sr_l_6_145, List.forall_mem_cons.mpr ⟨sr_l_6_149, List.forall_mem_cons.mpr ⟨sr_l_6_153, List.forall_mem_cons.mpr ⟨sr_l_6_157, List.forall_mem_cons.mpr ⟨sr_l_6_161, List.forall_mem_cons.mpr ⟨sr_l_6_165, List.forall_mem_cons.mpr ⟨sr_l_6_169, List.forall_mem_cons.mpr ⟨sr_l_6_173, List.forall_mem_cons.mpr ⟨sr_l_6_190, List.forall_mem_cons.mpr ⟨sr_l_6_202, fun _ h => absurd h List.not_mem_nil⟩⟩⟩⟩⟩⟩⟩⟩⟩⟩⟩⟩⟩⟩⟩⟩⟩⟩⟩⟩⟩⟩⟩⟩⟩⟩⟩⟩⟩⟩⟩⟩⟩⟩⟩⟩⟩⟩⟩⟩⟩⟩⟩⟩⟩⟩⟩⟩⟩⟩⟩⟩⟩⟩⟩⟩⟩⟩⟩⟩⟩⟩⟩⟩⟩⟩⟩⟩⟩⟩⟩⟩⟩⟩⟩⟩⟩⟩⟩⟩⟩⟩⟩⟩⟩⟩⟩⟩⟩⟩⟩⟩⟩⟩
theorem sr_fls_ok_6 : ∀ q ∈ sr_fls_6, sr_okF 6 q.1 q.2.1 q.2.2 := fun _ h => absurd h List.not_mem_nil
theorem sr_nls_ok_6 : ∀ q ∈ sr_nls_6, sr_okN 6 q.1 q.2 := List.forall_mem_cons.mpr ⟨⟨RX4, TX4, 16, rfl, List.mem_append_right _ (List.mem_of_getElem? (i := 10) (by decide +kernel)), List.mem_append_right _ (List.mem_of_getElem? (i := 11) (by decide +kernel)), List.mem_append_right _ (List.mem_of_getElem? (i := 1) (by decide +kernel))⟩, List.forall_mem_cons.mpr ⟨⟨RX5, TX5, 34, rfl, List.mem_append_right _ (List.mem_of_getElem? (i := 678) (by decide +kernel)), List.mem_append_right _ (List.mem_of_getElem? (i := 679) (by decide +kernel)), List.mem_append_right _ (List.mem_of_getElem? (i := 6) (by decide +kernel))⟩, fun _ h => absurd h List.not_mem_nil⟩⟩
theorem sr_ics_ok_6 : ∀ q ∈ sr_ics_6, Cond.constant (sr_R 6) q.1 q.2 ∈ lw_tbl := fun _ h => absurd h List.not_mem_nil
theorem sr_lcs_ok_6 : ∀ q ∈ sr_lcs_6, Cond.constantLong (sr_R 6) q.1 q.2 ∈ lw_tbl := fun _ h => absurd h List.not_mem_nil
theorem sr_sls_ok_6 : ∀ q ∈ sr_sls_6, Cond.fieldLinkNest (sr_R 6) q.1 "SecondRoom" (if q.2 = 0 then "KIND_LETTERS" else "KIND_ABOVE") "[I" "SecondRoom" ∈ lw_tbl := fun _ h => absurd h List.not_mem_nil
set_option maxRecDepth 20000 in
theorem sr_mls_ok_7 : ∀ q ∈ sr_mls_7, sr_okL 7 q.1 q.2.1 q.2.2 := fun _ h => absurd h List.not_mem_nil
theorem sr_fls_ok_7 : ∀ q ∈ sr_fls_7, sr_okF 7 q.1 q.2.1 q.2.2 := fun _ h => absurd h List.not_mem_nil
theorem sr_nls_ok_7 : ∀ q ∈ sr_nls_7, sr_okN 7 q.1 q.2 := fun _ h => absurd h List.not_mem_nil
theorem sr_ics_ok_7 : ∀ q ∈ sr_ics_7, Cond.constant (sr_R 7) q.1 q.2 ∈ lw_tbl := List.forall_mem_cons.mpr ⟨List.mem_append_right _ (List.mem_of_getElem? (i := 409) (by decide +kernel)), List.forall_mem_cons.mpr ⟨List.mem_append_right _ (List.mem_of_getElem? (i := 410) (by decide +kernel)), List.forall_mem_cons.mpr ⟨List.mem_append_right _ (List.mem_of_getElem? (i := 411) (by decide +kernel)), fun _ h => absurd h List.not_mem_nil⟩⟩⟩
theorem sr_lcs_ok_7 : ∀ q ∈ sr_lcs_7, Cond.constantLong (sr_R 7) q.1 q.2 ∈ lw_tbl := fun _ h => absurd h List.not_mem_nil
theorem sr_sls_ok_7 : ∀ q ∈ sr_sls_7, Cond.fieldLinkNest (sr_R 7) q.1 "SecondRoom" (if q.2 = 0 then "KIND_LETTERS" else "KIND_ABOVE") "[I" "SecondRoom" ∈ lw_tbl := fun _ h => absurd h List.not_mem_nil
set_option maxRecDepth 20000 in
theorem sr_mls_ok_8 : ∀ q ∈ sr_mls_8, sr_okL 8 q.1 q.2.1 q.2.2 := fun _ h => absurd h List.not_mem_nil
theorem sr_fls_ok_8 : ∀ q ∈ sr_fls_8, sr_okF 8 q.1 q.2.1 q.2.2 := fun _ h => absurd h List.not_mem_nil
theorem sr_nls_ok_8 : ∀ q ∈ sr_nls_8, sr_okN 8 q.1 q.2 := fun _ h => absurd h List.not_mem_nil
theorem sr_ics_ok_8 : ∀ q ∈ sr_ics_8, Cond.constant (sr_R 8) q.1 q.2 ∈ lw_tbl := fun _ h => absurd h List.not_mem_nil
theorem sr_lcs_ok_8 : ∀ q ∈ sr_lcs_8, Cond.constantLong (sr_R 8) q.1 q.2 ∈ lw_tbl := fun _ h => absurd h List.not_mem_nil
theorem sr_sls_ok_8 : ∀ q ∈ sr_sls_8, Cond.fieldLinkNest (sr_R 8) q.1 "SecondRoom" (if q.2 = 0 then "KIND_LETTERS" else "KIND_ABOVE") "[I" "SecondRoom" ∈ lw_tbl := fun _ h => absurd h List.not_mem_nil
theorem sr_mls_ok {own : Nat} (ho : own < 9) : ∀ q ∈ sr_mls own, sr_okL own q.1 q.2.1 q.2.2 := by
  match own, ho with
  | 0, _ => exact sr_mls_ok_0
  | 1, _ => exact sr_mls_ok_1
  | 2, _ => exact sr_mls_ok_2
  | 3, _ => exact sr_mls_ok_3
  | 4, _ => exact sr_mls_ok_4
  | 5, _ => exact sr_mls_ok_5
  | 6, _ => exact sr_mls_ok_6
  | 7, _ => exact sr_mls_ok_7
  | 8, _ => exact sr_mls_ok_8
theorem sr_fls_ok {own : Nat} (ho : own < 9) : ∀ q ∈ sr_fls own, sr_okF own q.1 q.2.1 q.2.2 := by
  match own, ho with
  | 0, _ => exact sr_fls_ok_0
  | 1, _ => exact sr_fls_ok_1
  | 2, _ => exact sr_fls_ok_2
  | 3, _ => exact sr_fls_ok_3
  | 4, _ => exact sr_fls_ok_4
  | 5, _ => exact sr_fls_ok_5
  | 6, _ => exact sr_fls_ok_6
  | 7, _ => exact sr_fls_ok_7
  | 8, _ => exact sr_fls_ok_8
theorem sr_nls_ok {own : Nat} (ho : own < 9) : ∀ q ∈ sr_nls own, sr_okN own q.1 q.2 := by
  match own, ho with
  | 0, _ => exact sr_nls_ok_0
  | 1, _ => exact sr_nls_ok_1
  | 2, _ => exact sr_nls_ok_2
  | 3, _ => exact sr_nls_ok_3
  | 4, _ => exact sr_nls_ok_4
  | 5, _ => exact sr_nls_ok_5
  | 6, _ => exact sr_nls_ok_6
  | 7, _ => exact sr_nls_ok_7
  | 8, _ => exact sr_nls_ok_8
theorem sr_ics_ok {own : Nat} (ho : own < 9) : ∀ q ∈ sr_ics own, Cond.constant (sr_R own) q.1 q.2 ∈ lw_tbl := by
  match own, ho with
  | 0, _ => exact sr_ics_ok_0
  | 1, _ => exact sr_ics_ok_1
  | 2, _ => exact sr_ics_ok_2
  | 3, _ => exact sr_ics_ok_3
  | 4, _ => exact sr_ics_ok_4
  | 5, _ => exact sr_ics_ok_5
  | 6, _ => exact sr_ics_ok_6
  | 7, _ => exact sr_ics_ok_7
  | 8, _ => exact sr_ics_ok_8
theorem sr_lcs_ok {own : Nat} (ho : own < 9) : ∀ q ∈ sr_lcs own, Cond.constantLong (sr_R own) q.1 q.2 ∈ lw_tbl := by
  match own, ho with
  | 0, _ => exact sr_lcs_ok_0
  | 1, _ => exact sr_lcs_ok_1
  | 2, _ => exact sr_lcs_ok_2
  | 3, _ => exact sr_lcs_ok_3
  | 4, _ => exact sr_lcs_ok_4
  | 5, _ => exact sr_lcs_ok_5
  | 6, _ => exact sr_lcs_ok_6
  | 7, _ => exact sr_lcs_ok_7
  | 8, _ => exact sr_lcs_ok_8
theorem sr_sls_ok {own : Nat} (ho : own < 9) : ∀ q ∈ sr_sls own, Cond.fieldLinkNest (sr_R own) q.1 "SecondRoom" (if q.2 = 0 then "KIND_LETTERS" else "KIND_ABOVE") "[I" "SecondRoom" ∈ lw_tbl := by
  match own, ho with
  | 0, _ => exact sr_sls_ok_0
  | 1, _ => exact sr_sls_ok_1
  | 2, _ => exact sr_sls_ok_2
  | 3, _ => exact sr_sls_ok_3
  | 4, _ => exact sr_sls_ok_4
  | 5, _ => exact sr_sls_ok_5
  | 6, _ => exact sr_sls_ok_6
  | 7, _ => exact sr_sls_ok_7
  | 8, _ => exact sr_sls_ok_8
theorem sr_c_0_0 : u_lay RX0 TX0 0 ∈ lw_tbl := List.mem_append_right _ (List.mem_of_getElem? (i := 78) (by decide +kernel))
theorem sr_c_0_1 : u_lay RX0 TX0 1 ∈ lw_tbl := List.mem_append_right _ (List.mem_of_getElem? (i := 80) (by decide +kernel))
theorem sr_c_0_2 : u_lay RX0 TX0 2 ∈ lw_tbl := List.mem_append_right _ (List.mem_of_getElem? (i := 82) (by decide +kernel))
theorem sr_c_0_3 : u_lay RX0 TX0 3 ∈ lw_tbl := List.mem_append_right _ (List.mem_of_getElem? (i := 84) (by decide +kernel))
theorem sr_c_0_4 : u_lay RX0 TX0 4 ∈ lw_tbl := List.mem_append_right _ (List.mem_of_getElem? (i := 86) (by decide +kernel))
theorem sr_c_0_5 : u_lay RX0 TX0 5 ∈ lw_tbl := List.mem_append_right _ (List.mem_of_getElem? (i := 88) (by decide +kernel))
theorem sr_c_0_6 : u_lay RX0 TX0 6 ∈ lw_tbl := List.mem_append_right _ (List.mem_of_getElem? (i := 90) (by decide +kernel))
theorem sr_c_0_7 : u_lay RX0 TX0 7 ∈ lw_tbl := List.mem_append_right _ (List.mem_of_getElem? (i := 92) (by decide +kernel))
theorem sr_c_0 : ∀ w ∈ u_ws RX0 TX0 8, w ∈ lw_tbl := by
  intro w hw
  obtain ⟨k, hk, rfl⟩ := List.mem_map.mp hw
  have hk := List.mem_range.mp hk
  match k, hk with
  | 0, _ => exact sr_c_0_0
  | 1, _ => exact sr_c_0_1
  | 2, _ => exact sr_c_0_2
  | 3, _ => exact sr_c_0_3
  | 4, _ => exact sr_c_0_4
  | 5, _ => exact sr_c_0_5
  | 6, _ => exact sr_c_0_6
  | 7, _ => exact sr_c_0_7
  | n + 8, h => exact absurd h (by omega)
theorem sr_c_1_0 : u_lay RX1 TX1 0 ∈ lw_tbl := List.mem_append_right _ (List.mem_of_getElem? (i := 112) (by decide +kernel))
theorem sr_c_1_1 : u_lay RX1 TX1 1 ∈ lw_tbl := List.mem_append_right _ (List.mem_of_getElem? (i := 114) (by decide +kernel))
theorem sr_c_1_2 : u_lay RX1 TX1 2 ∈ lw_tbl := List.mem_append_right _ (List.mem_of_getElem? (i := 116) (by decide +kernel))
theorem sr_c_1_3 : u_lay RX1 TX1 3 ∈ lw_tbl := List.mem_append_right _ (List.mem_of_getElem? (i := 118) (by decide +kernel))
theorem sr_c_1_4 : u_lay RX1 TX1 4 ∈ lw_tbl := List.mem_append_right _ (List.mem_of_getElem? (i := 120) (by decide +kernel))
theorem sr_c_1_5 : u_lay RX1 TX1 5 ∈ lw_tbl := List.mem_append_right _ (List.mem_of_getElem? (i := 122) (by decide +kernel))
theorem sr_c_1_6 : u_lay RX1 TX1 6 ∈ lw_tbl := List.mem_append_right _ (List.mem_of_getElem? (i := 124) (by decide +kernel))
theorem sr_c_1 : ∀ w ∈ u_ws RX1 TX1 7, w ∈ lw_tbl := by
  intro w hw
  obtain ⟨k, hk, rfl⟩ := List.mem_map.mp hw
  have hk := List.mem_range.mp hk
  match k, hk with
  | 0, _ => exact sr_c_1_0
  | 1, _ => exact sr_c_1_1
  | 2, _ => exact sr_c_1_2
  | 3, _ => exact sr_c_1_3
  | 4, _ => exact sr_c_1_4
  | 5, _ => exact sr_c_1_5
  | 6, _ => exact sr_c_1_6
  | n + 7, h => exact absurd h (by omega)
theorem sr_c_2_0 : u_lay RX2 TX2 0 ∈ lw_tbl := List.mem_append_right _ (List.mem_of_getElem? (i := 46) (by decide +kernel))
theorem sr_c_2_1 : u_lay RX2 TX2 1 ∈ lw_tbl := List.mem_append_right _ (List.mem_of_getElem? (i := 48) (by decide +kernel))
theorem sr_c_2_2 : u_lay RX2 TX2 2 ∈ lw_tbl := List.mem_append_right _ (List.mem_of_getElem? (i := 50) (by decide +kernel))
theorem sr_c_2_3 : u_lay RX2 TX2 3 ∈ lw_tbl := List.mem_append_right _ (List.mem_of_getElem? (i := 52) (by decide +kernel))
theorem sr_c_2 : ∀ w ∈ u_ws RX2 TX2 4, w ∈ lw_tbl := by
  intro w hw
  obtain ⟨k, hk, rfl⟩ := List.mem_map.mp hw
  have hk := List.mem_range.mp hk
  match k, hk with
  | 0, _ => exact sr_c_2_0
  | 1, _ => exact sr_c_2_1
  | 2, _ => exact sr_c_2_2
  | 3, _ => exact sr_c_2_3
  | n + 4, h => exact absurd h (by omega)
theorem sr_c_3_0 : u_lay RX3 TX3 0 ∈ lw_tbl := List.mem_append_right _ (List.mem_of_getElem? (i := 28) (by decide +kernel))
theorem sr_c_3_1 : u_lay RX3 TX3 1 ∈ lw_tbl := List.mem_append_right _ (List.mem_of_getElem? (i := 30) (by decide +kernel))
theorem sr_c_3_2 : u_lay RX3 TX3 2 ∈ lw_tbl := List.mem_append_right _ (List.mem_of_getElem? (i := 32) (by decide +kernel))
theorem sr_c_3 : ∀ w ∈ u_ws RX3 TX3 3, w ∈ lw_tbl := by
  intro w hw
  obtain ⟨k, hk, rfl⟩ := List.mem_map.mp hw
  have hk := List.mem_range.mp hk
  match k, hk with
  | 0, _ => exact sr_c_3_0
  | 1, _ => exact sr_c_3_1
  | 2, _ => exact sr_c_3_2
  | n + 3, h => exact absurd h (by omega)
theorem sr_c_4_0 : u_lay RX4 TX4 0 ∈ lw_tbl := List.mem_append_right _ (List.mem_of_getElem? (i := 144) (by decide +kernel))
theorem sr_c_4_1 : u_lay RX4 TX4 1 ∈ lw_tbl := List.mem_append_right _ (List.mem_of_getElem? (i := 146) (by decide +kernel))
theorem sr_c_4_2 : u_lay RX4 TX4 2 ∈ lw_tbl := List.mem_append_right _ (List.mem_of_getElem? (i := 148) (by decide +kernel))
theorem sr_c_4_3 : u_lay RX4 TX4 3 ∈ lw_tbl := List.mem_append_right _ (List.mem_of_getElem? (i := 150) (by decide +kernel))
theorem sr_c_4_4 : u_lay RX4 TX4 4 ∈ lw_tbl := List.mem_append_right _ (List.mem_of_getElem? (i := 152) (by decide +kernel))
theorem sr_c_4_5 : u_lay RX4 TX4 5 ∈ lw_tbl := List.mem_append_right _ (List.mem_of_getElem? (i := 154) (by decide +kernel))
theorem sr_c_4_6 : u_lay RX4 TX4 6 ∈ lw_tbl := List.mem_append_right _ (List.mem_of_getElem? (i := 156) (by decide +kernel))
theorem sr_c_4_7 : u_lay RX4 TX4 7 ∈ lw_tbl := List.mem_append_right _ (List.mem_of_getElem? (i := 158) (by decide +kernel))
theorem sr_c_4_8 : u_lay RX4 TX4 8 ∈ lw_tbl := List.mem_append_right _ (List.mem_of_getElem? (i := 160) (by decide +kernel))
theorem sr_c_4_9 : u_lay RX4 TX4 9 ∈ lw_tbl := List.mem_append_right _ (List.mem_of_getElem? (i := 162) (by decide +kernel))
theorem sr_c_4_10 : u_lay RX4 TX4 10 ∈ lw_tbl := List.mem_append_right _ (List.mem_of_getElem? (i := 164) (by decide +kernel))
theorem sr_c_4_11 : u_lay RX4 TX4 11 ∈ lw_tbl := List.mem_append_right _ (List.mem_of_getElem? (i := 166) (by decide +kernel))
theorem sr_c_4_12 : u_lay RX4 TX4 12 ∈ lw_tbl := List.mem_append_right _ (List.mem_of_getElem? (i := 168) (by decide +kernel))
theorem sr_c_4_13 : u_lay RX4 TX4 13 ∈ lw_tbl := List.mem_append_right _ (List.mem_of_getElem? (i := 170) (by decide +kernel))
theorem sr_c_4_14 : u_lay RX4 TX4 14 ∈ lw_tbl := List.mem_append_right _ (List.mem_of_getElem? (i := 172) (by decide +kernel))
theorem sr_c_4_15 : u_lay RX4 TX4 15 ∈ lw_tbl := List.mem_append_right _ (List.mem_of_getElem? (i := 174) (by decide +kernel))
theorem sr_c_4 : ∀ w ∈ u_ws RX4 TX4 16, w ∈ lw_tbl := by
  intro w hw
  obtain ⟨k, hk, rfl⟩ := List.mem_map.mp hw
  have hk := List.mem_range.mp hk
  match k, hk with
  | 0, _ => exact sr_c_4_0
  | 1, _ => exact sr_c_4_1
  | 2, _ => exact sr_c_4_2
  | 3, _ => exact sr_c_4_3
  | 4, _ => exact sr_c_4_4
  | 5, _ => exact sr_c_4_5
  | 6, _ => exact sr_c_4_6
  | 7, _ => exact sr_c_4_7
  | 8, _ => exact sr_c_4_8
  | 9, _ => exact sr_c_4_9
  | 10, _ => exact sr_c_4_10
  | 11, _ => exact sr_c_4_11
  | 12, _ => exact sr_c_4_12
  | 13, _ => exact sr_c_4_13
  | 14, _ => exact sr_c_4_14
  | 15, _ => exact sr_c_4_15
  | n + 16, h => exact absurd h (by omega)
theorem sr_c_5_0 : u_lay RX5 TX5 0 ∈ lw_tbl := List.mem_append_right _ (List.mem_of_getElem? (i := 718) (by decide +kernel))
theorem sr_c_5_1 : u_lay RX5 TX5 1 ∈ lw_tbl := List.mem_append_right _ (List.mem_of_getElem? (i := 720) (by decide +kernel))
theorem sr_c_5_2 : u_lay RX5 TX5 2 ∈ lw_tbl := List.mem_append_right _ (List.mem_of_getElem? (i := 722) (by decide +kernel))
theorem sr_c_5_3 : u_lay RX5 TX5 3 ∈ lw_tbl := List.mem_append_right _ (List.mem_of_getElem? (i := 724) (by decide +kernel))
theorem sr_c_5_4 : u_lay RX5 TX5 4 ∈ lw_tbl := List.mem_append_right _ (List.mem_of_getElem? (i := 726) (by decide +kernel))
theorem sr_c_5_5 : u_lay RX5 TX5 5 ∈ lw_tbl := List.mem_append_right _ (List.mem_of_getElem? (i := 728) (by decide +kernel))
theorem sr_c_5_6 : u_lay RX5 TX5 6 ∈ lw_tbl := List.mem_append_right _ (List.mem_of_getElem? (i := 730) (by decide +kernel))
theorem sr_c_5_7 : u_lay RX5 TX5 7 ∈ lw_tbl := List.mem_append_right _ (List.mem_of_getElem? (i := 732) (by decide +kernel))
theorem sr_c_5_8 : u_lay RX5 TX5 8 ∈ lw_tbl := List.mem_append_right _ (List.mem_of_getElem? (i := 734) (by decide +kernel))
theorem sr_c_5_9 : u_lay RX5 TX5 9 ∈ lw_tbl := List.mem_append_right _ (List.mem_of_getElem? (i := 736) (by decide +kernel))
theorem sr_c_5_10 : u_lay RX5 TX5 10 ∈ lw_tbl := List.mem_append_right _ (List.mem_of_getElem? (i := 738) (by decide +kernel))
theorem sr_c_5_11 : u_lay RX5 TX5 11 ∈ lw_tbl := List.mem_append_right _ (List.mem_of_getElem? (i := 740) (by decide +kernel))
theorem sr_c_5_12 : u_lay RX5 TX5 12 ∈ lw_tbl := List.mem_append_right _ (List.mem_of_getElem? (i := 742) (by decide +kernel))
theorem sr_c_5_13 : u_lay RX5 TX5 13 ∈ lw_tbl := List.mem_append_right _ (List.mem_of_getElem? (i := 744) (by decide +kernel))
theorem sr_c_5_14 : u_lay RX5 TX5 14 ∈ lw_tbl := List.mem_append_right _ (List.mem_of_getElem? (i := 746) (by decide +kernel))
theorem sr_c_5_15 : u_lay RX5 TX5 15 ∈ lw_tbl := List.mem_append_right _ (List.mem_of_getElem? (i := 748) (by decide +kernel))
theorem sr_c_5_16 : u_lay RX5 TX5 16 ∈ lw_tbl := List.mem_append_right _ (List.mem_of_getElem? (i := 750) (by decide +kernel))
theorem sr_c_5_17 : u_lay RX5 TX5 17 ∈ lw_tbl := List.mem_append_right _ (List.mem_of_getElem? (i := 752) (by decide +kernel))
theorem sr_c_5_18 : u_lay RX5 TX5 18 ∈ lw_tbl := List.mem_append_right _ (List.mem_of_getElem? (i := 754) (by decide +kernel))
theorem sr_c_5_19 : u_lay RX5 TX5 19 ∈ lw_tbl := List.mem_append_right _ (List.mem_of_getElem? (i := 756) (by decide +kernel))
theorem sr_c_5_20 : u_lay RX5 TX5 20 ∈ lw_tbl := List.mem_append_right _ (List.mem_of_getElem? (i := 758) (by decide +kernel))
theorem sr_c_5_21 : u_lay RX5 TX5 21 ∈ lw_tbl := List.mem_append_right _ (List.mem_of_getElem? (i := 760) (by decide +kernel))
theorem sr_c_5_22 : u_lay RX5 TX5 22 ∈ lw_tbl := List.mem_append_right _ (List.mem_of_getElem? (i := 762) (by decide +kernel))
theorem sr_c_5_23 : u_lay RX5 TX5 23 ∈ lw_tbl := List.mem_append_right _ (List.mem_of_getElem? (i := 764) (by decide +kernel))
theorem sr_c_5_24 : u_lay RX5 TX5 24 ∈ lw_tbl := List.mem_append_right _ (List.mem_of_getElem? (i := 766) (by decide +kernel))
theorem sr_c_5_25 : u_lay RX5 TX5 25 ∈ lw_tbl := List.mem_append_right _ (List.mem_of_getElem? (i := 768) (by decide +kernel))
theorem sr_c_5_26 : u_lay RX5 TX5 26 ∈ lw_tbl := List.mem_append_right _ (List.mem_of_getElem? (i := 770) (by decide +kernel))
theorem sr_c_5_27 : u_lay RX5 TX5 27 ∈ lw_tbl := List.mem_append_right _ (List.mem_of_getElem? (i := 772) (by decide +kernel))
theorem sr_c_5_28 : u_lay RX5 TX5 28 ∈ lw_tbl := List.mem_append_right _ (List.mem_of_getElem? (i := 774) (by decide +kernel))
theorem sr_c_5_29 : u_lay RX5 TX5 29 ∈ lw_tbl := List.mem_append_right _ (List.mem_of_getElem? (i := 776) (by decide +kernel))
theorem sr_c_5_30 : u_lay RX5 TX5 30 ∈ lw_tbl := List.mem_append_right _ (List.mem_of_getElem? (i := 778) (by decide +kernel))
theorem sr_c_5_31 : u_lay RX5 TX5 31 ∈ lw_tbl := List.mem_append_right _ (List.mem_of_getElem? (i := 780) (by decide +kernel))
theorem sr_c_5_32 : u_lay RX5 TX5 32 ∈ lw_tbl := List.mem_append_right _ (List.mem_of_getElem? (i := 782) (by decide +kernel))
theorem sr_c_5_33 : u_lay RX5 TX5 33 ∈ lw_tbl := List.mem_append_right _ (List.mem_of_getElem? (i := 784) (by decide +kernel))
theorem sr_c_5 : ∀ w ∈ u_ws RX5 TX5 34, w ∈ lw_tbl := by
  intro w hw
  obtain ⟨k, hk, rfl⟩ := List.mem_map.mp hw
  have hk := List.mem_range.mp hk
  match k, hk with
  | 0, _ => exact sr_c_5_0
  | 1, _ => exact sr_c_5_1
  | 2, _ => exact sr_c_5_2
  | 3, _ => exact sr_c_5_3
  | 4, _ => exact sr_c_5_4
  | 5, _ => exact sr_c_5_5
  | 6, _ => exact sr_c_5_6
  | 7, _ => exact sr_c_5_7
  | 8, _ => exact sr_c_5_8
  | 9, _ => exact sr_c_5_9
  | 10, _ => exact sr_c_5_10
  | 11, _ => exact sr_c_5_11
  | 12, _ => exact sr_c_5_12
  | 13, _ => exact sr_c_5_13
  | 14, _ => exact sr_c_5_14
  | 15, _ => exact sr_c_5_15
  | 16, _ => exact sr_c_5_16
  | 17, _ => exact sr_c_5_17
  | 18, _ => exact sr_c_5_18
  | 19, _ => exact sr_c_5_19
  | 20, _ => exact sr_c_5_20
  | 21, _ => exact sr_c_5_21
  | 22, _ => exact sr_c_5_22
  | 23, _ => exact sr_c_5_23
  | 24, _ => exact sr_c_5_24
  | 25, _ => exact sr_c_5_25
  | 26, _ => exact sr_c_5_26
  | 27, _ => exact sr_c_5_27
  | 28, _ => exact sr_c_5_28
  | 29, _ => exact sr_c_5_29
  | 30, _ => exact sr_c_5_30
  | 31, _ => exact sr_c_5_31
  | 32, _ => exact sr_c_5_32
  | 33, _ => exact sr_c_5_33
  | n + 34, h => exact absurd h (by omega)
