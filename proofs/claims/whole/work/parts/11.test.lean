def m_X10_adds : hm_D := (yX10_adds, cX10_adds, 5, none)
def m_X10_apart : hm_D := (yX10_apart, cX10_apart, 2, (some .int))
def m_X10_canBe : hm_D := (yX10_canBe, cX10_canBe, 3, (some .boolean))
def m_X10_cellAt : hm_D := (yX10_cellAt, cX10_cellAt, 2, (some .int))
def m_X10_farOf : hm_D := (yX10_farOf, cX10_farOf, 3, (some .int))
def m_X10_good : hm_D := (yX10_good, cX10_good, 2, (some .int))
def m_X10_isPerson : hm_D := (yX10_isPerson, cX10_isPerson, 2, (some .boolean))
def m_X10_isTerm : hm_D := (yX10_isTerm, cX10_isTerm, 2, (some .boolean))
def m_X10_lies : hm_D := (yX10_lies, cX10_lies, 3, (some .boolean))
def m_X10_many : hm_D := (yX10_many, cX10_many, 1, (some .int))
def m_X10_ones : hm_D := (yX10_ones, cX10_ones, 3, (some .int))
def m_X10_person : hm_D := (yX10_person, cX10_person, 4, (some .int))
def m_X10_refuses : hm_D := (yX10_refuses, cX10_refuses, 2, (some .int))
def m_X10_row : hm_D := (yX10_row, cX10_row, 5, (some .int))
def m_X10_settled : hm_D := (yX10_settled, cX10_settled, 2, (some .int))
def m_X10_termAt : hm_D := (yX10_termAt, cX10_termAt, 1, (some .int))
def m_X10_terms : hm_D := (yX10_terms, cX10_terms, 4, (some .int))
theorem kl_0 : hm_Kl 0 (RX0, TX0, 7) := by
  have h : u_ws RX0 TX0 7 = ([358, 360, 362, 364, 366, 368, 370] : List Nat).filterMap (fun i => lw_tbl[i]?) := by decide +kernel
  have h2 : (u_ws RX0 TX0 7).all goodWord = true := by decide +kernel
  refine ⟨rfl, by decide, fun w hw => hm_tb_in ?_ (List.all_eq_true.mp h2 w hw), rfl, ⟨tyX0, tyX0_ok⟩, nmX0⟩
  rw [show u_ws (RX0, TX0, 7).1 (RX0, TX0, 7).2.1 (RX0, TX0, 7).2.2 = _ from h] at hw
  obtain ⟨i, -, hi⟩ := List.mem_filterMap.mp hw
  exact List.mem_of_getElem? hi
theorem kl_1 : hm_Kl 1 (RX1, TX1, 2) := by
  have h : u_ws RX1 TX1 2 = ([304, 306] : List Nat).filterMap (fun i => lw_tbl[i]?) := by decide +kernel
  have h2 : (u_ws RX1 TX1 2).all goodWord = true := by decide +kernel
  refine ⟨rfl, by decide, fun w hw => hm_tb_in ?_ (List.all_eq_true.mp h2 w hw), rfl, ⟨tyX1, tyX1_ok⟩, nmX1⟩
  rw [show u_ws (RX1, TX1, 2).1 (RX1, TX1, 2).2.1 (RX1, TX1, 2).2.2 = _ from h] at hw
  obtain ⟨i, -, hi⟩ := List.mem_filterMap.mp hw
  exact List.mem_of_getElem? hi
theorem kl_2 : hm_Kl 2 (RX2, TX2, 7) := by
  have h : u_ws RX2 TX2 7 = ([329, 331, 333, 335, 337, 339, 341] : List Nat).filterMap (fun i => lw_tbl[i]?) := by decide +kernel
  have h2 : (u_ws RX2 TX2 7).all goodWord = true := by decide +kernel
  refine ⟨rfl, by decide, fun w hw => hm_tb_in ?_ (List.all_eq_true.mp h2 w hw), rfl, ⟨tyX2, tyX2_ok⟩, nmX2⟩
  rw [show u_ws (RX2, TX2, 7).1 (RX2, TX2, 7).2.1 (RX2, TX2, 7).2.2 = _ from h] at hw
  obtain ⟨i, -, hi⟩ := List.mem_filterMap.mp hw
  exact List.mem_of_getElem? hi
theorem kl_3 : hm_Kl 3 (RX3, TX3, 1) := by
  have h : u_ws RX3 TX3 1 = ([293] : List Nat).filterMap (fun i => lw_tbl[i]?) := by decide +kernel
  have h2 : (u_ws RX3 TX3 1).all goodWord = true := by decide +kernel
  refine ⟨rfl, by decide, fun w hw => hm_tb_in ?_ (List.all_eq_true.mp h2 w hw), rfl, ⟨tyX3, tyX3_ok⟩, nmX3⟩
  rw [show u_ws (RX3, TX3, 1).1 (RX3, TX3, 1).2.1 (RX3, TX3, 1).2.2 = _ from h] at hw
  obtain ⟨i, -, hi⟩ := List.mem_filterMap.mp hw
  exact List.mem_of_getElem? hi
theorem kl_4 : hm_Kl 4 (RX4, TX4, 3) := by
  have h : u_ws RX4 TX4 3 = ([285, 287, 289] : List Nat).filterMap (fun i => lw_tbl[i]?) := by decide +kernel
  have h2 : (u_ws RX4 TX4 3).all goodWord = true := by decide +kernel
  refine ⟨rfl, by decide, fun w hw => hm_tb_in ?_ (List.all_eq_true.mp h2 w hw), rfl, ⟨tyX4, tyX4_ok⟩, nmX4⟩
  rw [show u_ws (RX4, TX4, 3).1 (RX4, TX4, 3).2.1 (RX4, TX4, 3).2.2 = _ from h] at hw
  obtain ⟨i, -, hi⟩ := List.mem_filterMap.mp hw
  exact List.mem_of_getElem? hi
theorem kl_5 : hm_Kl 5 (RX5, TX5, 6) := by
  have h : u_ws RX5 TX5 6 = ([401, 403, 405, 407, 409, 411] : List Nat).filterMap (fun i => lw_tbl[i]?) := by decide +kernel
  have h2 : (u_ws RX5 TX5 6).all goodWord = true := by decide +kernel
  refine ⟨rfl, by decide, fun w hw => hm_tb_in ?_ (List.all_eq_true.mp h2 w hw), rfl, ⟨tyX5, tyX5_ok⟩, nmX5⟩
  rw [show u_ws (RX5, TX5, 6).1 (RX5, TX5, 6).2.1 (RX5, TX5, 6).2.2 = _ from h] at hw
  obtain ⟨i, -, hi⟩ := List.mem_filterMap.mp hw
  exact List.mem_of_getElem? hi
theorem kl_6 : hm_Kl 6 (RX6, TX6, 10) := by
  have h : u_ws RX6 TX6 10 = ([425, 427, 429, 431, 433, 435, 437, 439, 441, 443] : List Nat).filterMap (fun i => lw_tbl[i]?) := by decide +kernel
  have h2 : (u_ws RX6 TX6 10).all goodWord = true := by decide +kernel
  refine ⟨rfl, by decide, fun w hw => hm_tb_in ?_ (List.all_eq_true.mp h2 w hw), rfl, ⟨tyX6, tyX6_ok⟩, nmX6⟩
  rw [show u_ws (RX6, TX6, 10).1 (RX6, TX6, 10).2.1 (RX6, TX6, 10).2.2 = _ from h] at hw
  obtain ⟨i, -, hi⟩ := List.mem_filterMap.mp hw
  exact List.mem_of_getElem? hi
theorem kl_7 : hm_Kl 7 (RX7, TX7, 3) := by
  have h : u_ws RX7 TX7 3 = ([255, 257, 259] : List Nat).filterMap (fun i => lw_tbl[i]?) := by decide +kernel
  have h2 : (u_ws RX7 TX7 3).all goodWord = true := by decide +kernel
  refine ⟨rfl, by decide, fun w hw => hm_tb_in ?_ (List.all_eq_true.mp h2 w hw), rfl, ⟨tyX7, tyX7_ok⟩, nmX7⟩
  rw [show u_ws (RX7, TX7, 3).1 (RX7, TX7, 3).2.1 (RX7, TX7, 3).2.2 = _ from h] at hw
  obtain ⟨i, -, hi⟩ := List.mem_filterMap.mp hw
  exact List.mem_of_getElem? hi
theorem kl_8 : hm_Kl 8 (RX8, TX8, 13) := by
  have h : u_ws RX8 TX8 13 = ([214, 216, 218, 220, 222, 224, 226, 228, 230, 232, 234, 236, 238] : List Nat).filterMap (fun i => lw_tbl[i]?) := by decide +kernel
  have h2 : (u_ws RX8 TX8 13).all goodWord = true := by decide +kernel
  refine ⟨rfl, by decide, fun w hw => hm_tb_in ?_ (List.all_eq_true.mp h2 w hw), rfl, ⟨tyX8, tyX8_ok⟩, nmX8⟩
  rw [show u_ws (RX8, TX8, 13).1 (RX8, TX8, 13).2.1 (RX8, TX8, 13).2.2 = _ from h] at hw
  obtain ⟨i, -, hi⟩ := List.mem_filterMap.mp hw
  exact List.mem_of_getElem? hi
theorem kl_9 : hm_Kl 9 (RX9, TX9, 19) := by
  have h : u_ws RX9 TX9 19 = ([466, 468, 470, 472, 474, 476, 478, 480, 482, 484, 486, 488, 490, 492, 494, 496, 498, 500, 502] : List Nat).filterMap (fun i => lw_tbl[i]?) := by decide +kernel
  have h2 : (u_ws RX9 TX9 19).all goodWord = true := by decide +kernel
  refine ⟨rfl, by decide, fun w hw => hm_tb_in ?_ (List.all_eq_true.mp h2 w hw), rfl, ⟨tyX9, tyX9_ok⟩, nmX9⟩
  rw [show u_ws (RX9, TX9, 19).1 (RX9, TX9, 19).2.1 (RX9, TX9, 19).2.2 = _ from h] at hw
  obtain ⟨i, -, hi⟩ := List.mem_filterMap.mp hw
  exact List.mem_of_getElem? hi
theorem kl_10 : hm_Kl 10 (RX10, TX10, 56) := by
  have h : u_ws RX10 TX10 56 = ([1287, 1289, 1291, 1293, 1295, 1297, 1299, 1301, 1303, 1305, 1307, 1309, 1311, 1313, 1315, 1317, 1319, 1321, 1323, 1325, 1327, 1329, 1331, 1333, 1335, 1337, 1339, 1341, 1343, 1345, 1347, 1349, 1351, 1353, 1355, 1357, 1359, 1361, 1363, 1365, 1367, 1369, 1371, 1373, 1375, 1377, 1379, 1381, 1383, 1385, 1387, 1389, 1391, 1393, 1395, 1397] : List Nat).filterMap (fun i => lw_tbl[i]?) := by decide +kernel
  have h2 : (u_ws RX10 TX10 56).all goodWord = true := by decide +kernel
  refine ⟨rfl, by decide, fun w hw => hm_tb_in ?_ (List.all_eq_true.mp h2 w hw), rfl, ⟨tyX10, tyX10_ok⟩, nmX10⟩
  rw [show u_ws (RX10, TX10, 56).1 (RX10, TX10, 56).2.1 (RX10, TX10, 56).2.2 = _ from h] at hw
  obtain ⟨i, -, hi⟩ := List.mem_filterMap.mp hw
  exact List.mem_of_getElem? hi
theorem fl_HandRingModel_3 : hm_Fl RX10 3 10 0 false .int false := ⟨_, kl_10, by decide, hm_tb_in (List.mem_of_getElem? (i := 1231) (by decide +kernel)) rfl, rfl, by decide +kernel, rfl⟩
theorem fl_HandRingModel_7 : hm_Fl RX10 7 10 1 true (.array .int) true := ⟨_, kl_10, by decide, hm_tb_in (List.mem_of_getElem? (i := 1232) (by decide +kernel)) rfl, rfl, by decide +kernel, rfl⟩
theorem fl_HandRingModel_11 : hm_Fl RX10 11 10 33 false .int false := ⟨_, kl_10, by decide, hm_tb_in (List.mem_of_getElem? (i := 1264) (by decide +kernel)) rfl, rfl, by decide +kernel, rfl⟩
theorem fl_HandRingModel_24 : hm_Fl RX10 24 10 2 true (.array .int) true := ⟨_, kl_10, by decide, hm_tb_in (List.mem_of_getElem? (i := 1233) (by decide +kernel)) rfl, rfl, by decide +kernel, rfl⟩
theorem fl_HandRingModel_41 : hm_Fl RX10 41 10 11 true (.array .byte) true := ⟨_, kl_10, by decide, hm_tb_in (List.mem_of_getElem? (i := 1242) (by decide +kernel)) rfl, rfl, by decide +kernel, rfl⟩
theorem fl_HandRingModel_162 : hm_Fl RX10 162 10 13 false .int false := ⟨_, kl_10, by decide, hm_tb_in (List.mem_of_getElem? (i := 1244) (by decide +kernel)) rfl, rfl, by decide +kernel, rfl⟩
theorem fl_HandRingModel_165 : hm_Fl RX10 165 10 6 false .int false := ⟨_, kl_10, by decide, hm_tb_in (List.mem_of_getElem? (i := 1237) (by decide +kernel)) rfl, rfl, by decide +kernel, rfl⟩
theorem lk_HandRingModel_14 : Cond.methodLink RX10 14 yX10_good ∈ hm_tb := hm_tb_in (List.mem_of_getElem? (i := 1411) (by decide +kernel)) rfl
theorem lk_HandRingModel_108 : Cond.methodLink RX10 108 yX10_lies ∈ hm_tb := hm_tb_in (List.mem_of_getElem? (i := 1404) (by decide +kernel)) rfl
theorem lk_HandRingModel_112 : Cond.methodLink RX10 112 yX10_refuses ∈ hm_tb := hm_tb_in (List.mem_of_getElem? (i := 1407) (by decide +kernel)) rfl
theorem lk_HandRingModel_115 : Cond.methodLink RX10 115 yX10_settled ∈ hm_tb := hm_tb_in (List.mem_of_getElem? (i := 1419) (by decide +kernel)) rfl
theorem lk_HandRingModel_118 : Cond.methodLink RX10 118 yX10_many ∈ hm_tb := hm_tb_in (List.mem_of_getElem? (i := 1430) (by decide +kernel)) rfl
theorem lk_HandRingModel_126 : Cond.methodLink RX10 126 yX10_canBe ∈ hm_tb := hm_tb_in (List.mem_of_getElem? (i := 1427) (by decide +kernel)) rfl
theorem lk_HandRingModel_129 : Cond.methodLink RX10 129 yX10_adds ∈ hm_tb := hm_tb_in (List.mem_of_getElem? (i := 1434) (by decide +kernel)) rfl
theorem lk_HandRingModel_139 : Cond.methodLink RX10 139 yX10_apart ∈ hm_tb := hm_tb_in (List.mem_of_getElem? (i := 1462) (by decide +kernel)) rfl
theorem lk_HandRingModel_156 : Cond.methodLink RX10 156 yX10_isTerm ∈ hm_tb := hm_tb_in (List.mem_of_getElem? (i := 1559) (by decide +kernel)) rfl
theorem lk_HandRingModel_159 : Cond.methodLink RX10 159 yX10_termAt ∈ hm_tb := hm_tb_in (List.mem_of_getElem? (i := 1562) (by decide +kernel)) rfl
theorem okm_X10_adds : hm_okV m_X10_adds 3 := ⟨hm_tb_in (List.mem_of_getElem? (i := 1437) (by decide +kernel)) rfl, hm_tb_in (List.mem_of_getElem? (i := 1436) (by decide +kernel)) rfl, hm_tb_in (List.mem_of_getElem? (i := 48) (by decide +kernel)) rfl, hm_tb_in (List.mem_of_getElem? (i := 141) (by decide +kernel)) rfl, by decide, by decide +kernel, by decide⟩
theorem okm_X10_apart : hm_okS m_X10_apart 2 := ⟨hm_tb_in (List.mem_of_getElem? (i := 1464) (by decide +kernel)) rfl, hm_tb_in (List.mem_of_getElem? (i := 1463) (by decide +kernel)) rfl, hm_tb_in (List.mem_of_getElem? (i := 141) (by decide +kernel)) rfl, by decide, by decide +kernel, by decide⟩
theorem okm_X10_canBe : hm_okS m_X10_canBe 3 := ⟨hm_tb_in (List.mem_of_getElem? (i := 1429) (by decide +kernel)) rfl, hm_tb_in (List.mem_of_getElem? (i := 1428) (by decide +kernel)) rfl, hm_tb_in (List.mem_of_getElem? (i := 141) (by decide +kernel)) rfl, by decide, by decide +kernel, by decide⟩
theorem okm_X10_good : hm_okV m_X10_good 1 := ⟨hm_tb_in (List.mem_of_getElem? (i := 1414) (by decide +kernel)) rfl, hm_tb_in (List.mem_of_getElem? (i := 1413) (by decide +kernel)) rfl, hm_tb_in (List.mem_of_getElem? (i := 45) (by decide +kernel)) rfl, hm_tb_in (List.mem_of_getElem? (i := 141) (by decide +kernel)) rfl, by decide, by decide +kernel, by decide⟩
theorem okm_X10_isTerm : hm_okS m_X10_isTerm 2 := ⟨hm_tb_in (List.mem_of_getElem? (i := 1561) (by decide +kernel)) rfl, hm_tb_in (List.mem_of_getElem? (i := 1560) (by decide +kernel)) rfl, hm_tb_in (List.mem_of_getElem? (i := 141) (by decide +kernel)) rfl, by decide, by decide +kernel, by decide⟩
theorem okm_X10_lies : hm_okS m_X10_lies 3 := ⟨hm_tb_in (List.mem_of_getElem? (i := 1406) (by decide +kernel)) rfl, hm_tb_in (List.mem_of_getElem? (i := 1405) (by decide +kernel)) rfl, hm_tb_in (List.mem_of_getElem? (i := 141) (by decide +kernel)) rfl, by decide, by decide +kernel, by decide⟩
theorem okm_X10_many : hm_okV m_X10_many 0 := ⟨hm_tb_in (List.mem_of_getElem? (i := 1433) (by decide +kernel)) rfl, hm_tb_in (List.mem_of_getElem? (i := 1432) (by decide +kernel)) rfl, hm_tb_in (List.mem_of_getElem? (i := 47) (by decide +kernel)) rfl, hm_tb_in (List.mem_of_getElem? (i := 141) (by decide +kernel)) rfl, by decide, by decide +kernel, by decide⟩
theorem okm_X10_refuses : hm_okV m_X10_refuses 1 := ⟨hm_tb_in (List.mem_of_getElem? (i := 1410) (by decide +kernel)) rfl, hm_tb_in (List.mem_of_getElem? (i := 1409) (by decide +kernel)) rfl, hm_tb_in (List.mem_of_getElem? (i := 44) (by decide +kernel)) rfl, hm_tb_in (List.mem_of_getElem? (i := 141) (by decide +kernel)) rfl, by decide, by decide +kernel, by decide⟩
theorem okm_X10_settled : hm_okV m_X10_settled 1 := ⟨hm_tb_in (List.mem_of_getElem? (i := 1422) (by decide +kernel)) rfl, hm_tb_in (List.mem_of_getElem? (i := 1421) (by decide +kernel)) rfl, hm_tb_in (List.mem_of_getElem? (i := 46) (by decide +kernel)) rfl, hm_tb_in (List.mem_of_getElem? (i := 141) (by decide +kernel)) rfl, by decide, by decide +kernel, by decide⟩
theorem okm_X10_termAt : hm_okS m_X10_termAt 1 := ⟨hm_tb_in (List.mem_of_getElem? (i := 1564) (by decide +kernel)) rfl, hm_tb_in (List.mem_of_getElem? (i := 1563) (by decide +kernel)) rfl, hm_tb_in (List.mem_of_getElem? (i := 141) (by decide +kernel)) rfl, by decide, by decide +kernel, by decide⟩
def f_X10_ones_L4 (e24 : Int32 → Option Int32) (v0 : Int32) : Nat → Int32 → Int32 → Option Int32
  | 0, _, _ => none
  | n + 1, y1, y2 => (if (8 : Int32) ≤ y2 then
  e24 y1
  else
  Option.bind (some (y1 + ((v0 >>> (y2 &&& 31)) &&& (1 : Int32)))) fun x1 =>
  (f_X10_ones_L4 e24 v0 n) x1 (y2 + (1 : Int32)))
theorem ok_X10_ones_L4 {fr : Nat} (hfr : 0 ≤ fr) {ν : hm_N} {r : Int32}   (e24 : Int32 → Option Int32)  (he24 : ∀ (y1 : Int32) (μ1 : hm_M), hm_LL ν μ1 → e24 y1 = some r → hm_T (hm_LL ν) m_X10_ones fr 0 0 (some (.int r)) μ1 24 [none, some (.int y1), none] [] μ1) (v0 : Int32)  : ∀ (n : Nat) (y1 : Int32) (y2 : Int32) (μ1 : hm_M), hm_LL ν μ1 → f_X10_ones_L4 e24 v0 n y1 y2 = some r → hm_T (hm_LL ν) m_X10_ones fr 0 0 (some (.int r)) μ1 4 [some (.int v0), some (.int y1), some (.int y2)] [] μ1 := by
  intro n
  induction n with
  | zero =>
    intro y1 y2 μ1 hL h
    unfold f_X10_ones_L4 at h
    cases h
  | succ n ih =>
    intro y1 y2 μ1 hL h
    unfold f_X10_ones_L4 at h
    refine tr_iload_n (pc' := 5) (show decode cX10_ones 4 = .ok (.iload_n 2, 1) by decide +kernel) rfl rfl rfl ?_
    refine tr_bipush (pc' := 7) (v := (8 : Int32)) (show decode cX10_ones 5 = .ok (.bipush 8, 2) by decide +kernel) rfl (by decide) ?_
    rcases hm_is h with ⟨hc, h⟩ | ⟨hc, h⟩
    · refine tr_icmp_ge_t (tgt := 24) hc (show decode cX10_ones 7 = .ok (.if_icmp .ge 17, 3) by decide +kernel) (by decide) ?_
      refine hm_fgt [false, true, false] (lv' := [none, some (.int y1), none]) rfl ?_
      exact he24 y1 μ1 hL h
    · refine tr_icmp_ge_f (tgt := 24) (pc' := 10) hc (show decode cX10_ones 7 = .ok (.if_icmp .ge 17, 3) by decide +kernel) (by decide) rfl ?_
      refine tr_iload_n (pc' := 11) (show decode cX10_ones 10 = .ok (.iload_n 1, 1) by decide +kernel) rfl rfl rfl ?_
      refine tr_iload_n (pc' := 12) (show decode cX10_ones 11 = .ok (.iload_n 0, 1) by decide +kernel) rfl rfl rfl ?_
      refine tr_iload_n (pc' := 13) (show decode cX10_ones 12 = .ok (.iload_n 2, 1) by decide +kernel) rfl rfl rfl ?_
      refine tr_ishr (pc' := 14) (show decode cX10_ones 13 = .ok (.ishr, 1) by decide +kernel) rfl ?_
      refine tr_iconst (pc' := 15) (v := (1 : Int32)) (show decode cX10_ones 14 = .ok (.iconst 1, 1) by decide +kernel) rfl (by decide) ?_
      refine tr_iand (pc' := 16) (show decode cX10_ones 15 = .ok (.iand, 1) by decide +kernel) rfl ?_
      refine tr_iadd (pc' := 17) (show decode cX10_ones 16 = .ok (.iadd, 1) by decide +kernel) rfl ?_
      obtain ⟨x1, ex1, h⟩ := hm_bs h
      have ex1 := Option.some.inj ex1
      rw [ex1]
      refine tr_istore_n (pc' := 18) (lv' := [some (.int v0), some (.int x1), some (.int y2)]) (show decode cX10_ones 17 = .ok (.istore_n 1, 1) by decide +kernel) rfl rfl (Nat.le_of_ble_eq_true rfl) rfl rfl ?_
      refine tr_iinc (pc' := 21) (v := y2 + (1 : Int32)) (lv' := [some (.int v0), some (.int x1), some (.int (y2 + (1 : Int32)))]) (show decode cX10_ones 18 = .ok (.iinc 2 1, 3) by decide +kernel) rfl rfl rfl (Nat.le_of_ble_eq_true rfl) rfl rfl ?_
      refine tr_goto (tgt := 4) (show decode cX10_ones 21 = .ok (.goto (-17), 3) by decide +kernel) rfl ?_
      exact ih x1 (y2 + (1 : Int32)) μ1 hL h
def f_X10_ones (v0 : Int32) : Option Int32 :=
  f_X10_ones_L4 (fun z2_1 => some z2_1) v0 hm_fu (0 : Int32) (0 : Int32)
set_option maxRecDepth 100000 in
theorem ok_X10_ones {fr : Nat} (hfr : 0 ≤ fr) {ν : hm_N} {r : Int32}  (v0 : Int32)  (μ : hm_M) (hL : hm_LL ν μ) (h : f_X10_ones v0 = some r) : hm_CC (hm_LL ν) m_X10_ones fr 0 0 [.int v0] μ (some (.int r)) μ := by
  refine hm_enter (lv := [some (.int v0), none, none]) (by decide) rfl (Nat.le_of_ble_eq_true rfl) ?_
  unfold f_X10_ones at h
  refine tr_iconst (pc' := 1) (v := (0 : Int32)) (show decode cX10_ones 0 = .ok (.iconst 0, 1) by decide +kernel) rfl (by decide) ?_
  refine tr_istore_n (pc' := 2) (lv' := [some (.int v0), some (.int (0 : Int32)), none]) (show decode cX10_ones 1 = .ok (.istore_n 1, 1) by decide +kernel) rfl rfl (Nat.le_of_ble_eq_true rfl) rfl rfl ?_
  refine tr_iconst (pc' := 3) (v := (0 : Int32)) (show decode cX10_ones 2 = .ok (.iconst 0, 1) by decide +kernel) rfl (by decide) ?_
  refine tr_istore_n (pc' := 4) (lv' := [some (.int v0), some (.int (0 : Int32)), some (.int (0 : Int32))]) (show decode cX10_ones 3 = .ok (.istore_n 2, 1) by decide +kernel) rfl rfl (Nat.le_of_ble_eq_true rfl) rfl rfl ?_
  refine ok_X10_ones_L4 hfr _ ?_ v0 _ (0 : Int32) (0 : Int32) μ hL h
  · intro z2_1 μz2 hL h
    refine tr_iload_n (pc' := 25) (show decode cX10_ones 24 = .ok (.iload_n 1, 1) by decide +kernel) rfl rfl rfl ?_
    cases h
    exact tr_iret rfl (show decode cX10_ones 25 = .ok (.ireturn, 1) by decide +kernel) hL
def f_X10_lies (v0 : Int32) (v1 : Int32) (v2 : Int32) : Option Int32 :=
  (if v0 < v1 then
  some (0 : Int32)
  else
  (if v2 < v0 then
  some (0 : Int32)
  else
  some (1 : Int32)))
set_option maxRecDepth 100000 in
theorem ok_X10_lies {fr : Nat} (hfr : 0 ≤ fr) {ν : hm_N} {r : Int32}  (v0 : Int32) (v1 : Int32) (v2 : Int32)  (μ : hm_M) (hL : hm_LL ν μ) (h : f_X10_lies v0 v1 v2 = some r) : hm_CC (hm_LL ν) m_X10_lies fr 0 0 [.int v0, .int v1, .int v2] μ (some (.int r)) μ := by
  refine hm_enter (lv := [some (.int v0), some (.int v1), some (.int v2)]) (by decide) rfl (Nat.le_of_ble_eq_true rfl) ?_
  unfold f_X10_lies at h
  refine tr_iload_n (pc' := 1) (show decode cX10_lies 0 = .ok (.iload_n 0, 1) by decide +kernel) rfl rfl rfl ?_
  refine tr_iload_n (pc' := 2) (show decode cX10_lies 1 = .ok (.iload_n 1, 1) by decide +kernel) rfl rfl rfl ?_
  rcases hm_is h with ⟨hc, h⟩ | ⟨hc, h⟩
  · refine tr_icmp_lt_t (tgt := 14) hc (show decode cX10_lies 2 = .ok (.if_icmp .lt 12, 3) by decide +kernel) (by decide) ?_
    refine tr_iconst (pc' := 15) (v := (0 : Int32)) (show decode cX10_lies 14 = .ok (.iconst 0, 1) by decide +kernel) rfl (by decide) ?_
    cases h
    exact tr_zret rfl (by decide) (show decode cX10_lies 15 = .ok (.ireturn, 1) by decide +kernel) hL
  · refine tr_icmp_lt_f (tgt := 14) (pc' := 5) hc (show decode cX10_lies 2 = .ok (.if_icmp .lt 12, 3) by decide +kernel) (by decide) rfl ?_
    refine tr_iload_n (pc' := 6) (show decode cX10_lies 5 = .ok (.iload_n 0, 1) by decide +kernel) rfl rfl rfl ?_
    refine tr_iload_n (pc' := 7) (show decode cX10_lies 6 = .ok (.iload_n 2, 1) by decide +kernel) rfl rfl rfl ?_
    rcases hm_is h with ⟨hc, h⟩ | ⟨hc, h⟩
    · refine tr_icmp_gt_t (tgt := 14) hc (show decode cX10_lies 7 = .ok (.if_icmp .gt 7, 3) by decide +kernel) (by decide) ?_
      refine tr_iconst (pc' := 15) (v := (0 : Int32)) (show decode cX10_lies 14 = .ok (.iconst 0, 1) by decide +kernel) rfl (by decide) ?_
      cases h
      exact tr_zret rfl (by decide) (show decode cX10_lies 15 = .ok (.ireturn, 1) by decide +kernel) hL
    · refine tr_icmp_gt_f (tgt := 14) (pc' := 10) hc (show decode cX10_lies 7 = .ok (.if_icmp .gt 7, 3) by decide +kernel) (by decide) rfl ?_
      refine tr_iconst (pc' := 11) (v := (1 : Int32)) (show decode cX10_lies 10 = .ok (.iconst 1, 1) by decide +kernel) rfl (by decide) ?_
      refine tr_goto (tgt := 15) (show decode cX10_lies 11 = .ok (.goto 4, 3) by decide +kernel) rfl ?_
      cases h
      exact tr_zret rfl (by decide) (show decode cX10_lies 15 = .ok (.ireturn, 1) by decide +kernel) hL
def f_X10_many (μ : hm_M) : Option Int32 :=
  Option.bind (hm_ld μ 181 5665 (54 : Int32)) fun x1 =>
  some x1
set_option maxRecDepth 100000 in
theorem ok_X10_many {fr : Nat} (hfr : 0 ≤ fr) {ν : hm_N} {r : Int32}    (μ : hm_M) (hL : hm_LL ν μ) (h : f_X10_many μ = some r) : hm_CC (hm_LL ν) m_X10_many fr 0 0 [.ref 179] μ (some (.int r)) μ := by
  refine hm_enter (lv := [some (.ref 179)]) (by decide) rfl (Nat.le_of_ble_eq_true rfl) ?_
  unfold f_X10_many at h
  refine tr_aload_n (pc' := 1) (show decode cX10_many 0 = .ok (.aload_n 0, 1) by decide +kernel) rfl rfl rfl ?_
  refine tr_getR (pc' := 4) fl_HandRingModel_24 (show decode cX10_many 1 = .ok (.getfield 24, 3) by decide +kernel) rfl (la_o hL (by decide) rfl) (la_r hL 118 rfl) ?_
  refine tr_bipush (pc' := 6) (v := (54 : Int32)) (show decode cX10_many 4 = .ok (.bipush 54, 2) by decide +kernel) rfl (by decide) ?_
  obtain ⟨x1, ex1, h⟩ := hm_bs h
  refine tp_ldI (pc' := 7) (show decode cX10_many 6 = .ok (.iaload, 1) by decide +kernel) rfl (la_a hL (by decide) rfl) ex1 ?_
  cases h
  exact tr_iret rfl (show decode cX10_many 7 = .ok (.ireturn, 1) by decide +kernel) hL
def f_X10_isPerson (v1 : Int32) (μ : hm_M) : Option Int32 :=
  Option.bind (f_X10_many μ) fun x1 =>
  Option.bind (f_X10_lies v1 (0 : Int32) (x1 - (1 : Int32))) fun x2 =>
  hm_rz x2
set_option maxRecDepth 100000 in
theorem ok_X10_isPerson {fr : Nat} (hfr : 1 ≤ fr) {ν : hm_N} {r : Int32}  (v1 : Int32)  (μ : hm_M) (hL : hm_LL ν μ) (h : f_X10_isPerson v1 μ = some r) : hm_CC (hm_LL ν) m_X10_isPerson fr 0 0 [.ref 179, .int v1] μ (some (.int r)) μ := by
  refine hm_enter (lv := [some (.ref 179), some (.int v1)]) (by decide) rfl (Nat.le_of_ble_eq_true rfl) ?_
  unfold f_X10_isPerson at h
  refine tr_iload_n (pc' := 1) (show decode cX10_isPerson 0 = .ok (.iload_n 1, 1) by decide +kernel) rfl rfl rfl ?_
  refine tr_iconst (pc' := 2) (v := (0 : Int32)) (show decode cX10_isPerson 1 = .ok (.iconst 0, 1) by decide +kernel) rfl (by decide) ?_
  refine tr_aload_n (pc' := 3) (show decode cX10_isPerson 2 = .ok (.aload_n 0, 1) by decide +kernel) rfl rfl rfl ?_
  obtain ⟨x1, ex1, h⟩ := hm_bs h
  have cx1 := ok_X10_many (fr := fr - 1) (ν := ν) (by omega) μ hL ex1
  refine tp_callV (pc' := 6) (As := []) (fr1 := fr - 1) (ci := 10) okm_X10_many lk_HandRingModel_118 (show decode cX10_isPerson 3 = .ok (.invokevirtual 118, 3) by decide +kernel) rfl rfl rfl (by decide) (la_o hL (by decide) rfl) rfl rfl (Nat.le_of_ble_eq_true rfl) (by omega) cx1 (st' := [.int x1, .int (0 : Int32), .int v1]) rfl ?_
  refine tr_iconst (pc' := 7) (v := (1 : Int32)) (show decode cX10_isPerson 6 = .ok (.iconst 1, 1) by decide +kernel) rfl (by decide) ?_
  refine tr_isub (pc' := 8) (show decode cX10_isPerson 7 = .ok (.isub, 1) by decide +kernel) rfl ?_
  obtain ⟨x2, ex2, h⟩ := hm_bs h
  have cx2 := ok_X10_lies (fr := fr - 1) (ν := ν) (by omega) v1 (0 : Int32) (x1 - (1 : Int32)) μ hL ex2
  refine tp_callS (pc' := 11) (As := [.int v1, .int (0 : Int32), .int (x1 - (1 : Int32))]) (fr1 := fr - 1) okm_X10_lies lk_HandRingModel_108 (show decode cX10_isPerson 8 = .ok (.invokestatic 108, 3) by decide +kernel) rfl rfl rfl (Nat.le_of_ble_eq_true rfl) (by omega) cx2 (st' := [.int x2]) rfl ?_
  exact tp_zret rfl (show decode cX10_isPerson 11 = .ok (.ireturn, 1) by decide +kernel) h hL
def f_X10_apart (v0 : Int32) (v1 : Int32) : Option Int32 :=
  (if v0 ≤ v1 then
  some (v1 - v0)
  else
  some (v0 - v1))
set_option maxRecDepth 100000 in
theorem ok_X10_apart {fr : Nat} (hfr : 0 ≤ fr) {ν : hm_N} {r : Int32}  (v0 : Int32) (v1 : Int32)  (μ : hm_M) (hL : hm_LL ν μ) (h : f_X10_apart v0 v1 = some r) : hm_CC (hm_LL ν) m_X10_apart fr 0 0 [.int v0, .int v1] μ (some (.int r)) μ := by
  refine hm_enter (lv := [some (.int v0), some (.int v1)]) (by decide) rfl (Nat.le_of_ble_eq_true rfl) ?_
  unfold f_X10_apart at h
  refine tr_iload_n (pc' := 1) (show decode cX10_apart 0 = .ok (.iload_n 0, 1) by decide +kernel) rfl rfl rfl ?_
  refine tr_iload_n (pc' := 2) (show decode cX10_apart 1 = .ok (.iload_n 1, 1) by decide +kernel) rfl rfl rfl ?_
  rcases hm_is h with ⟨hc, h⟩ | ⟨hc, h⟩
  · refine tr_icmp_le_t (tgt := 11) hc (show decode cX10_apart 2 = .ok (.if_icmp .le 9, 3) by decide +kernel) (by decide) ?_
    refine tr_iload_n (pc' := 12) (show decode cX10_apart 11 = .ok (.iload_n 1, 1) by decide +kernel) rfl rfl rfl ?_
    refine tr_iload_n (pc' := 13) (show decode cX10_apart 12 = .ok (.iload_n 0, 1) by decide +kernel) rfl rfl rfl ?_
    refine tr_isub (pc' := 14) (show decode cX10_apart 13 = .ok (.isub, 1) by decide +kernel) rfl ?_
    cases h
    exact tr_iret rfl (show decode cX10_apart 14 = .ok (.ireturn, 1) by decide +kernel) hL
  · refine tr_icmp_le_f (tgt := 11) (pc' := 5) hc (show decode cX10_apart 2 = .ok (.if_icmp .le 9, 3) by decide +kernel) (by decide) rfl ?_
    refine tr_iload_n (pc' := 6) (show decode cX10_apart 5 = .ok (.iload_n 0, 1) by decide +kernel) rfl rfl rfl ?_
    refine tr_iload_n (pc' := 7) (show decode cX10_apart 6 = .ok (.iload_n 1, 1) by decide +kernel) rfl rfl rfl ?_
    refine tr_isub (pc' := 8) (show decode cX10_apart 7 = .ok (.isub, 1) by decide +kernel) rfl ?_
    refine tr_goto (tgt := 14) (show decode cX10_apart 8 = .ok (.goto 6, 3) by decide +kernel) rfl ?_
    cases h
    exact tr_iret rfl (show decode cX10_apart 14 = .ok (.ireturn, 1) by decide +kernel) hL
def f_X10_farOf (v1 : Int32) (v2 : Int32) (μ : hm_M) : Option Int32 :=
  Option.bind (hm_ld μ 181 5665 ((0 : Int32) + v1)) fun x1 =>
  Option.bind (hm_ld μ 181 5665 ((0 : Int32) + v2)) fun x2 =>
  Option.bind (f_X10_apart (x1 / (5 : Int32)) (x2 / (5 : Int32))) fun x3 =>
  Option.bind (hm_ld μ 181 5665 ((0 : Int32) + v1)) fun x4 =>
  Option.bind (hm_ld μ 181 5665 ((0 : Int32) + v2)) fun x5 =>
  Option.bind (f_X10_apart (x4 - x4 / (5 : Int32) * (5 : Int32)) (x5 - x5 / (5 : Int32) * (5 : Int32))) fun x6 =>
  some (x3 + x6)
set_option maxRecDepth 100000 in
theorem ok_X10_farOf {fr : Nat} (hfr : 1 ≤ fr) {ν : hm_N} {r : Int32}  (v1 : Int32) (v2 : Int32)  (μ : hm_M) (hL : hm_LL ν μ) (h : f_X10_farOf v1 v2 μ = some r) : hm_CC (hm_LL ν) m_X10_farOf fr 0 0 [.ref 179, .int v1, .int v2] μ (some (.int r)) μ := by
  refine hm_enter (lv := [some (.ref 179), some (.int v1), some (.int v2)]) (by decide) rfl (Nat.le_of_ble_eq_true rfl) ?_
  unfold f_X10_farOf at h
  refine tr_aload_n (pc' := 1) (show decode cX10_farOf 0 = .ok (.aload_n 0, 1) by decide +kernel) rfl rfl rfl ?_
  refine tr_getR (pc' := 4) fl_HandRingModel_24 (show decode cX10_farOf 1 = .ok (.getfield 24, 3) by decide +kernel) rfl (la_o hL (by decide) rfl) (la_r hL 118 rfl) ?_
  refine tr_iconst (pc' := 5) (v := (0 : Int32)) (show decode cX10_farOf 4 = .ok (.iconst 0, 1) by decide +kernel) rfl (by decide) ?_
  refine tr_iload_n (pc' := 6) (show decode cX10_farOf 5 = .ok (.iload_n 1, 1) by decide +kernel) rfl rfl rfl ?_
  refine tr_iadd (pc' := 7) (show decode cX10_farOf 6 = .ok (.iadd, 1) by decide +kernel) rfl ?_
  obtain ⟨x1, ex1, h⟩ := hm_bs h
  refine tp_ldI (pc' := 8) (show decode cX10_farOf 7 = .ok (.iaload, 1) by decide +kernel) rfl (la_a hL (by decide) rfl) ex1 ?_
  refine tr_iconst (pc' := 9) (v := (5 : Int32)) (show decode cX10_farOf 8 = .ok (.iconst 5, 1) by decide +kernel) rfl (by decide) ?_
  refine tr_idiv (pc' := 10) (show decode cX10_farOf 9 = .ok (.idiv, 1) by decide +kernel) rfl (by decide) ?_
  refine tr_aload_n (pc' := 11) (show decode cX10_farOf 10 = .ok (.aload_n 0, 1) by decide +kernel) rfl rfl rfl ?_
  refine tr_getR (pc' := 14) fl_HandRingModel_24 (show decode cX10_farOf 11 = .ok (.getfield 24, 3) by decide +kernel) rfl (la_o hL (by decide) rfl) (la_r hL 118 rfl) ?_
  refine tr_iconst (pc' := 15) (v := (0 : Int32)) (show decode cX10_farOf 14 = .ok (.iconst 0, 1) by decide +kernel) rfl (by decide) ?_
  refine tr_iload_n (pc' := 16) (show decode cX10_farOf 15 = .ok (.iload_n 2, 1) by decide +kernel) rfl rfl rfl ?_
  refine tr_iadd (pc' := 17) (show decode cX10_farOf 16 = .ok (.iadd, 1) by decide +kernel) rfl ?_
  obtain ⟨x2, ex2, h⟩ := hm_bs h
  refine tp_ldI (pc' := 18) (show decode cX10_farOf 17 = .ok (.iaload, 1) by decide +kernel) rfl (la_a hL (by decide) rfl) ex2 ?_
  refine tr_iconst (pc' := 19) (v := (5 : Int32)) (show decode cX10_farOf 18 = .ok (.iconst 5, 1) by decide +kernel) rfl (by decide) ?_
  refine tr_idiv (pc' := 20) (show decode cX10_farOf 19 = .ok (.idiv, 1) by decide +kernel) rfl (by decide) ?_
  obtain ⟨x3, ex3, h⟩ := hm_bs h
  have cx3 := ok_X10_apart (fr := fr - 1) (ν := ν) (by omega) (x1 / (5 : Int32)) (x2 / (5 : Int32)) μ hL ex3
  refine tp_callS (pc' := 23) (As := [.int (x1 / (5 : Int32)), .int (x2 / (5 : Int32))]) (fr1 := fr - 1) okm_X10_apart lk_HandRingModel_139 (show decode cX10_farOf 20 = .ok (.invokestatic 139, 3) by decide +kernel) rfl rfl rfl (Nat.le_of_ble_eq_true rfl) (by omega) cx3 (st' := [.int x3]) rfl ?_
  refine tr_aload_n (pc' := 24) (show decode cX10_farOf 23 = .ok (.aload_n 0, 1) by decide +kernel) rfl rfl rfl ?_
  refine tr_getR (pc' := 27) fl_HandRingModel_24 (show decode cX10_farOf 24 = .ok (.getfield 24, 3) by decide +kernel) rfl (la_o hL (by decide) rfl) (la_r hL 118 rfl) ?_
  refine tr_iconst (pc' := 28) (v := (0 : Int32)) (show decode cX10_farOf 27 = .ok (.iconst 0, 1) by decide +kernel) rfl (by decide) ?_
  refine tr_iload_n (pc' := 29) (show decode cX10_farOf 28 = .ok (.iload_n 1, 1) by decide +kernel) rfl rfl rfl ?_
  refine tr_iadd (pc' := 30) (show decode cX10_farOf 29 = .ok (.iadd, 1) by decide +kernel) rfl ?_
  obtain ⟨x4, ex4, h⟩ := hm_bs h
  refine tp_ldI (pc' := 31) (show decode cX10_farOf 30 = .ok (.iaload, 1) by decide +kernel) rfl (la_a hL (by decide) rfl) ex4 ?_
  refine tr_iconst (pc' := 32) (v := (5 : Int32)) (show decode cX10_farOf 31 = .ok (.iconst 5, 1) by decide +kernel) rfl (by decide) ?_
  refine tr_irem (pc' := 33) (show decode cX10_farOf 32 = .ok (.irem, 1) by decide +kernel) rfl (by decide) ?_
  refine tr_aload_n (pc' := 34) (show decode cX10_farOf 33 = .ok (.aload_n 0, 1) by decide +kernel) rfl rfl rfl ?_
  refine tr_getR (pc' := 37) fl_HandRingModel_24 (show decode cX10_farOf 34 = .ok (.getfield 24, 3) by decide +kernel) rfl (la_o hL (by decide) rfl) (la_r hL 118 rfl) ?_
  refine tr_iconst (pc' := 38) (v := (0 : Int32)) (show decode cX10_farOf 37 = .ok (.iconst 0, 1) by decide +kernel) rfl (by decide) ?_
  refine tr_iload_n (pc' := 39) (show decode cX10_farOf 38 = .ok (.iload_n 2, 1) by decide +kernel) rfl rfl rfl ?_
  refine tr_iadd (pc' := 40) (show decode cX10_farOf 39 = .ok (.iadd, 1) by decide +kernel) rfl ?_
  obtain ⟨x5, ex5, h⟩ := hm_bs h
  refine tp_ldI (pc' := 41) (show decode cX10_farOf 40 = .ok (.iaload, 1) by decide +kernel) rfl (la_a hL (by decide) rfl) ex5 ?_
  refine tr_iconst (pc' := 42) (v := (5 : Int32)) (show decode cX10_farOf 41 = .ok (.iconst 5, 1) by decide +kernel) rfl (by decide) ?_
  refine tr_irem (pc' := 43) (show decode cX10_farOf 42 = .ok (.irem, 1) by decide +kernel) rfl (by decide) ?_
  obtain ⟨x6, ex6, h⟩ := hm_bs h
  have cx6 := ok_X10_apart (fr := fr - 1) (ν := ν) (by omega) (x4 - x4 / (5 : Int32) * (5 : Int32)) (x5 - x5 / (5 : Int32) * (5 : Int32)) μ hL ex6
  refine tp_callS (pc' := 46) (As := [.int (x4 - x4 / (5 : Int32) * (5 : Int32)), .int (x5 - x5 / (5 : Int32) * (5 : Int32))]) (fr1 := fr - 1) okm_X10_apart lk_HandRingModel_139 (show decode cX10_farOf 43 = .ok (.invokestatic 139, 3) by decide +kernel) rfl rfl rfl (Nat.le_of_ble_eq_true rfl) (by omega) cx6 (st' := [.int x6, .int x3]) rfl ?_
  refine tr_iadd (pc' := 47) (show decode cX10_farOf 46 = .ok (.iadd, 1) by decide +kernel) rfl ?_
  cases h
  exact tr_iret rfl (show decode cX10_farOf 47 = .ok (.ireturn, 1) by decide +kernel) hL
def f_X10_refuses (v1 : Int32) (μ : hm_M) : Option (Int32 × hm_M) :=
  Option.bind (hm_pI μ 179 0 v1) fun μ1 =>
  Option.bind (hm_ld μ1 180 7 (-v1)) fun x2 =>
  Option.bind (hm_sd μ1 180 7 (-v1) (x2 + (1 : Int32))) fun μ3 =>
  some (v1, μ3)
set_option maxRecDepth 100000 in
theorem ok_X10_refuses {fr : Nat} (hfr : 0 ≤ fr) {ν : hm_N} {r : Int32} {μR : hm_M}  (v1 : Int32)  (μ : hm_M) (hL : hm_LL ν μ) (h : f_X10_refuses v1 μ = some (r, μR)) : hm_CC (hm_LL ν) m_X10_refuses fr 0 0 [.ref 179, .int v1] μ (some (.int r)) μR := by
  refine hm_enter (lv := [some (.ref 179), some (.int v1)]) (by decide) rfl (Nat.le_of_ble_eq_true rfl) ?_
  unfold f_X10_refuses at h
  refine tr_aload_n (pc' := 1) (show decode cX10_refuses 0 = .ok (.aload_n 0, 1) by decide +kernel) rfl rfl rfl ?_
  refine tr_iload_n (pc' := 2) (show decode cX10_refuses 1 = .ok (.iload_n 1, 1) by decide +kernel) rfl rfl rfl ?_
  obtain ⟨μ1, eμ1, h⟩ := hm_bs h
  refine tp_pI (pc' := 5) fl_HandRingModel_3 (show decode cX10_refuses 2 = .ok (.putfield 3, 3) by decide +kernel) rfl (la_o hL (by decide) rfl) eμ1 ?_
  replace hL := hL.same (hm_pI_s eμ1)
  refine tr_aload_n (pc' := 6) (show decode cX10_refuses 5 = .ok (.aload_n 0, 1) by decide +kernel) rfl rfl rfl ?_
  refine tr_getR (pc' := 9) fl_HandRingModel_7 (show decode cX10_refuses 6 = .ok (.getfield 7, 3) by decide +kernel) rfl (la_o hL (by decide) rfl) (la_r hL 117 rfl) ?_
  refine tr_iload_n (pc' := 10) (show decode cX10_refuses 9 = .ok (.iload_n 1, 1) by decide +kernel) rfl rfl rfl ?_
  refine tr_ineg (pc' := 11) (show decode cX10_refuses 10 = .ok (.ineg, 1) by decide +kernel) rfl ?_
  refine tr_dup2 (pc' := 12) (show decode cX10_refuses 11 = .ok (.dup2, 1) by decide +kernel) rfl rfl rfl ?_
  obtain ⟨x2, ex2, h⟩ := hm_bs h
  refine tp_ldI (pc' := 13) (show decode cX10_refuses 12 = .ok (.iaload, 1) by decide +kernel) rfl (la_a hL (by decide) rfl) ex2 ?_
  refine tr_iconst (pc' := 14) (v := (1 : Int32)) (show decode cX10_refuses 13 = .ok (.iconst 1, 1) by decide +kernel) rfl (by decide) ?_
  refine tr_iadd (pc' := 15) (show decode cX10_refuses 14 = .ok (.iadd, 1) by decide +kernel) rfl ?_
  obtain ⟨μ3, eμ3, h⟩ := hm_bs h
  refine tp_sdI (pc' := 16) (show decode cX10_refuses 15 = .ok (.iastore, 1) by decide +kernel) rfl (la_a hL (by decide) rfl) eμ3 ?_
  replace hL := hL.same (hm_sd_s eμ3)
  refine tr_iload_n (pc' := 17) (show decode cX10_refuses 16 = .ok (.iload_n 1, 1) by decide +kernel) rfl rfl rfl ?_
  cases h
  exact tr_iret rfl (show decode cX10_refuses 17 = .ok (.ireturn, 1) by decide +kernel) hL
def f_X10_good (v1 : Int32) (μ : hm_M) : Option (Int32 × hm_M) :=
  Option.bind (hm_pI μ 179 0 (0 : Int32)) fun μ1 =>
  some (v1, μ1)
set_option maxRecDepth 100000 in
theorem ok_X10_good {fr : Nat} (hfr : 0 ≤ fr) {ν : hm_N} {r : Int32} {μR : hm_M}  (v1 : Int32)  (μ : hm_M) (hL : hm_LL ν μ) (h : f_X10_good v1 μ = some (r, μR)) : hm_CC (hm_LL ν) m_X10_good fr 0 0 [.ref 179, .int v1] μ (some (.int r)) μR := by
  refine hm_enter (lv := [some (.ref 179), some (.int v1)]) (by decide) rfl (Nat.le_of_ble_eq_true rfl) ?_
  unfold f_X10_good at h
  refine tr_aload_n (pc' := 1) (show decode cX10_good 0 = .ok (.aload_n 0, 1) by decide +kernel) rfl rfl rfl ?_
  refine tr_iconst (pc' := 2) (v := (0 : Int32)) (show decode cX10_good 1 = .ok (.iconst 0, 1) by decide +kernel) rfl (by decide) ?_
  obtain ⟨μ1, eμ1, h⟩ := hm_bs h
  refine tp_pI (pc' := 5) fl_HandRingModel_3 (show decode cX10_good 2 = .ok (.putfield 3, 3) by decide +kernel) rfl (la_o hL (by decide) rfl) eμ1 ?_
  replace hL := hL.same (hm_pI_s eμ1)
  refine tr_iload_n (pc' := 6) (show decode cX10_good 5 = .ok (.iload_n 1, 1) by decide +kernel) rfl rfl rfl ?_
  cases h
  exact tr_iret rfl (show decode cX10_good 6 = .ok (.ireturn, 1) by decide +kernel) hL
def f_X10_settled (v1 : Int32) (μ : hm_M) : Option (Int32 × hm_M) :=
  Option.bind (hm_pI μ 179 33 (0 : Int32)) fun μ1 =>
  hm_b2 (f_X10_good v1 μ1) fun x2 μ3 =>
  some (x2, μ3)
set_option maxRecDepth 100000 in
theorem ok_X10_settled {fr : Nat} (hfr : 1 ≤ fr) {ν : hm_N} {r : Int32} {μR : hm_M}  (v1 : Int32)  (μ : hm_M) (hL : hm_LL ν μ) (h : f_X10_settled v1 μ = some (r, μR)) : hm_CC (hm_LL ν) m_X10_settled fr 0 0 [.ref 179, .int v1] μ (some (.int r)) μR := by
  refine hm_enter (lv := [some (.ref 179), some (.int v1)]) (by decide) rfl (Nat.le_of_ble_eq_true rfl) ?_
  unfold f_X10_settled at h
  refine tr_aload_n (pc' := 1) (show decode cX10_settled 0 = .ok (.aload_n 0, 1) by decide +kernel) rfl rfl rfl ?_
  refine tr_iconst (pc' := 2) (v := (0 : Int32)) (show decode cX10_settled 1 = .ok (.iconst 0, 1) by decide +kernel) rfl (by decide) ?_
  obtain ⟨μ1, eμ1, h⟩ := hm_bs h
  refine tp_pI (pc' := 5) fl_HandRingModel_11 (show decode cX10_settled 2 = .ok (.putfield 11, 3) by decide +kernel) rfl (la_o hL (by decide) rfl) eμ1 ?_
  replace hL := hL.same (hm_pI_s eμ1)
  refine tr_aload_n (pc' := 6) (show decode cX10_settled 5 = .ok (.aload_n 0, 1) by decide +kernel) rfl rfl rfl ?_
  refine tr_iload_n (pc' := 7) (show decode cX10_settled 6 = .ok (.iload_n 1, 1) by decide +kernel) rfl rfl rfl ?_
  obtain ⟨x2, μ3, ex2, h⟩ := hm_b2s h
  have cx2 := ok_X10_good (fr := fr - 1) (ν := ν) (by omega) v1 μ1 hL ex2
  refine tp_callV (pc' := 10) (As := [.int v1]) (fr1 := fr - 1) (ci := 10) okm_X10_good lk_HandRingModel_14 (show decode cX10_settled 7 = .ok (.invokevirtual 14, 3) by decide +kernel) rfl rfl rfl (by decide) (la_o hL (by decide) rfl) rfl rfl (Nat.le_of_ble_eq_true rfl) (by omega) cx2 (st' := [.int x2]) rfl ?_
  replace hL := cx2.1
  cases h
  exact tr_iret rfl (show decode cX10_settled 10 = .ok (.ireturn, 1) by decide +kernel) hL
def f_X10_adds (v1 : Int32) (v2 : Int32) (v3 : Int32) (μ : hm_M) : Option hm_M :=
  Option.bind (f_X10_many μ) fun x1 =>
  Option.bind (hm_sd μ 181 5665 ((0 : Int32) + x1) v1) fun μ2 =>
  Option.bind (hm_sd μ2 181 5665 ((8 : Int32) + x1) v2) fun μ3 =>
  Option.bind (hm_sd μ3 181 5665 ((16 : Int32) + x1) (0 : Int32)) fun μ4 =>
  Option.bind (hm_sd μ4 181 5665 ((25 : Int32) + x1) v3) fun μ5 =>
  Option.bind (hm_ld μ5 181 5665 (54 : Int32)) fun x6 =>
  Option.bind (hm_sd μ5 181 5665 (54 : Int32) (x6 + (1 : Int32))) fun μ7 =>
  some μ7
set_option maxRecDepth 100000 in
theorem ok_X10_adds {fr : Nat} (hfr : 1 ≤ fr) {ν : hm_N} {μR : hm_M}  (v1 : Int32) (v2 : Int32) (v3 : Int32)  (μ : hm_M) (hL : hm_LL ν μ) (h : f_X10_adds v1 v2 v3 μ = some μR) : hm_CC (hm_LL ν) m_X10_adds fr 0 0 [.ref 179, .int v1, .int v2, .int v3] μ none μR := by
  refine hm_enter (lv := [some (.ref 179), some (.int v1), some (.int v2), some (.int v3), none]) (by decide) rfl (Nat.le_of_ble_eq_true rfl) ?_
  unfold f_X10_adds at h
  refine tr_aload_n (pc' := 1) (show decode cX10_adds 0 = .ok (.aload_n 0, 1) by decide +kernel) rfl rfl rfl ?_
  obtain ⟨x1, ex1, h⟩ := hm_bs h
  have cx1 := ok_X10_many (fr := fr - 1) (ν := ν) (by omega) μ hL ex1
  refine tp_callV (pc' := 4) (As := []) (fr1 := fr - 1) (ci := 10) okm_X10_many lk_HandRingModel_118 (show decode cX10_adds 1 = .ok (.invokevirtual 118, 3) by decide +kernel) rfl rfl rfl (by decide) (la_o hL (by decide) rfl) rfl rfl (Nat.le_of_ble_eq_true rfl) (by omega) cx1 (st' := [.int x1]) rfl ?_
  refine tr_istore (pc' := 6) (lv' := [some (.ref 179), some (.int v1), some (.int v2), some (.int v3), some (.int x1)]) (show decode cX10_adds 4 = .ok (.istore 4, 2) by decide +kernel) rfl (Nat.le_of_ble_eq_true rfl) rfl rfl ?_
  refine tr_aload_n (pc' := 7) (show decode cX10_adds 6 = .ok (.aload_n 0, 1) by decide +kernel) rfl rfl rfl ?_
  refine tr_getR (pc' := 10) fl_HandRingModel_24 (show decode cX10_adds 7 = .ok (.getfield 24, 3) by decide +kernel) rfl (la_o hL (by decide) rfl) (la_r hL 118 rfl) ?_
  refine tr_iconst (pc' := 11) (v := (0 : Int32)) (show decode cX10_adds 10 = .ok (.iconst 0, 1) by decide +kernel) rfl (by decide) ?_
  refine tr_iload (pc' := 13) (show decode cX10_adds 11 = .ok (.iload 4, 2) by decide +kernel) rfl rfl ?_
  refine tr_iadd (pc' := 14) (show decode cX10_adds 13 = .ok (.iadd, 1) by decide +kernel) rfl ?_
  refine tr_iload_n (pc' := 15) (show decode cX10_adds 14 = .ok (.iload_n 1, 1) by decide +kernel) rfl rfl rfl ?_
  obtain ⟨μ2, eμ2, h⟩ := hm_bs h
  refine tp_sdI (pc' := 16) (show decode cX10_adds 15 = .ok (.iastore, 1) by decide +kernel) rfl (la_a hL (by decide) rfl) eμ2 ?_
  replace hL := hL.same (hm_sd_s eμ2)
  refine tr_aload_n (pc' := 17) (show decode cX10_adds 16 = .ok (.aload_n 0, 1) by decide +kernel) rfl rfl rfl ?_
  refine tr_getR (pc' := 20) fl_HandRingModel_24 (show decode cX10_adds 17 = .ok (.getfield 24, 3) by decide +kernel) rfl (la_o hL (by decide) rfl) (la_r hL 118 rfl) ?_
  refine tr_bipush (pc' := 22) (v := (8 : Int32)) (show decode cX10_adds 20 = .ok (.bipush 8, 2) by decide +kernel) rfl (by decide) ?_
  refine tr_iload (pc' := 24) (show decode cX10_adds 22 = .ok (.iload 4, 2) by decide +kernel) rfl rfl ?_
  refine tr_iadd (pc' := 25) (show decode cX10_adds 24 = .ok (.iadd, 1) by decide +kernel) rfl ?_
  refine tr_iload_n (pc' := 26) (show decode cX10_adds 25 = .ok (.iload_n 2, 1) by decide +kernel) rfl rfl rfl ?_
  obtain ⟨μ3, eμ3, h⟩ := hm_bs h
  refine tp_sdI (pc' := 27) (show decode cX10_adds 26 = .ok (.iastore, 1) by decide +kernel) rfl (la_a hL (by decide) rfl) eμ3 ?_
  replace hL := hL.same (hm_sd_s eμ3)
  refine tr_aload_n (pc' := 28) (show decode cX10_adds 27 = .ok (.aload_n 0, 1) by decide +kernel) rfl rfl rfl ?_
  refine tr_getR (pc' := 31) fl_HandRingModel_24 (show decode cX10_adds 28 = .ok (.getfield 24, 3) by decide +kernel) rfl (la_o hL (by decide) rfl) (la_r hL 118 rfl) ?_
  refine tr_bipush (pc' := 33) (v := (16 : Int32)) (show decode cX10_adds 31 = .ok (.bipush 16, 2) by decide +kernel) rfl (by decide) ?_
  refine tr_iload (pc' := 35) (show decode cX10_adds 33 = .ok (.iload 4, 2) by decide +kernel) rfl rfl ?_
  refine tr_iadd (pc' := 36) (show decode cX10_adds 35 = .ok (.iadd, 1) by decide +kernel) rfl ?_
  refine tr_iconst (pc' := 37) (v := (0 : Int32)) (show decode cX10_adds 36 = .ok (.iconst 0, 1) by decide +kernel) rfl (by decide) ?_
  obtain ⟨μ4, eμ4, h⟩ := hm_bs h
  refine tp_sdI (pc' := 38) (show decode cX10_adds 37 = .ok (.iastore, 1) by decide +kernel) rfl (la_a hL (by decide) rfl) eμ4 ?_
  replace hL := hL.same (hm_sd_s eμ4)
  refine tr_aload_n (pc' := 39) (show decode cX10_adds 38 = .ok (.aload_n 0, 1) by decide +kernel) rfl rfl rfl ?_
  refine tr_getR (pc' := 42) fl_HandRingModel_24 (show decode cX10_adds 39 = .ok (.getfield 24, 3) by decide +kernel) rfl (la_o hL (by decide) rfl) (la_r hL 118 rfl) ?_
  refine tr_bipush (pc' := 44) (v := (25 : Int32)) (show decode cX10_adds 42 = .ok (.bipush 25, 2) by decide +kernel) rfl (by decide) ?_
  refine tr_iload (pc' := 46) (show decode cX10_adds 44 = .ok (.iload 4, 2) by decide +kernel) rfl rfl ?_
  refine tr_iadd (pc' := 47) (show decode cX10_adds 46 = .ok (.iadd, 1) by decide +kernel) rfl ?_
  refine tr_iload_n (pc' := 48) (show decode cX10_adds 47 = .ok (.iload_n 3, 1) by decide +kernel) rfl rfl rfl ?_
  obtain ⟨μ5, eμ5, h⟩ := hm_bs h
  refine tp_sdI (pc' := 49) (show decode cX10_adds 48 = .ok (.iastore, 1) by decide +kernel) rfl (la_a hL (by decide) rfl) eμ5 ?_
  replace hL := hL.same (hm_sd_s eμ5)
  refine tr_aload_n (pc' := 50) (show decode cX10_adds 49 = .ok (.aload_n 0, 1) by decide +kernel) rfl rfl rfl ?_
  refine tr_getR (pc' := 53) fl_HandRingModel_24 (show decode cX10_adds 50 = .ok (.getfield 24, 3) by decide +kernel) rfl (la_o hL (by decide) rfl) (la_r hL 118 rfl) ?_
  refine tr_bipush (pc' := 55) (v := (54 : Int32)) (show decode cX10_adds 53 = .ok (.bipush 54, 2) by decide +kernel) rfl (by decide) ?_
  refine tr_dup2 (pc' := 56) (show decode cX10_adds 55 = .ok (.dup2, 1) by decide +kernel) rfl rfl rfl ?_
  obtain ⟨x6, ex6, h⟩ := hm_bs h
  refine tp_ldI (pc' := 57) (show decode cX10_adds 56 = .ok (.iaload, 1) by decide +kernel) rfl (la_a hL (by decide) rfl) ex6 ?_
  refine tr_iconst (pc' := 58) (v := (1 : Int32)) (show decode cX10_adds 57 = .ok (.iconst 1, 1) by decide +kernel) rfl (by decide) ?_
  refine tr_iadd (pc' := 59) (show decode cX10_adds 58 = .ok (.iadd, 1) by decide +kernel) rfl ?_
  obtain ⟨μ7, eμ7, h⟩ := hm_bs h
  refine tp_sdI (pc' := 60) (show decode cX10_adds 59 = .ok (.iastore, 1) by decide +kernel) rfl (la_a hL (by decide) rfl) eμ7 ?_
  replace hL := hL.same (hm_sd_s eμ7)
  cases h
  exact tr_vret rfl (show decode cX10_adds 60 = .ok (.return_, 1) by decide +kernel) hL
def f_X10_canBe (v0 : Int32) (v1 : Int32) (v2 : Int32) : Option Int32 :=
  Option.bind (f_X10_lies v0 (0 : Int32) (24 : Int32)) fun x1 =>
  (if x1 = 0 then
  some (0 : Int32)
  else
  Option.bind (f_X10_lies v1 (0 : Int32) (4 : Int32)) fun x2 =>
  (if x2 = 0 then
  some (0 : Int32)
  else
  Option.bind (f_X10_lies v2 (0 : Int32) (3 : Int32)) fun x3 =>
  (if x3 = 0 then
  some (0 : Int32)
  else
  some (1 : Int32))))
set_option maxRecDepth 100000 in
theorem ok_X10_canBe {fr : Nat} (hfr : 1 ≤ fr) {ν : hm_N} {r : Int32}  (v0 : Int32) (v1 : Int32) (v2 : Int32)  (μ : hm_M) (hL : hm_LL ν μ) (h : f_X10_canBe v0 v1 v2 = some r) : hm_CC (hm_LL ν) m_X10_canBe fr 0 0 [.int v0, .int v1, .int v2] μ (some (.int r)) μ := by
  refine hm_enter (lv := [some (.int v0), some (.int v1), some (.int v2)]) (by decide) rfl (Nat.le_of_ble_eq_true rfl) ?_
  unfold f_X10_canBe at h
  refine tr_iload_n (pc' := 1) (show decode cX10_canBe 0 = .ok (.iload_n 0, 1) by decide +kernel) rfl rfl rfl ?_
  refine tr_iconst (pc' := 2) (v := (0 : Int32)) (show decode cX10_canBe 1 = .ok (.iconst 0, 1) by decide +kernel) rfl (by decide) ?_
  refine tr_bipush (pc' := 4) (v := (24 : Int32)) (show decode cX10_canBe 2 = .ok (.bipush 24, 2) by decide +kernel) rfl (by decide) ?_
  obtain ⟨x1, ex1, h⟩ := hm_bs h
  have cx1 := ok_X10_lies (fr := fr - 1) (ν := ν) (by omega) v0 (0 : Int32) (24 : Int32) μ hL ex1
  refine tp_callS (pc' := 7) (As := [.int v0, .int (0 : Int32), .int (24 : Int32)]) (fr1 := fr - 1) okm_X10_lies lk_HandRingModel_108 (show decode cX10_canBe 4 = .ok (.invokestatic 108, 3) by decide +kernel) rfl rfl rfl (Nat.le_of_ble_eq_true rfl) (by omega) cx1 (st' := [.int x1]) rfl ?_
  rcases hm_is h with ⟨hc, h⟩ | ⟨hc, h⟩
  · refine tr_if_eq_t (tgt := 32) hc (show decode cX10_canBe 7 = .ok (.ifCond .eq 25, 3) by decide +kernel) (by decide) ?_
    refine tr_iconst (pc' := 33) (v := (0 : Int32)) (show decode cX10_canBe 32 = .ok (.iconst 0, 1) by decide +kernel) rfl (by decide) ?_
    cases h
    exact tr_zret rfl (by decide) (show decode cX10_canBe 33 = .ok (.ireturn, 1) by decide +kernel) hL
  · refine tr_if_eq_f (tgt := 32) (pc' := 10) hc (show decode cX10_canBe 7 = .ok (.ifCond .eq 25, 3) by decide +kernel) (by decide) rfl ?_
    refine tr_iload_n (pc' := 11) (show decode cX10_canBe 10 = .ok (.iload_n 1, 1) by decide +kernel) rfl rfl rfl ?_
    refine tr_iconst (pc' := 12) (v := (0 : Int32)) (show decode cX10_canBe 11 = .ok (.iconst 0, 1) by decide +kernel) rfl (by decide) ?_
    refine tr_iconst (pc' := 13) (v := (4 : Int32)) (show decode cX10_canBe 12 = .ok (.iconst 4, 1) by decide +kernel) rfl (by decide) ?_
    obtain ⟨x2, ex2, h⟩ := hm_bs h
    have cx2 := ok_X10_lies (fr := fr - 1) (ν := ν) (by omega) v1 (0 : Int32) (4 : Int32) μ hL ex2
    refine tp_callS (pc' := 16) (As := [.int v1, .int (0 : Int32), .int (4 : Int32)]) (fr1 := fr - 1) okm_X10_lies lk_HandRingModel_108 (show decode cX10_canBe 13 = .ok (.invokestatic 108, 3) by decide +kernel) rfl rfl rfl (Nat.le_of_ble_eq_true rfl) (by omega) cx2 (st' := [.int x2]) rfl ?_
    rcases hm_is h with ⟨hc, h⟩ | ⟨hc, h⟩
    · refine tr_if_eq_t (tgt := 32) hc (show decode cX10_canBe 16 = .ok (.ifCond .eq 16, 3) by decide +kernel) (by decide) ?_
      refine tr_iconst (pc' := 33) (v := (0 : Int32)) (show decode cX10_canBe 32 = .ok (.iconst 0, 1) by decide +kernel) rfl (by decide) ?_
      cases h
      exact tr_zret rfl (by decide) (show decode cX10_canBe 33 = .ok (.ireturn, 1) by decide +kernel) hL
    · refine tr_if_eq_f (tgt := 32) (pc' := 19) hc (show decode cX10_canBe 16 = .ok (.ifCond .eq 16, 3) by decide +kernel) (by decide) rfl ?_
      refine tr_iload_n (pc' := 20) (show decode cX10_canBe 19 = .ok (.iload_n 2, 1) by decide +kernel) rfl rfl rfl ?_
      refine tr_iconst (pc' := 21) (v := (0 : Int32)) (show decode cX10_canBe 20 = .ok (.iconst 0, 1) by decide +kernel) rfl (by decide) ?_
      refine tr_iconst (pc' := 22) (v := (3 : Int32)) (show decode cX10_canBe 21 = .ok (.iconst 3, 1) by decide +kernel) rfl (by decide) ?_
      obtain ⟨x3, ex3, h⟩ := hm_bs h
      have cx3 := ok_X10_lies (fr := fr - 1) (ν := ν) (by omega) v2 (0 : Int32) (3 : Int32) μ hL ex3
      refine tp_callS (pc' := 25) (As := [.int v2, .int (0 : Int32), .int (3 : Int32)]) (fr1 := fr - 1) okm_X10_lies lk_HandRingModel_108 (show decode cX10_canBe 22 = .ok (.invokestatic 108, 3) by decide +kernel) rfl rfl rfl (Nat.le_of_ble_eq_true rfl) (by omega) cx3 (st' := [.int x3]) rfl ?_
      rcases hm_is h with ⟨hc, h⟩ | ⟨hc, h⟩
      · refine tr_if_eq_t (tgt := 32) hc (show decode cX10_canBe 25 = .ok (.ifCond .eq 7, 3) by decide +kernel) (by decide) ?_
        refine tr_iconst (pc' := 33) (v := (0 : Int32)) (show decode cX10_canBe 32 = .ok (.iconst 0, 1) by decide +kernel) rfl (by decide) ?_
        cases h
        exact tr_zret rfl (by decide) (show decode cX10_canBe 33 = .ok (.ireturn, 1) by decide +kernel) hL
      · refine tr_if_eq_f (tgt := 32) (pc' := 28) hc (show decode cX10_canBe 25 = .ok (.ifCond .eq 7, 3) by decide +kernel) (by decide) rfl ?_
        refine tr_iconst (pc' := 29) (v := (1 : Int32)) (show decode cX10_canBe 28 = .ok (.iconst 1, 1) by decide +kernel) rfl (by decide) ?_
        refine tr_goto (tgt := 33) (show decode cX10_canBe 29 = .ok (.goto 4, 3) by decide +kernel) rfl ?_
        cases h
        exact tr_zret rfl (by decide) (show decode cX10_canBe 33 = .ok (.ireturn, 1) by decide +kernel) hL
def f_X10_person (v1 : Int32) (v2 : Int32) (v3 : Int32) (μ : hm_M) : Option (Int32 × hm_M) :=
  Option.bind (f_X10_canBe v1 v2 v3) fun x1 =>
  (if x1 = 0 then
  hm_b2 (f_X10_refuses (-1 : Int32) μ) fun x10 μ11 =>
  some (x10, μ11)
  else
  Option.bind (f_X10_many μ) fun x2 =>
  (if x2 = (8 : Int32) then
  hm_b2 (f_X10_refuses (-5 : Int32) μ) fun x8 μ9 =>
  some (x8, μ9)
  else
  Option.bind (f_X10_adds v1 v2 v3 μ) fun μ4 =>
  Option.bind (f_X10_many μ4) fun x5 =>
  hm_b2 (f_X10_settled (x5 - (1 : Int32)) μ4) fun x6 μ7 =>
  some (x6, μ7)))
set_option maxRecDepth 100000 in
theorem ok_X10_person {fr : Nat} (hfr : 2 ≤ fr) {ν : hm_N} {r : Int32} {μR : hm_M}  (v1 : Int32) (v2 : Int32) (v3 : Int32)  (μ : hm_M) (hL : hm_LL ν μ) (h : f_X10_person v1 v2 v3 μ = some (r, μR)) : hm_CC (hm_LL ν) m_X10_person fr 0 0 [.ref 179, .int v1, .int v2, .int v3] μ (some (.int r)) μR := by
  refine hm_enter (lv := [some (.ref 179), some (.int v1), some (.int v2), some (.int v3)]) (by decide) rfl (Nat.le_of_ble_eq_true rfl) ?_
  unfold f_X10_person at h
  refine tr_iload_n (pc' := 1) (show decode cX10_person 0 = .ok (.iload_n 1, 1) by decide +kernel) rfl rfl rfl ?_
  refine tr_iload_n (pc' := 2) (show decode cX10_person 1 = .ok (.iload_n 2, 1) by decide +kernel) rfl rfl rfl ?_
  refine tr_iload_n (pc' := 3) (show decode cX10_person 2 = .ok (.iload_n 3, 1) by decide +kernel) rfl rfl rfl ?_
  obtain ⟨x1, ex1, h⟩ := hm_bs h
  have cx1 := ok_X10_canBe (fr := fr - 1) (ν := ν) (by omega) v1 v2 v3 μ hL ex1
  refine tp_callS (pc' := 6) (As := [.int v1, .int v2, .int v3]) (fr1 := fr - 1) okm_X10_canBe lk_HandRingModel_126 (show decode cX10_person 3 = .ok (.invokestatic 126, 3) by decide +kernel) rfl rfl rfl (Nat.le_of_ble_eq_true rfl) (by omega) cx1 (st' := [.int x1]) rfl ?_
  rcases hm_is h with ⟨hc, h⟩ | ⟨hc, h⟩
  · refine tr_if_ne_f (tgt := 15) (pc' := 9) hc (show decode cX10_person 6 = .ok (.ifCond .ne 9, 3) by decide +kernel) (by decide) rfl ?_
    refine tr_aload_n (pc' := 10) (show decode cX10_person 9 = .ok (.aload_n 0, 1) by decide +kernel) rfl rfl rfl ?_
    refine tr_iconst (pc' := 11) (v := (-1 : Int32)) (show decode cX10_person 10 = .ok (.iconst (-1), 1) by decide +kernel) rfl (by decide) ?_
    obtain ⟨x10, μ11, ex10, h⟩ := hm_b2s h
    have cx10 := ok_X10_refuses (fr := fr - 1) (ν := ν) (by omega) (-1 : Int32) μ hL ex10
    refine tp_callV (pc' := 14) (As := [.int (-1 : Int32)]) (fr1 := fr - 1) (ci := 10) okm_X10_refuses lk_HandRingModel_112 (show decode cX10_person 11 = .ok (.invokevirtual 112, 3) by decide +kernel) rfl rfl rfl (by decide) (la_o hL (by decide) rfl) rfl rfl (Nat.le_of_ble_eq_true rfl) (by omega) cx10 (st' := [.int x10]) rfl ?_
    replace hL := cx10.1
    cases h
    exact tr_iret rfl (show decode cX10_person 14 = .ok (.ireturn, 1) by decide +kernel) hL
  · refine tr_if_ne_t (tgt := 15) hc (show decode cX10_person 6 = .ok (.ifCond .ne 9, 3) by decide +kernel) (by decide) ?_
    refine tr_aload_n (pc' := 16) (show decode cX10_person 15 = .ok (.aload_n 0, 1) by decide +kernel) rfl rfl rfl ?_
    obtain ⟨x2, ex2, h⟩ := hm_bs h
    have cx2 := ok_X10_many (fr := fr - 1) (ν := ν) (by omega) μ hL ex2
    refine tp_callV (pc' := 19) (As := []) (fr1 := fr - 1) (ci := 10) okm_X10_many lk_HandRingModel_118 (show decode cX10_person 16 = .ok (.invokevirtual 118, 3) by decide +kernel) rfl rfl rfl (by decide) (la_o hL (by decide) rfl) rfl rfl (Nat.le_of_ble_eq_true rfl) (by omega) cx2 (st' := [.int x2]) rfl ?_
    refine tr_bipush (pc' := 21) (v := (8 : Int32)) (show decode cX10_person 19 = .ok (.bipush 8, 2) by decide +kernel) rfl (by decide) ?_
    rcases hm_is h with ⟨hc, h⟩ | ⟨hc, h⟩
    · refine tr_icmp_ne_f (tgt := 31) (pc' := 24) hc (show decode cX10_person 21 = .ok (.if_icmp .ne 10, 3) by decide +kernel) (by decide) rfl ?_
      refine tr_aload_n (pc' := 25) (show decode cX10_person 24 = .ok (.aload_n 0, 1) by decide +kernel) rfl rfl rfl ?_
      refine tr_bipush (pc' := 27) (v := (-5 : Int32)) (show decode cX10_person 25 = .ok (.bipush (-5), 2) by decide +kernel) rfl (by decide) ?_
      obtain ⟨x8, μ9, ex8, h⟩ := hm_b2s h
      have cx8 := ok_X10_refuses (fr := fr - 1) (ν := ν) (by omega) (-5 : Int32) μ hL ex8
      refine tp_callV (pc' := 30) (As := [.int (-5 : Int32)]) (fr1 := fr - 1) (ci := 10) okm_X10_refuses lk_HandRingModel_112 (show decode cX10_person 27 = .ok (.invokevirtual 112, 3) by decide +kernel) rfl rfl rfl (by decide) (la_o hL (by decide) rfl) rfl rfl (Nat.le_of_ble_eq_true rfl) (by omega) cx8 (st' := [.int x8]) rfl ?_
      replace hL := cx8.1
      cases h
      exact tr_iret rfl (show decode cX10_person 30 = .ok (.ireturn, 1) by decide +kernel) hL
    · refine tr_icmp_ne_t (tgt := 31) hc (show decode cX10_person 21 = .ok (.if_icmp .ne 10, 3) by decide +kernel) (by decide) ?_
      refine tr_aload_n (pc' := 32) (show decode cX10_person 31 = .ok (.aload_n 0, 1) by decide +kernel) rfl rfl rfl ?_
      refine tr_iload_n (pc' := 33) (show decode cX10_person 32 = .ok (.iload_n 1, 1) by decide +kernel) rfl rfl rfl ?_
      refine tr_iload_n (pc' := 34) (show decode cX10_person 33 = .ok (.iload_n 2, 1) by decide +kernel) rfl rfl rfl ?_
      refine tr_iload_n (pc' := 35) (show decode cX10_person 34 = .ok (.iload_n 3, 1) by decide +kernel) rfl rfl rfl ?_
      obtain ⟨μ4, ex3, h⟩ := hm_bs h
      have cx3 := ok_X10_adds (fr := fr - 1) (ν := ν) (by omega) v1 v2 v3 μ hL ex3
      refine tp_callV (pc' := 38) (As := [.int v1, .int v2, .int v3]) (fr1 := fr - 1) (ci := 10) okm_X10_adds lk_HandRingModel_129 (show decode cX10_person 35 = .ok (.invokevirtual 129, 3) by decide +kernel) rfl rfl rfl (by decide) (la_o hL (by decide) rfl) rfl rfl (Nat.le_of_ble_eq_true rfl) (by omega) cx3 (st' := []) rfl ?_
      replace hL := cx3.1
      refine tr_aload_n (pc' := 39) (show decode cX10_person 38 = .ok (.aload_n 0, 1) by decide +kernel) rfl rfl rfl ?_
      refine tr_aload_n (pc' := 40) (show decode cX10_person 39 = .ok (.aload_n 0, 1) by decide +kernel) rfl rfl rfl ?_
      obtain ⟨x5, ex5, h⟩ := hm_bs h
      have cx5 := ok_X10_many (fr := fr - 1) (ν := ν) (by omega) μ4 hL ex5
      refine tp_callV (pc' := 43) (As := []) (fr1 := fr - 1) (ci := 10) okm_X10_many lk_HandRingModel_118 (show decode cX10_person 40 = .ok (.invokevirtual 118, 3) by decide +kernel) rfl rfl rfl (by decide) (la_o hL (by decide) rfl) rfl rfl (Nat.le_of_ble_eq_true rfl) (by omega) cx5 (st' := [.int x5, .ref 179]) rfl ?_
      refine tr_iconst (pc' := 44) (v := (1 : Int32)) (show decode cX10_person 43 = .ok (.iconst 1, 1) by decide +kernel) rfl (by decide) ?_
      refine tr_isub (pc' := 45) (show decode cX10_person 44 = .ok (.isub, 1) by decide +kernel) rfl ?_
      obtain ⟨x6, μ7, ex6, h⟩ := hm_b2s h
      have cx6 := ok_X10_settled (fr := fr - 1) (ν := ν) (by omega) (x5 - (1 : Int32)) μ4 hL ex6
      refine tp_callV (pc' := 48) (As := [.int (x5 - (1 : Int32))]) (fr1 := fr - 1) (ci := 10) okm_X10_settled lk_HandRingModel_115 (show decode cX10_person 45 = .ok (.invokevirtual 115, 3) by decide +kernel) rfl rfl rfl (by decide) (la_o hL (by decide) rfl) rfl rfl (Nat.le_of_ble_eq_true rfl) (by omega) cx6 (st' := [.int x6]) rfl ?_
      replace hL := cx6.1
      cases h
      exact tr_iret rfl (show decode cX10_person 48 = .ok (.ireturn, 1) by decide +kernel) hL
def f_X10_isTerm (v0 : Int32) (v1 : Int32) : Option Int32 :=
  (if v0 < (0 : Int32) ∨ (3 : Int32) < v0 then
  some (0 : Int32)
  else
  (if v0 = (0 : Int32) then
  Option.bind (f_X10_lies v1 (0 : Int32) (999 : Int32)) fun x7 =>
  hm_rz x7
  else
  (if v0 = (1 : Int32) then
  Option.bind (f_X10_lies v1 (0 : Int32) (10 : Int32)) fun x5 =>
  hm_rz x5
  else
  (if v0 = (2 : Int32) then
  Option.bind (f_X10_lies v1 (0 : Int32) (9 : Int32)) fun x3 =>
  hm_rz x3
  else
  (if v0 = (3 : Int32) then
  Option.bind (f_X10_lies v1 (0 : Int32) (99 : Int32)) fun x1 =>
  hm_rz x1
  else
  none)))))
set_option maxRecDepth 100000 in
theorem ok_X10_isTerm {fr : Nat} (hfr : 1 ≤ fr) {ν : hm_N} {r : Int32}  (v0 : Int32) (v1 : Int32)  (μ : hm_M) (hL : hm_LL ν μ) (h : f_X10_isTerm v0 v1 = some r) : hm_CC (hm_LL ν) m_X10_isTerm fr 0 0 [.int v0, .int v1] μ (some (.int r)) μ := by
  refine hm_enter (lv := [some (.int v0), some (.int v1)]) (by decide) rfl (Nat.le_of_ble_eq_true rfl) ?_
  unfold f_X10_isTerm at h
  refine tr_iload_n (pc' := 1) (show decode cX10_isTerm 0 = .ok (.iload_n 0, 1) by decide +kernel) rfl rfl rfl ?_
  rcases hm_is h with ⟨hc, h⟩ | ⟨-, h⟩
  · refine tp_tout (tgt := 65) hc (by decide) (by decide) (show decode cX10_isTerm 1 = .ok (.tableswitch 64 0 3 #[31, 40, 48, 56], 31) by decide +kernel) (by decide) ?_
    refine tr_iconst (pc' := 66) (v := (0 : Int32)) (show decode cX10_isTerm 65 = .ok (.iconst 0, 1) by decide +kernel) rfl (by decide) ?_
    cases h
    exact tr_zret rfl (by decide) (show decode cX10_isTerm 66 = .ok (.ireturn, 1) by decide +kernel) hL
  · rcases hm_is h with ⟨hc, h⟩ | ⟨-, h⟩
    · refine tp_tin (tgt := 32) (off := 31) hc (show decode cX10_isTerm 1 = .ok (.tableswitch 64 0 3 #[31, 40, 48, 56], 31) by decide +kernel) (by decide) (by decide) (by decide) (by decide) ?_
      refine tr_iload_n (pc' := 33) (show decode cX10_isTerm 32 = .ok (.iload_n 1, 1) by decide +kernel) rfl rfl rfl ?_
      refine tr_iconst (pc' := 34) (v := (0 : Int32)) (show decode cX10_isTerm 33 = .ok (.iconst 0, 1) by decide +kernel) rfl (by decide) ?_
      refine tr_sipush (pc' := 37) (v := (999 : Int32)) (show decode cX10_isTerm 34 = .ok (.sipush 999, 3) by decide +kernel) rfl (by decide) ?_
      obtain ⟨x7, ex7, h⟩ := hm_bs h
      have cx7 := ok_X10_lies (fr := fr - 1) (ν := ν) (by omega) v1 (0 : Int32) (999 : Int32) μ hL ex7
      refine tp_callS (pc' := 40) (As := [.int v1, .int (0 : Int32), .int (999 : Int32)]) (fr1 := fr - 1) okm_X10_lies lk_HandRingModel_108 (show decode cX10_isTerm 37 = .ok (.invokestatic 108, 3) by decide +kernel) rfl rfl rfl (Nat.le_of_ble_eq_true rfl) (by omega) cx7 (st' := [.int x7]) rfl ?_
      exact tp_zret rfl (show decode cX10_isTerm 40 = .ok (.ireturn, 1) by decide +kernel) h hL
    · rcases hm_is h with ⟨hc, h⟩ | ⟨-, h⟩
      · refine tp_tin (tgt := 41) (off := 40) hc (show decode cX10_isTerm 1 = .ok (.tableswitch 64 0 3 #[31, 40, 48, 56], 31) by decide +kernel) (by decide) (by decide) (by decide) (by decide) ?_
        refine tr_iload_n (pc' := 42) (show decode cX10_isTerm 41 = .ok (.iload_n 1, 1) by decide +kernel) rfl rfl rfl ?_
        refine tr_iconst (pc' := 43) (v := (0 : Int32)) (show decode cX10_isTerm 42 = .ok (.iconst 0, 1) by decide +kernel) rfl (by decide) ?_
        refine tr_bipush (pc' := 45) (v := (10 : Int32)) (show decode cX10_isTerm 43 = .ok (.bipush 10, 2) by decide +kernel) rfl (by decide) ?_
        obtain ⟨x5, ex5, h⟩ := hm_bs h
        have cx5 := ok_X10_lies (fr := fr - 1) (ν := ν) (by omega) v1 (0 : Int32) (10 : Int32) μ hL ex5
        refine tp_callS (pc' := 48) (As := [.int v1, .int (0 : Int32), .int (10 : Int32)]) (fr1 := fr - 1) okm_X10_lies lk_HandRingModel_108 (show decode cX10_isTerm 45 = .ok (.invokestatic 108, 3) by decide +kernel) rfl rfl rfl (Nat.le_of_ble_eq_true rfl) (by omega) cx5 (st' := [.int x5]) rfl ?_
        exact tp_zret rfl (show decode cX10_isTerm 48 = .ok (.ireturn, 1) by decide +kernel) h hL
      · rcases hm_is h with ⟨hc, h⟩ | ⟨-, h⟩
        · refine tp_tin (tgt := 49) (off := 48) hc (show decode cX10_isTerm 1 = .ok (.tableswitch 64 0 3 #[31, 40, 48, 56], 31) by decide +kernel) (by decide) (by decide) (by decide) (by decide) ?_
          refine tr_iload_n (pc' := 50) (show decode cX10_isTerm 49 = .ok (.iload_n 1, 1) by decide +kernel) rfl rfl rfl ?_
          refine tr_iconst (pc' := 51) (v := (0 : Int32)) (show decode cX10_isTerm 50 = .ok (.iconst 0, 1) by decide +kernel) rfl (by decide) ?_
          refine tr_bipush (pc' := 53) (v := (9 : Int32)) (show decode cX10_isTerm 51 = .ok (.bipush 9, 2) by decide +kernel) rfl (by decide) ?_
          obtain ⟨x3, ex3, h⟩ := hm_bs h
          have cx3 := ok_X10_lies (fr := fr - 1) (ν := ν) (by omega) v1 (0 : Int32) (9 : Int32) μ hL ex3
          refine tp_callS (pc' := 56) (As := [.int v1, .int (0 : Int32), .int (9 : Int32)]) (fr1 := fr - 1) okm_X10_lies lk_HandRingModel_108 (show decode cX10_isTerm 53 = .ok (.invokestatic 108, 3) by decide +kernel) rfl rfl rfl (Nat.le_of_ble_eq_true rfl) (by omega) cx3 (st' := [.int x3]) rfl ?_
          exact tp_zret rfl (show decode cX10_isTerm 56 = .ok (.ireturn, 1) by decide +kernel) h hL
        · rcases hm_is h with ⟨hc, h⟩ | ⟨-, h⟩
          · refine tp_tin (tgt := 57) (off := 56) hc (show decode cX10_isTerm 1 = .ok (.tableswitch 64 0 3 #[31, 40, 48, 56], 31) by decide +kernel) (by decide) (by decide) (by decide) (by decide) ?_
            refine tr_iload_n (pc' := 58) (show decode cX10_isTerm 57 = .ok (.iload_n 1, 1) by decide +kernel) rfl rfl rfl ?_
            refine tr_iconst (pc' := 59) (v := (0 : Int32)) (show decode cX10_isTerm 58 = .ok (.iconst 0, 1) by decide +kernel) rfl (by decide) ?_
            refine tr_bipush (pc' := 61) (v := (99 : Int32)) (show decode cX10_isTerm 59 = .ok (.bipush 99, 2) by decide +kernel) rfl (by decide) ?_
            obtain ⟨x1, ex1, h⟩ := hm_bs h
            have cx1 := ok_X10_lies (fr := fr - 1) (ν := ν) (by omega) v1 (0 : Int32) (99 : Int32) μ hL ex1
            refine tp_callS (pc' := 64) (As := [.int v1, .int (0 : Int32), .int (99 : Int32)]) (fr1 := fr - 1) okm_X10_lies lk_HandRingModel_108 (show decode cX10_isTerm 61 = .ok (.invokestatic 108, 3) by decide +kernel) rfl rfl rfl (Nat.le_of_ble_eq_true rfl) (by omega) cx1 (st' := [.int x1]) rfl ?_
            exact tp_zret rfl (show decode cX10_isTerm 64 = .ok (.ireturn, 1) by decide +kernel) h hL
          · cases h
def f_X10_termAt (v0 : Int32) : Option Int32 :=
  (if v0 = 0 then
  some (24 : Int32)
  else
  (if v0 = (1 : Int32) then
  some (51 : Int32)
  else
  (if v0 = (2 : Int32) then
  some (52 : Int32)
  else
  some (53 : Int32))))
set_option maxRecDepth 100000 in
theorem ok_X10_termAt {fr : Nat} (hfr : 0 ≤ fr) {ν : hm_N} {r : Int32}  (v0 : Int32)  (μ : hm_M) (hL : hm_LL ν μ) (h : f_X10_termAt v0 = some r) : hm_CC (hm_LL ν) m_X10_termAt fr 0 0 [.int v0] μ (some (.int r)) μ := by
  refine hm_enter (lv := [some (.int v0)]) (by decide) rfl (Nat.le_of_ble_eq_true rfl) ?_
  unfold f_X10_termAt at h
  refine tr_iload_n (pc' := 1) (show decode cX10_termAt 0 = .ok (.iload_n 0, 1) by decide +kernel) rfl rfl rfl ?_
  rcases hm_is h with ⟨hc, h⟩ | ⟨hc, h⟩
  · refine tr_if_ne_f (tgt := 9) (pc' := 4) hc (show decode cX10_termAt 1 = .ok (.ifCond .ne 8, 3) by decide +kernel) (by decide) rfl ?_
    refine tr_bipush (pc' := 6) (v := (24 : Int32)) (show decode cX10_termAt 4 = .ok (.bipush 24, 2) by decide +kernel) rfl (by decide) ?_
    refine tr_goto (tgt := 31) (show decode cX10_termAt 6 = .ok (.goto 25, 3) by decide +kernel) rfl ?_
    cases h
    exact tr_iret rfl (show decode cX10_termAt 31 = .ok (.ireturn, 1) by decide +kernel) hL
  · refine tr_if_ne_t (tgt := 9) hc (show decode cX10_termAt 1 = .ok (.ifCond .ne 8, 3) by decide +kernel) (by decide) ?_
    refine tr_iload_n (pc' := 10) (show decode cX10_termAt 9 = .ok (.iload_n 0, 1) by decide +kernel) rfl rfl rfl ?_
    refine tr_iconst (pc' := 11) (v := (1 : Int32)) (show decode cX10_termAt 10 = .ok (.iconst 1, 1) by decide +kernel) rfl (by decide) ?_
    rcases hm_is h with ⟨hc, h⟩ | ⟨hc, h⟩
    · refine tr_icmp_ne_f (tgt := 19) (pc' := 14) hc (show decode cX10_termAt 11 = .ok (.if_icmp .ne 8, 3) by decide +kernel) (by decide) rfl ?_
      refine tr_bipush (pc' := 16) (v := (51 : Int32)) (show decode cX10_termAt 14 = .ok (.bipush 51, 2) by decide +kernel) rfl (by decide) ?_
      refine tr_goto (tgt := 31) (show decode cX10_termAt 16 = .ok (.goto 15, 3) by decide +kernel) rfl ?_
      cases h
      exact tr_iret rfl (show decode cX10_termAt 31 = .ok (.ireturn, 1) by decide +kernel) hL
    · refine tr_icmp_ne_t (tgt := 19) hc (show decode cX10_termAt 11 = .ok (.if_icmp .ne 8, 3) by decide +kernel) (by decide) ?_
      refine tr_iload_n (pc' := 20) (show decode cX10_termAt 19 = .ok (.iload_n 0, 1) by decide +kernel) rfl rfl rfl ?_
      refine tr_iconst (pc' := 21) (v := (2 : Int32)) (show decode cX10_termAt 20 = .ok (.iconst 2, 1) by decide +kernel) rfl (by decide) ?_
      rcases hm_is h with ⟨hc, h⟩ | ⟨hc, h⟩
      · refine tr_icmp_ne_f (tgt := 29) (pc' := 24) hc (show decode cX10_termAt 21 = .ok (.if_icmp .ne 8, 3) by decide +kernel) (by decide) rfl ?_
        refine tr_bipush (pc' := 26) (v := (52 : Int32)) (show decode cX10_termAt 24 = .ok (.bipush 52, 2) by decide +kernel) rfl (by decide) ?_
        refine tr_goto (tgt := 31) (show decode cX10_termAt 26 = .ok (.goto 5, 3) by decide +kernel) rfl ?_
        cases h
        exact tr_iret rfl (show decode cX10_termAt 31 = .ok (.ireturn, 1) by decide +kernel) hL
      · refine tr_icmp_ne_t (tgt := 29) hc (show decode cX10_termAt 21 = .ok (.if_icmp .ne 8, 3) by decide +kernel) (by decide) ?_
        refine tr_bipush (pc' := 31) (v := (53 : Int32)) (show decode cX10_termAt 29 = .ok (.bipush 53, 2) by decide +kernel) rfl (by decide) ?_
        cases h
        exact tr_iret rfl (show decode cX10_termAt 31 = .ok (.ireturn, 1) by decide +kernel) hL
def f_X10_terms (v1 : Int32) (v2 : Int32) (μ : hm_M) : Option (Int32 × hm_M) :=
  Option.bind (f_X10_isTerm v1 v2) fun x1 =>
  (if x1 = 0 then
  hm_b2 (f_X10_refuses (-1 : Int32) μ) fun x8 μ9 =>
  some (x8, μ9)
  else
  Option.bind (f_X10_termAt v1) fun x2 =>
  Option.bind (hm_ld μ 181 5665 x2) fun x3 =>
  Option.bind (f_X10_termAt v1) fun x4 =>
  Option.bind (hm_sd μ 181 5665 x4 v2) fun μ5 =>
  hm_b2 (f_X10_settled x3 μ5) fun x6 μ7 =>
  some (x6, μ7))
set_option maxRecDepth 100000 in
theorem ok_X10_terms {fr : Nat} (hfr : 2 ≤ fr) {ν : hm_N} {r : Int32} {μR : hm_M}  (v1 : Int32) (v2 : Int32)  (μ : hm_M) (hL : hm_LL ν μ) (h : f_X10_terms v1 v2 μ = some (r, μR)) : hm_CC (hm_LL ν) m_X10_terms fr 0 0 [.ref 179, .int v1, .int v2] μ (some (.int r)) μR := by
  refine hm_enter (lv := [some (.ref 179), some (.int v1), some (.int v2), none]) (by decide) rfl (Nat.le_of_ble_eq_true rfl) ?_
  unfold f_X10_terms at h
  refine tr_iload_n (pc' := 1) (show decode cX10_terms 0 = .ok (.iload_n 1, 1) by decide +kernel) rfl rfl rfl ?_
  refine tr_iload_n (pc' := 2) (show decode cX10_terms 1 = .ok (.iload_n 2, 1) by decide +kernel) rfl rfl rfl ?_
  obtain ⟨x1, ex1, h⟩ := hm_bs h
  have cx1 := ok_X10_isTerm (fr := fr - 1) (ν := ν) (by omega) v1 v2 μ hL ex1
  refine tp_callS (pc' := 5) (As := [.int v1, .int v2]) (fr1 := fr - 1) okm_X10_isTerm lk_HandRingModel_156 (show decode cX10_terms 2 = .ok (.invokestatic 156, 3) by decide +kernel) rfl rfl rfl (Nat.le_of_ble_eq_true rfl) (by omega) cx1 (st' := [.int x1]) rfl ?_
  rcases hm_is h with ⟨hc, h⟩ | ⟨hc, h⟩
  · refine tr_if_ne_f (tgt := 14) (pc' := 8) hc (show decode cX10_terms 5 = .ok (.ifCond .ne 9, 3) by decide +kernel) (by decide) rfl ?_
    refine tr_aload_n (pc' := 9) (show decode cX10_terms 8 = .ok (.aload_n 0, 1) by decide +kernel) rfl rfl rfl ?_
    refine tr_iconst (pc' := 10) (v := (-1 : Int32)) (show decode cX10_terms 9 = .ok (.iconst (-1), 1) by decide +kernel) rfl (by decide) ?_
    obtain ⟨x8, μ9, ex8, h⟩ := hm_b2s h
    have cx8 := ok_X10_refuses (fr := fr - 1) (ν := ν) (by omega) (-1 : Int32) μ hL ex8
    refine tp_callV (pc' := 13) (As := [.int (-1 : Int32)]) (fr1 := fr - 1) (ci := 10) okm_X10_refuses lk_HandRingModel_112 (show decode cX10_terms 10 = .ok (.invokevirtual 112, 3) by decide +kernel) rfl rfl rfl (by decide) (la_o hL (by decide) rfl) rfl rfl (Nat.le_of_ble_eq_true rfl) (by omega) cx8 (st' := [.int x8]) rfl ?_
    replace hL := cx8.1
    cases h
    exact tr_iret rfl (show decode cX10_terms 13 = .ok (.ireturn, 1) by decide +kernel) hL
  · refine tr_if_ne_t (tgt := 14) hc (show decode cX10_terms 5 = .ok (.ifCond .ne 9, 3) by decide +kernel) (by decide) ?_
    refine tr_aload_n (pc' := 15) (show decode cX10_terms 14 = .ok (.aload_n 0, 1) by decide +kernel) rfl rfl rfl ?_
    refine tr_getR (pc' := 18) fl_HandRingModel_24 (show decode cX10_terms 15 = .ok (.getfield 24, 3) by decide +kernel) rfl (la_o hL (by decide) rfl) (la_r hL 118 rfl) ?_
    refine tr_iload_n (pc' := 19) (show decode cX10_terms 18 = .ok (.iload_n 1, 1) by decide +kernel) rfl rfl rfl ?_
    obtain ⟨x2, ex2, h⟩ := hm_bs h
    have cx2 := ok_X10_termAt (fr := fr - 1) (ν := ν) (by omega) v1 μ hL ex2
    refine tp_callS (pc' := 22) (As := [.int v1]) (fr1 := fr - 1) okm_X10_termAt lk_HandRingModel_159 (show decode cX10_terms 19 = .ok (.invokestatic 159, 3) by decide +kernel) rfl rfl rfl (Nat.le_of_ble_eq_true rfl) (by omega) cx2 (st' := [.int x2, .ref 181]) rfl ?_
    obtain ⟨x3, ex3, h⟩ := hm_bs h
    refine tp_ldI (pc' := 23) (show decode cX10_terms 22 = .ok (.iaload, 1) by decide +kernel) rfl (la_a hL (by decide) rfl) ex3 ?_
    refine tr_istore_n (pc' := 24) (lv' := [some (.ref 179), some (.int v1), some (.int v2), some (.int x3)]) (show decode cX10_terms 23 = .ok (.istore_n 3, 1) by decide +kernel) rfl rfl (Nat.le_of_ble_eq_true rfl) rfl rfl ?_
    refine tr_aload_n (pc' := 25) (show decode cX10_terms 24 = .ok (.aload_n 0, 1) by decide +kernel) rfl rfl rfl ?_
    refine tr_getR (pc' := 28) fl_HandRingModel_24 (show decode cX10_terms 25 = .ok (.getfield 24, 3) by decide +kernel) rfl (la_o hL (by decide) rfl) (la_r hL 118 rfl) ?_
    refine tr_iload_n (pc' := 29) (show decode cX10_terms 28 = .ok (.iload_n 1, 1) by decide +kernel) rfl rfl rfl ?_
    obtain ⟨x4, ex4, h⟩ := hm_bs h
    have cx4 := ok_X10_termAt (fr := fr - 1) (ν := ν) (by omega) v1 μ hL ex4
    refine tp_callS (pc' := 32) (As := [.int v1]) (fr1 := fr - 1) okm_X10_termAt lk_HandRingModel_159 (show decode cX10_terms 29 = .ok (.invokestatic 159, 3) by decide +kernel) rfl rfl rfl (Nat.le_of_ble_eq_true rfl) (by omega) cx4 (st' := [.int x4, .ref 181]) rfl ?_
    refine tr_iload_n (pc' := 33) (show decode cX10_terms 32 = .ok (.iload_n 2, 1) by decide +kernel) rfl rfl rfl ?_
    obtain ⟨μ5, eμ5, h⟩ := hm_bs h
    refine tp_sdI (pc' := 34) (show decode cX10_terms 33 = .ok (.iastore, 1) by decide +kernel) rfl (la_a hL (by decide) rfl) eμ5 ?_
    replace hL := hL.same (hm_sd_s eμ5)
    refine tr_aload_n (pc' := 35) (show decode cX10_terms 34 = .ok (.aload_n 0, 1) by decide +kernel) rfl rfl rfl ?_
    refine tr_iload_n (pc' := 36) (show decode cX10_terms 35 = .ok (.iload_n 3, 1) by decide +kernel) rfl rfl rfl ?_
    obtain ⟨x6, μ7, ex6, h⟩ := hm_b2s h
    have cx6 := ok_X10_settled (fr := fr - 1) (ν := ν) (by omega) x3 μ5 hL ex6
    refine tp_callV (pc' := 39) (As := [.int x3]) (fr1 := fr - 1) (ci := 10) okm_X10_settled lk_HandRingModel_115 (show decode cX10_terms 36 = .ok (.invokevirtual 115, 3) by decide +kernel) rfl rfl rfl (by decide) (la_o hL (by decide) rfl) rfl rfl (Nat.le_of_ble_eq_true rfl) (by omega) cx6 (st' := [.int x6]) rfl ?_
    replace hL := cx6.1
    cases h
    exact tr_iret rfl (show decode cX10_terms 39 = .ok (.ireturn, 1) by decide +kernel) hL
def f_X10_cellAt (v0 : Int32) (v1 : Int32) : Option Int32 :=
  (if v1 < (1 : Int32) ∨ (3 : Int32) < v1 then
  (if (v0 - v0 / (5 : Int32) * (5 : Int32)) ≤ 0 then
  some (-1 : Int32)
  else
  some (v0 - (1 : Int32)))
  else
  (if v1 = (1 : Int32) then
  (if (25 : Int32) ≤ (v0 + (5 : Int32)) then
  some (-1 : Int32)
  else
  some (v0 + (5 : Int32)))
  else
  (if v1 = (2 : Int32) then
  (if (4 : Int32) ≤ (v0 - v0 / (5 : Int32) * (5 : Int32)) then
  some (-1 : Int32)
  else
  some (v0 + (1 : Int32)))
  else
  (if v1 = (3 : Int32) then
  (if v0 < (5 : Int32) then
  some (-1 : Int32)
  else
  some (v0 - (5 : Int32)))
  else
  none))))
set_option maxRecDepth 100000 in
theorem ok_X10_cellAt {fr : Nat} (hfr : 0 ≤ fr) {ν : hm_N} {r : Int32}  (v0 : Int32) (v1 : Int32)  (μ : hm_M) (hL : hm_LL ν μ) (h : f_X10_cellAt v0 v1 = some r) : hm_CC (hm_LL ν) m_X10_cellAt fr 0 0 [.int v0, .int v1] μ (some (.int r)) μ := by
  refine hm_enter (lv := [some (.int v0), some (.int v1)]) (by decide) rfl (Nat.le_of_ble_eq_true rfl) ?_
  unfold f_X10_cellAt at h
  refine tr_iload_n (pc' := 1) (show decode cX10_cellAt 0 = .ok (.iload_n 1, 1) by decide +kernel) rfl rfl rfl ?_
  rcases hm_is h with ⟨hc, h⟩ | ⟨-, h⟩
  · refine tp_tout (tgt := 72) hc (by decide) (by decide) (show decode cX10_cellAt 1 = .ok (.tableswitch 71 1 3 #[27, 43, 58], 27) by decide +kernel) (by decide) ?_
    refine tr_iload_n (pc' := 73) (show decode cX10_cellAt 72 = .ok (.iload_n 0, 1) by decide +kernel) rfl rfl rfl ?_
    refine tr_iconst (pc' := 74) (v := (5 : Int32)) (show decode cX10_cellAt 73 = .ok (.iconst 5, 1) by decide +kernel) rfl (by decide) ?_
    refine tr_irem (pc' := 75) (show decode cX10_cellAt 74 = .ok (.irem, 1) by decide +kernel) rfl (by decide) ?_
    rcases hm_is h with ⟨hc, h⟩ | ⟨hc, h⟩
    · refine tr_if_le_t (tgt := 84) hc (show decode cX10_cellAt 75 = .ok (.ifCond .le 9, 3) by decide +kernel) (by decide) ?_
      refine tr_iconst (pc' := 85) (v := (-1 : Int32)) (show decode cX10_cellAt 84 = .ok (.iconst (-1), 1) by decide +kernel) rfl (by decide) ?_
      cases h
      exact tr_iret rfl (show decode cX10_cellAt 85 = .ok (.ireturn, 1) by decide +kernel) hL
    · refine tr_if_le_f (tgt := 84) (pc' := 78) hc (show decode cX10_cellAt 75 = .ok (.ifCond .le 9, 3) by decide +kernel) (by decide) rfl ?_
      refine tr_iload_n (pc' := 79) (show decode cX10_cellAt 78 = .ok (.iload_n 0, 1) by decide +kernel) rfl rfl rfl ?_
      refine tr_iconst (pc' := 80) (v := (1 : Int32)) (show decode cX10_cellAt 79 = .ok (.iconst 1, 1) by decide +kernel) rfl (by decide) ?_
      refine tr_isub (pc' := 81) (show decode cX10_cellAt 80 = .ok (.isub, 1) by decide +kernel) rfl ?_
      refine tr_goto (tgt := 85) (show decode cX10_cellAt 81 = .ok (.goto 4, 3) by decide +kernel) rfl ?_
      cases h
      exact tr_iret rfl (show decode cX10_cellAt 85 = .ok (.ireturn, 1) by decide +kernel) hL
  · rcases hm_is h with ⟨hc, h⟩ | ⟨-, h⟩
    · refine tp_tin (tgt := 28) (off := 27) hc (show decode cX10_cellAt 1 = .ok (.tableswitch 71 1 3 #[27, 43, 58], 27) by decide +kernel) (by decide) (by decide) (by decide) (by decide) ?_
      refine tr_iload_n (pc' := 29) (show decode cX10_cellAt 28 = .ok (.iload_n 0, 1) by decide +kernel) rfl rfl rfl ?_
      refine tr_iconst (pc' := 30) (v := (5 : Int32)) (show decode cX10_cellAt 29 = .ok (.iconst 5, 1) by decide +kernel) rfl (by decide) ?_
      refine tr_iadd (pc' := 31) (show decode cX10_cellAt 30 = .ok (.iadd, 1) by decide +kernel) rfl ?_
      refine tr_bipush (pc' := 33) (v := (25 : Int32)) (show decode cX10_cellAt 31 = .ok (.bipush 25, 2) by decide +kernel) rfl (by decide) ?_
      rcases hm_is h with ⟨hc, h⟩ | ⟨hc, h⟩
      · refine tr_icmp_ge_t (tgt := 42) hc (show decode cX10_cellAt 33 = .ok (.if_icmp .ge 9, 3) by decide +kernel) (by decide) ?_
        refine tr_iconst (pc' := 43) (v := (-1 : Int32)) (show decode cX10_cellAt 42 = .ok (.iconst (-1), 1) by decide +kernel) rfl (by decide) ?_
        cases h
        exact tr_iret rfl (show decode cX10_cellAt 43 = .ok (.ireturn, 1) by decide +kernel) hL
      · refine tr_icmp_ge_f (tgt := 42) (pc' := 36) hc (show decode cX10_cellAt 33 = .ok (.if_icmp .ge 9, 3) by decide +kernel) (by decide) rfl ?_
        refine tr_iload_n (pc' := 37) (show decode cX10_cellAt 36 = .ok (.iload_n 0, 1) by decide +kernel) rfl rfl rfl ?_
        refine tr_iconst (pc' := 38) (v := (5 : Int32)) (show decode cX10_cellAt 37 = .ok (.iconst 5, 1) by decide +kernel) rfl (by decide) ?_
        refine tr_iadd (pc' := 39) (show decode cX10_cellAt 38 = .ok (.iadd, 1) by decide +kernel) rfl ?_
        refine tr_goto (tgt := 43) (show decode cX10_cellAt 39 = .ok (.goto 4, 3) by decide +kernel) rfl ?_
        cases h
        exact tr_iret rfl (show decode cX10_cellAt 43 = .ok (.ireturn, 1) by decide +kernel) hL
    · rcases hm_is h with ⟨hc, h⟩ | ⟨-, h⟩
      · refine tp_tin (tgt := 44) (off := 43) hc (show decode cX10_cellAt 1 = .ok (.tableswitch 71 1 3 #[27, 43, 58], 27) by decide +kernel) (by decide) (by decide) (by decide) (by decide) ?_
        refine tr_iload_n (pc' := 45) (show decode cX10_cellAt 44 = .ok (.iload_n 0, 1) by decide +kernel) rfl rfl rfl ?_
        refine tr_iconst (pc' := 46) (v := (5 : Int32)) (show decode cX10_cellAt 45 = .ok (.iconst 5, 1) by decide +kernel) rfl (by decide) ?_
        refine tr_irem (pc' := 47) (show decode cX10_cellAt 46 = .ok (.irem, 1) by decide +kernel) rfl (by decide) ?_
        refine tr_iconst (pc' := 48) (v := (4 : Int32)) (show decode cX10_cellAt 47 = .ok (.iconst 4, 1) by decide +kernel) rfl (by decide) ?_
        rcases hm_is h with ⟨hc, h⟩ | ⟨hc, h⟩
        · refine tr_icmp_ge_t (tgt := 57) hc (show decode cX10_cellAt 48 = .ok (.if_icmp .ge 9, 3) by decide +kernel) (by decide) ?_
          refine tr_iconst (pc' := 58) (v := (-1 : Int32)) (show decode cX10_cellAt 57 = .ok (.iconst (-1), 1) by decide +kernel) rfl (by decide) ?_
          cases h
          exact tr_iret rfl (show decode cX10_cellAt 58 = .ok (.ireturn, 1) by decide +kernel) hL
        · refine tr_icmp_ge_f (tgt := 57) (pc' := 51) hc (show decode cX10_cellAt 48 = .ok (.if_icmp .ge 9, 3) by decide +kernel) (by decide) rfl ?_
          refine tr_iload_n (pc' := 52) (show decode cX10_cellAt 51 = .ok (.iload_n 0, 1) by decide +kernel) rfl rfl rfl ?_
          refine tr_iconst (pc' := 53) (v := (1 : Int32)) (show decode cX10_cellAt 52 = .ok (.iconst 1, 1) by decide +kernel) rfl (by decide) ?_
          refine tr_iadd (pc' := 54) (show decode cX10_cellAt 53 = .ok (.iadd, 1) by decide +kernel) rfl ?_
          refine tr_goto (tgt := 58) (show decode cX10_cellAt 54 = .ok (.goto 4, 3) by decide +kernel) rfl ?_
          cases h
          exact tr_iret rfl (show decode cX10_cellAt 58 = .ok (.ireturn, 1) by decide +kernel) hL
      · rcases hm_is h with ⟨hc, h⟩ | ⟨-, h⟩
        · refine tp_tin (tgt := 59) (off := 58) hc (show decode cX10_cellAt 1 = .ok (.tableswitch 71 1 3 #[27, 43, 58], 27) by decide +kernel) (by decide) (by decide) (by decide) (by decide) ?_
          refine tr_iload_n (pc' := 60) (show decode cX10_cellAt 59 = .ok (.iload_n 0, 1) by decide +kernel) rfl rfl rfl ?_
          refine tr_iconst (pc' := 61) (v := (5 : Int32)) (show decode cX10_cellAt 60 = .ok (.iconst 5, 1) by decide +kernel) rfl (by decide) ?_
          rcases hm_is h with ⟨hc, h⟩ | ⟨hc, h⟩
          · refine tr_icmp_lt_t (tgt := 70) hc (show decode cX10_cellAt 61 = .ok (.if_icmp .lt 9, 3) by decide +kernel) (by decide) ?_
            refine tr_iconst (pc' := 71) (v := (-1 : Int32)) (show decode cX10_cellAt 70 = .ok (.iconst (-1), 1) by decide +kernel) rfl (by decide) ?_
            cases h
            exact tr_iret rfl (show decode cX10_cellAt 71 = .ok (.ireturn, 1) by decide +kernel) hL
          · refine tr_icmp_lt_f (tgt := 70) (pc' := 64) hc (show decode cX10_cellAt 61 = .ok (.if_icmp .lt 9, 3) by decide +kernel) (by decide) rfl ?_
            refine tr_iload_n (pc' := 65) (show decode cX10_cellAt 64 = .ok (.iload_n 0, 1) by decide +kernel) rfl rfl rfl ?_
            refine tr_iconst (pc' := 66) (v := (5 : Int32)) (show decode cX10_cellAt 65 = .ok (.iconst 5, 1) by decide +kernel) rfl (by decide) ?_
            refine tr_isub (pc' := 67) (show decode cX10_cellAt 66 = .ok (.isub, 1) by decide +kernel) rfl ?_
            refine tr_goto (tgt := 71) (show decode cX10_cellAt 67 = .ok (.goto 4, 3) by decide +kernel) rfl ?_
            cases h
            exact tr_iret rfl (show decode cX10_cellAt 71 = .ok (.ireturn, 1) by decide +kernel) hL
        · cases h
def f_X10_row_J150 (w40_1 : Int32) (c40 : Int32 → Int32 → hm_M → Option (Int32 × hm_M)) (e160 : Int32 → hm_M → Option (Int32 × hm_M)) (s0 : Int32) (s1 : Int32) (y2 : Int32) (y3 : Int32) (μ1 : hm_M) : Option (Int32 × hm_M) :=
  Option.bind (hm_pI μ1 179 6 (s1 + s0)) fun μ4 =>
  c40 y2 (y3 + (3 : Int32)) μ4
theorem ok_X10_row_J150 {fr : Nat} (hfr : 2 ≤ fr) {ν : hm_N} {r : Int32} {μR : hm_M}  (w40_1 : Int32) (c40 : Int32 → Int32 → hm_M → Option (Int32 × hm_M)) (e160 : Int32 → hm_M → Option (Int32 × hm_M)) (hc40 : ∀ (y2 : Int32) (y3 : Int32) (μ1 : hm_M), hm_LL ν μ1 → c40 y2 y3 μ1 = some (r, μR) → hm_T (hm_LL ν) m_X10_row fr 0 0 (some (.int r)) μR 40 [some (.ref 179), some (.int w40_1), some (.int y2), some (.int y3), none] [] μ1) (he160 : ∀ (y2 : Int32) (μ1 : hm_M), hm_LL ν μ1 → e160 y2 μ1 = some (r, μR) → hm_T (hm_LL ν) m_X10_row fr 0 0 (some (.int r)) μR 160 [some (.ref 179), none, some (.int y2), none, none] [] μ1)   (s0 : Int32) (s1 : Int32) (y2 : Int32) (y3 : Int32) (μ1 : hm_M) (hL : hm_LL ν μ1) (h : f_X10_row_J150 w40_1 c40 e160 s0 s1 y2 y3 μ1 = some (r, μR)) : hm_T (hm_LL ν) m_X10_row fr 0 0 (some (.int r)) μR 150 [some (.ref 179), some (.int w40_1), some (.int y2), some (.int y3), none] [.int s0, .int s1, .ref 179] μ1 := by
  unfold f_X10_row_J150 at h
  refine tr_iadd (pc' := 151) (show decode cX10_row 150 = .ok (.iadd, 1) by decide +kernel) rfl ?_
  obtain ⟨μ4, eμ4, h⟩ := hm_bs h
  refine tp_pI (pc' := 154) fl_HandRingModel_165 (show decode cX10_row 151 = .ok (.putfield 165, 3) by decide +kernel) rfl (la_o hL (by decide) rfl) eμ4 ?_
  replace hL := hL.same (hm_pI_s eμ4)
  refine tr_iinc (pc' := 157) (v := y3 + (3 : Int32)) (lv' := [some (.ref 179), some (.int w40_1), some (.int y2), some (.int (y3 + (3 : Int32))), none]) (show decode cX10_row 154 = .ok (.iinc 3 3, 3) by decide +kernel) rfl rfl rfl (Nat.le_of_ble_eq_true rfl) rfl rfl ?_
  refine tr_goto (tgt := 40) (show decode cX10_row 157 = .ok (.goto (-117), 3) by decide +kernel) rfl ?_
  exact hc40 y2 (y3 + (3 : Int32)) μ4 hL h
def f_X10_row_J133 (w40_1 : Int32) (c40 : Int32 → Int32 → hm_M → Option (Int32 × hm_M)) (e160 : Int32 → hm_M → Option (Int32 × hm_M)) (s0 : Int32) (s1 : Int32) (y3 : Int32) (y4 : Int32) (μ1 : hm_M) : Option (Int32 × hm_M) :=
  (if y4 = 0 then
  f_X10_row_J150 w40_1 c40 e160 (1 : Int32) (μ1.1 179 6) (s1 + s0) y3 μ1
  else
  f_X10_row_J150 w40_1 c40 e160 (0 : Int32) (μ1.1 179 6) (s1 + s0) y3 μ1)
theorem ok_X10_row_J133 {fr : Nat} (hfr : 2 ≤ fr) {ν : hm_N} {r : Int32} {μR : hm_M}  (w40_1 : Int32) (c40 : Int32 → Int32 → hm_M → Option (Int32 × hm_M)) (e160 : Int32 → hm_M → Option (Int32 × hm_M)) (hc40 : ∀ (y2 : Int32) (y3 : Int32) (μ1 : hm_M), hm_LL ν μ1 → c40 y2 y3 μ1 = some (r, μR) → hm_T (hm_LL ν) m_X10_row fr 0 0 (some (.int r)) μR 40 [some (.ref 179), some (.int w40_1), some (.int y2), some (.int y3), none] [] μ1) (he160 : ∀ (y2 : Int32) (μ1 : hm_M), hm_LL ν μ1 → e160 y2 μ1 = some (r, μR) → hm_T (hm_LL ν) m_X10_row fr 0 0 (some (.int r)) μR 160 [some (.ref 179), none, some (.int y2), none, none] [] μ1)   (s0 : Int32) (s1 : Int32) (y3 : Int32) (y4 : Int32) (μ1 : hm_M) (hL : hm_LL ν μ1) (h : f_X10_row_J133 w40_1 c40 e160 s0 s1 y3 y4 μ1 = some (r, μR)) : hm_T (hm_LL ν) m_X10_row fr 0 0 (some (.int r)) μR 133 [some (.ref 179), some (.int w40_1), none, some (.int y3), some (.int y4)] [.int s0, .int s1] μ1 := by
  unfold f_X10_row_J133 at h
  refine tr_iadd (pc' := 134) (show decode cX10_row 133 = .ok (.iadd, 1) by decide +kernel) rfl ?_
  refine tr_istore_n (pc' := 135) (lv' := [some (.ref 179), some (.int w40_1), some (.int (s1 + s0)), some (.int y3), some (.int y4)]) (show decode cX10_row 134 = .ok (.istore_n 2, 1) by decide +kernel) rfl rfl (Nat.le_of_ble_eq_true rfl) rfl rfl ?_
  refine tr_aload_n (pc' := 136) (show decode cX10_row 135 = .ok (.aload_n 0, 1) by decide +kernel) rfl rfl rfl ?_
  refine tr_dup (pc' := 137) (show decode cX10_row 136 = .ok (.dup, 1) by decide +kernel) rfl rfl ?_
  refine tr_getI (pc' := 140) fl_HandRingModel_165 (show decode cX10_row 137 = .ok (.getfield 165, 3) by decide +kernel) rfl (la_o hL (by decide) rfl) ?_
  refine tr_iload (pc' := 142) (show decode cX10_row 140 = .ok (.iload 4, 2) by decide +kernel) rfl rfl ?_
  rcases hm_is h with ⟨hc, h⟩ | ⟨hc, h⟩
  · refine tr_if_eq_t (tgt := 149) hc (show decode cX10_row 142 = .ok (.ifCond .eq 7, 3) by decide +kernel) (by decide) ?_
    refine tr_iconst (pc' := 150) (v := (1 : Int32)) (show decode cX10_row 149 = .ok (.iconst 1, 1) by decide +kernel) rfl (by decide) ?_
    refine hm_fgt [true, true, true, true, false] (lv' := [some (.ref 179), some (.int w40_1), some (.int (s1 + s0)), some (.int y3), none]) rfl ?_
    exact ok_X10_row_J150 hfr w40_1 c40 e160 hc40 he160 (1 : Int32) (μ1.1 179 6) (s1 + s0) y3 μ1 hL h
  · refine tr_if_eq_f (tgt := 149) (pc' := 145) hc (show decode cX10_row 142 = .ok (.ifCond .eq 7, 3) by decide +kernel) (by decide) rfl ?_
    refine tr_iconst (pc' := 146) (v := (0 : Int32)) (show decode cX10_row 145 = .ok (.iconst 0, 1) by decide +kernel) rfl (by decide) ?_
    refine tr_goto (tgt := 150) (show decode cX10_row 146 = .ok (.goto 4, 3) by decide +kernel) rfl ?_
    refine hm_fgt [true, true, true, true, false] (lv' := [some (.ref 179), some (.int w40_1), some (.int (s1 + s0)), some (.int y3), none]) rfl ?_
    exact ok_X10_row_J150 hfr w40_1 c40 e160 hc40 he160 (0 : Int32) (μ1.1 179 6) (s1 + s0) y3 μ1 hL h
def f_X10_row_J122 (w40_1 : Int32) (c40 : Int32 → Int32 → hm_M → Option (Int32 × hm_M)) (e160 : Int32 → hm_M → Option (Int32 × hm_M)) (y2 : Int32) (y3 : Int32) (y4 : Int32) (μ1 : hm_M) : Option (Int32 × hm_M) :=
  (if y4 = 0 then
  f_X10_row_J133 w40_1 c40 e160 (0 : Int32) y2 y3 y4 μ1
  else
  f_X10_row_J133 w40_1 c40 e160 (1 : Int32) y2 y3 y4 μ1)
theorem ok_X10_row_J122 {fr : Nat} (hfr : 2 ≤ fr) {ν : hm_N} {r : Int32} {μR : hm_M}  (w40_1 : Int32) (c40 : Int32 → Int32 → hm_M → Option (Int32 × hm_M)) (e160 : Int32 → hm_M → Option (Int32 × hm_M)) (hc40 : ∀ (y2 : Int32) (y3 : Int32) (μ1 : hm_M), hm_LL ν μ1 → c40 y2 y3 μ1 = some (r, μR) → hm_T (hm_LL ν) m_X10_row fr 0 0 (some (.int r)) μR 40 [some (.ref 179), some (.int w40_1), some (.int y2), some (.int y3), none] [] μ1) (he160 : ∀ (y2 : Int32) (μ1 : hm_M), hm_LL ν μ1 → e160 y2 μ1 = some (r, μR) → hm_T (hm_LL ν) m_X10_row fr 0 0 (some (.int r)) μR 160 [some (.ref 179), none, some (.int y2), none, none] [] μ1)   (y2 : Int32) (y3 : Int32) (y4 : Int32) (μ1 : hm_M) (hL : hm_LL ν μ1) (h : f_X10_row_J122 w40_1 c40 e160 y2 y3 y4 μ1 = some (r, μR)) : hm_T (hm_LL ν) m_X10_row fr 0 0 (some (.int r)) μR 122 [some (.ref 179), some (.int w40_1), some (.int y2), some (.int y3), some (.int y4)] [] μ1 := by
  unfold f_X10_row_J122 at h
  refine tr_iload_n (pc' := 123) (show decode cX10_row 122 = .ok (.iload_n 2, 1) by decide +kernel) rfl rfl rfl ?_
  refine tr_iload (pc' := 125) (show decode cX10_row 123 = .ok (.iload 4, 2) by decide +kernel) rfl rfl ?_
  rcases hm_is h with ⟨hc, h⟩ | ⟨hc, h⟩
  · refine tr_if_eq_t (tgt := 132) hc (show decode cX10_row 125 = .ok (.ifCond .eq 7, 3) by decide +kernel) (by decide) ?_
    refine tr_iconst (pc' := 133) (v := (0 : Int32)) (show decode cX10_row 132 = .ok (.iconst 0, 1) by decide +kernel) rfl (by decide) ?_
    refine hm_fgt [true, true, false, true, true] (lv' := [some (.ref 179), some (.int w40_1), none, some (.int y3), some (.int y4)]) rfl ?_
    exact ok_X10_row_J133 hfr w40_1 c40 e160 hc40 he160 (0 : Int32) y2 y3 y4 μ1 hL h
  · refine tr_if_eq_f (tgt := 132) (pc' := 128) hc (show decode cX10_row 125 = .ok (.ifCond .eq 7, 3) by decide +kernel) (by decide) rfl ?_
    refine tr_iconst (pc' := 129) (v := (1 : Int32)) (show decode cX10_row 128 = .ok (.iconst 1, 1) by decide +kernel) rfl (by decide) ?_
    refine tr_goto (tgt := 133) (show decode cX10_row 129 = .ok (.goto 4, 3) by decide +kernel) rfl ?_
    refine hm_fgt [true, true, false, true, true] (lv' := [some (.ref 179), some (.int w40_1), none, some (.int y3), some (.int y4)]) rfl ?_
    exact ok_X10_row_J133 hfr w40_1 c40 e160 hc40 he160 (1 : Int32) y2 y3 y4 μ1 hL h
def f_X10_row_J89 (w40_1 : Int32) (c40 : Int32 → Int32 → hm_M → Option (Int32 × hm_M)) (e160 : Int32 → hm_M → Option (Int32 × hm_M)) (s0 : Int32) (y2 : Int32) (y3 : Int32) (μ1 : hm_M) : Option (Int32 × hm_M) :=
  (if s0 = 0 then
  f_X10_row_J122 w40_1 c40 e160 y2 y3 s0 μ1
  else
  Option.bind (hm_ld μ1 186 400 y3) fun x5 =>
  Option.bind (hm_ld μ1 186 400 (y3 + (1 : Int32))) fun x6 =>
  Option.bind (hm_ld μ1 186 400 (y3 + (2 : Int32))) fun x7 =>
  Option.bind (f_X10_adds x5 x6 x7 μ1) fun μ9 =>
  f_X10_row_J122 w40_1 c40 e160 y2 y3 s0 μ9)
theorem ok_X10_row_J89 {fr : Nat} (hfr : 2 ≤ fr) {ν : hm_N} {r : Int32} {μR : hm_M}  (w40_1 : Int32) (c40 : Int32 → Int32 → hm_M → Option (Int32 × hm_M)) (e160 : Int32 → hm_M → Option (Int32 × hm_M)) (hc40 : ∀ (y2 : Int32) (y3 : Int32) (μ1 : hm_M), hm_LL ν μ1 → c40 y2 y3 μ1 = some (r, μR) → hm_T (hm_LL ν) m_X10_row fr 0 0 (some (.int r)) μR 40 [some (.ref 179), some (.int w40_1), some (.int y2), some (.int y3), none] [] μ1) (he160 : ∀ (y2 : Int32) (μ1 : hm_M), hm_LL ν μ1 → e160 y2 μ1 = some (r, μR) → hm_T (hm_LL ν) m_X10_row fr 0 0 (some (.int r)) μR 160 [some (.ref 179), none, some (.int y2), none, none] [] μ1)   (s0 : Int32) (y2 : Int32) (y3 : Int32) (μ1 : hm_M) (hL : hm_LL ν μ1) (h : f_X10_row_J89 w40_1 c40 e160 s0 y2 y3 μ1 = some (r, μR)) : hm_T (hm_LL ν) m_X10_row fr 0 0 (some (.int r)) μR 89 [some (.ref 179), some (.int w40_1), some (.int y2), some (.int y3), none] [.int s0] μ1 := by
  unfold f_X10_row_J89 at h
  refine tr_istore (pc' := 91) (lv' := [some (.ref 179), some (.int w40_1), some (.int y2), some (.int y3), some (.int s0)]) (show decode cX10_row 89 = .ok (.istore 4, 2) by decide +kernel) rfl (Nat.le_of_ble_eq_true rfl) rfl rfl ?_
  refine tr_iload (pc' := 93) (show decode cX10_row 91 = .ok (.iload 4, 2) by decide +kernel) rfl rfl ?_
  rcases hm_is h with ⟨hc, h⟩ | ⟨hc, h⟩
  · refine tr_if_eq_t (tgt := 122) hc (show decode cX10_row 93 = .ok (.ifCond .eq 29, 3) by decide +kernel) (by decide) ?_
    exact ok_X10_row_J122 hfr w40_1 c40 e160 hc40 he160 y2 y3 s0 μ1 hL h
  · refine tr_if_eq_f (tgt := 122) (pc' := 96) hc (show decode cX10_row 93 = .ok (.ifCond .eq 29, 3) by decide +kernel) (by decide) rfl ?_
    refine tr_aload_n (pc' := 97) (show decode cX10_row 96 = .ok (.aload_n 0, 1) by decide +kernel) rfl rfl rfl ?_
    refine tr_aload_n (pc' := 98) (show decode cX10_row 97 = .ok (.aload_n 0, 1) by decide +kernel) rfl rfl rfl ?_
    refine tr_getR (pc' := 101) fl_HandRingModel_41 (show decode cX10_row 98 = .ok (.getfield 41, 3) by decide +kernel) rfl (la_o hL (by decide) rfl) (la_r hL 123 rfl) ?_
    refine tr_iload_n (pc' := 102) (show decode cX10_row 101 = .ok (.iload_n 3, 1) by decide +kernel) rfl rfl rfl ?_
    obtain ⟨x5, ex5, h⟩ := hm_bs h
    refine tp_ldB (pc' := 103) (show decode cX10_row 102 = .ok (.baload, 1) by decide +kernel) rfl (la_a hL (by decide) rfl) ex5 ?_
    refine tr_aload_n (pc' := 104) (show decode cX10_row 103 = .ok (.aload_n 0, 1) by decide +kernel) rfl rfl rfl ?_
    refine tr_getR (pc' := 107) fl_HandRingModel_41 (show decode cX10_row 104 = .ok (.getfield 41, 3) by decide +kernel) rfl (la_o hL (by decide) rfl) (la_r hL 123 rfl) ?_
    refine tr_iload_n (pc' := 108) (show decode cX10_row 107 = .ok (.iload_n 3, 1) by decide +kernel) rfl rfl rfl ?_
    refine tr_iconst (pc' := 109) (v := (1 : Int32)) (show decode cX10_row 108 = .ok (.iconst 1, 1) by decide +kernel) rfl (by decide) ?_
    refine tr_iadd (pc' := 110) (show decode cX10_row 109 = .ok (.iadd, 1) by decide +kernel) rfl ?_
    obtain ⟨x6, ex6, h⟩ := hm_bs h
    refine tp_ldB (pc' := 111) (show decode cX10_row 110 = .ok (.baload, 1) by decide +kernel) rfl (la_a hL (by decide) rfl) ex6 ?_
    refine tr_aload_n (pc' := 112) (show decode cX10_row 111 = .ok (.aload_n 0, 1) by decide +kernel) rfl rfl rfl ?_
    refine tr_getR (pc' := 115) fl_HandRingModel_41 (show decode cX10_row 112 = .ok (.getfield 41, 3) by decide +kernel) rfl (la_o hL (by decide) rfl) (la_r hL 123 rfl) ?_
    refine tr_iload_n (pc' := 116) (show decode cX10_row 115 = .ok (.iload_n 3, 1) by decide +kernel) rfl rfl rfl ?_
    refine tr_iconst (pc' := 117) (v := (2 : Int32)) (show decode cX10_row 116 = .ok (.iconst 2, 1) by decide +kernel) rfl (by decide) ?_
    refine tr_iadd (pc' := 118) (show decode cX10_row 117 = .ok (.iadd, 1) by decide +kernel) rfl ?_
    obtain ⟨x7, ex7, h⟩ := hm_bs h
    refine tp_ldB (pc' := 119) (show decode cX10_row 118 = .ok (.baload, 1) by decide +kernel) rfl (la_a hL (by decide) rfl) ex7 ?_
    obtain ⟨μ9, ex8, h⟩ := hm_bs h
    have cx8 := ok_X10_adds (fr := fr - 1) (ν := ν) (by omega) x5 x6 x7 μ1 hL ex8
    refine tp_callV (pc' := 122) (As := [.int x5, .int x6, .int x7]) (fr1 := fr - 1) (ci := 10) okm_X10_adds lk_HandRingModel_129 (show decode cX10_row 119 = .ok (.invokevirtual 129, 3) by decide +kernel) rfl rfl rfl (by decide) (la_o hL (by decide) rfl) rfl rfl (Nat.le_of_ble_eq_true rfl) (by omega) cx8 (st' := []) rfl ?_
    replace hL := cx8.1
    exact ok_X10_row_J122 hfr w40_1 c40 e160 hc40 he160 y2 y3 s0 μ9 hL h
def f_X10_row_J88 (w40_1 : Int32) (c40 : Int32 → Int32 → hm_M → Option (Int32 × hm_M)) (e160 : Int32 → hm_M → Option (Int32 × hm_M)) (y2 : Int32) (y3 : Int32) (μ1 : hm_M) : Option (Int32 × hm_M) :=
  f_X10_row_J89 w40_1 c40 e160 (0 : Int32) y2 y3 μ1
theorem ok_X10_row_J88 {fr : Nat} (hfr : 2 ≤ fr) {ν : hm_N} {r : Int32} {μR : hm_M}  (w40_1 : Int32) (c40 : Int32 → Int32 → hm_M → Option (Int32 × hm_M)) (e160 : Int32 → hm_M → Option (Int32 × hm_M)) (hc40 : ∀ (y2 : Int32) (y3 : Int32) (μ1 : hm_M), hm_LL ν μ1 → c40 y2 y3 μ1 = some (r, μR) → hm_T (hm_LL ν) m_X10_row fr 0 0 (some (.int r)) μR 40 [some (.ref 179), some (.int w40_1), some (.int y2), some (.int y3), none] [] μ1) (he160 : ∀ (y2 : Int32) (μ1 : hm_M), hm_LL ν μ1 → e160 y2 μ1 = some (r, μR) → hm_T (hm_LL ν) m_X10_row fr 0 0 (some (.int r)) μR 160 [some (.ref 179), none, some (.int y2), none, none] [] μ1)   (y2 : Int32) (y3 : Int32) (μ1 : hm_M) (hL : hm_LL ν μ1) (h : f_X10_row_J88 w40_1 c40 e160 y2 y3 μ1 = some (r, μR)) : hm_T (hm_LL ν) m_X10_row fr 0 0 (some (.int r)) μR 88 [some (.ref 179), some (.int w40_1), some (.int y2), some (.int y3), none] [] μ1 := by
  unfold f_X10_row_J88 at h
  refine tr_iconst (pc' := 89) (v := (0 : Int32)) (show decode cX10_row 88 = .ok (.iconst 0, 1) by decide +kernel) rfl (by decide) ?_
  exact ok_X10_row_J89 hfr w40_1 c40 e160 hc40 he160 (0 : Int32) y2 y3 μ1 hL h
def f_X10_row_L40 (w40_1 : Int32) (e160 : Int32 → hm_M → Option (Int32 × hm_M)) : Nat → Int32 → Int32 → hm_M → Option (Int32 × hm_M)
  | 0, _, _, _ => none
  | n + 1, y2, y3, μ1 => (if w40_1 < (y3 + (3 : Int32)) then
  e160 y2 μ1
  else
  Option.bind (f_X10_many μ1) fun x3 =>
  (if (8 : Int32) ≤ x3 then
  f_X10_row_J88 w40_1 (f_X10_row_L40 w40_1 e160 n) e160 y2 y3 μ1
  else
  Option.bind (hm_ld μ1 186 400 y3) fun x10 =>
  Option.bind (hm_ld μ1 186 400 (y3 + (1 : Int32))) fun x11 =>
  Option.bind (hm_ld μ1 186 400 (y3 + (2 : Int32))) fun x12 =>
  Option.bind (f_X10_canBe x10 x11 x12) fun x13 =>
  (if x13 = 0 then
  f_X10_row_J88 w40_1 (f_X10_row_L40 w40_1 e160 n) e160 y2 y3 μ1
  else
  f_X10_row_J89 w40_1 (f_X10_row_L40 w40_1 e160 n) e160 (1 : Int32) y2 y3 μ1)))
theorem ok_X10_row_L40 {fr : Nat} (hfr : 2 ≤ fr) {ν : hm_N} {r : Int32} {μR : hm_M}  (w40_1 : Int32) (e160 : Int32 → hm_M → Option (Int32 × hm_M))  (he160 : ∀ (y2 : Int32) (μ1 : hm_M), hm_LL ν μ1 → e160 y2 μ1 = some (r, μR) → hm_T (hm_LL ν) m_X10_row fr 0 0 (some (.int r)) μR 160 [some (.ref 179), none, some (.int y2), none, none] [] μ1)   : ∀ (n : Nat) (y2 : Int32) (y3 : Int32) (μ1 : hm_M), hm_LL ν μ1 → f_X10_row_L40 w40_1 e160 n y2 y3 μ1 = some (r, μR) → hm_T (hm_LL ν) m_X10_row fr 0 0 (some (.int r)) μR 40 [some (.ref 179), some (.int w40_1), some (.int y2), some (.int y3), none] [] μ1 := by
  intro n
  induction n with
  | zero =>
    intro y2 y3 μ1 hL h
    unfold f_X10_row_L40 at h
    cases h
  | succ n ih =>
    intro y2 y3 μ1 hL h
    unfold f_X10_row_L40 at h
    refine tr_iload_n (pc' := 41) (show decode cX10_row 40 = .ok (.iload_n 3, 1) by decide +kernel) rfl rfl rfl ?_
    refine tr_iconst (pc' := 42) (v := (3 : Int32)) (show decode cX10_row 41 = .ok (.iconst 3, 1) by decide +kernel) rfl (by decide) ?_
    refine tr_iadd (pc' := 43) (show decode cX10_row 42 = .ok (.iadd, 1) by decide +kernel) rfl ?_
    refine tr_iload_n (pc' := 44) (show decode cX10_row 43 = .ok (.iload_n 1, 1) by decide +kernel) rfl rfl rfl ?_
    rcases hm_is h with ⟨hc, h⟩ | ⟨hc, h⟩
    · refine tr_icmp_gt_t (tgt := 160) hc (show decode cX10_row 44 = .ok (.if_icmp .gt 116, 3) by decide +kernel) (by decide) ?_
      refine hm_fgt [true, false, true, false, false] (lv' := [some (.ref 179), none, some (.int y2), none, none]) rfl ?_
      exact he160 y2 μ1 hL h
    · refine tr_icmp_gt_f (tgt := 160) (pc' := 47) hc (show decode cX10_row 44 = .ok (.if_icmp .gt 116, 3) by decide +kernel) (by decide) rfl ?_
      refine tr_aload_n (pc' := 48) (show decode cX10_row 47 = .ok (.aload_n 0, 1) by decide +kernel) rfl rfl rfl ?_
      obtain ⟨x3, ex3, h⟩ := hm_bs h
      have cx3 := ok_X10_many (fr := fr - 1) (ν := ν) (by omega) μ1 hL ex3
      refine tp_callV (pc' := 51) (As := []) (fr1 := fr - 1) (ci := 10) okm_X10_many lk_HandRingModel_118 (show decode cX10_row 48 = .ok (.invokevirtual 118, 3) by decide +kernel) rfl rfl rfl (by decide) (la_o hL (by decide) rfl) rfl rfl (Nat.le_of_ble_eq_true rfl) (by omega) cx3 (st' := [.int x3]) rfl ?_
      refine tr_bipush (pc' := 53) (v := (8 : Int32)) (show decode cX10_row 51 = .ok (.bipush 8, 2) by decide +kernel) rfl (by decide) ?_
      rcases hm_is h with ⟨hc, h⟩ | ⟨hc, h⟩
      · refine tr_icmp_ge_t (tgt := 88) hc (show decode cX10_row 53 = .ok (.if_icmp .ge 35, 3) by decide +kernel) (by decide) ?_
        exact ok_X10_row_J88 hfr w40_1 (f_X10_row_L40 w40_1 e160 n) e160 ih he160 y2 y3 μ1 hL h
      · refine tr_icmp_ge_f (tgt := 88) (pc' := 56) hc (show decode cX10_row 53 = .ok (.if_icmp .ge 35, 3) by decide +kernel) (by decide) rfl ?_
        refine tr_aload_n (pc' := 57) (show decode cX10_row 56 = .ok (.aload_n 0, 1) by decide +kernel) rfl rfl rfl ?_
        refine tr_getR (pc' := 60) fl_HandRingModel_41 (show decode cX10_row 57 = .ok (.getfield 41, 3) by decide +kernel) rfl (la_o hL (by decide) rfl) (la_r hL 123 rfl) ?_
        refine tr_iload_n (pc' := 61) (show decode cX10_row 60 = .ok (.iload_n 3, 1) by decide +kernel) rfl rfl rfl ?_
        obtain ⟨x10, ex10, h⟩ := hm_bs h
        refine tp_ldB (pc' := 62) (show decode cX10_row 61 = .ok (.baload, 1) by decide +kernel) rfl (la_a hL (by decide) rfl) ex10 ?_
        refine tr_aload_n (pc' := 63) (show decode cX10_row 62 = .ok (.aload_n 0, 1) by decide +kernel) rfl rfl rfl ?_
        refine tr_getR (pc' := 66) fl_HandRingModel_41 (show decode cX10_row 63 = .ok (.getfield 41, 3) by decide +kernel) rfl (la_o hL (by decide) rfl) (la_r hL 123 rfl) ?_
        refine tr_iload_n (pc' := 67) (show decode cX10_row 66 = .ok (.iload_n 3, 1) by decide +kernel) rfl rfl rfl ?_
        refine tr_iconst (pc' := 68) (v := (1 : Int32)) (show decode cX10_row 67 = .ok (.iconst 1, 1) by decide +kernel) rfl (by decide) ?_
        refine tr_iadd (pc' := 69) (show decode cX10_row 68 = .ok (.iadd, 1) by decide +kernel) rfl ?_
        obtain ⟨x11, ex11, h⟩ := hm_bs h
        refine tp_ldB (pc' := 70) (show decode cX10_row 69 = .ok (.baload, 1) by decide +kernel) rfl (la_a hL (by decide) rfl) ex11 ?_
        refine tr_aload_n (pc' := 71) (show decode cX10_row 70 = .ok (.aload_n 0, 1) by decide +kernel) rfl rfl rfl ?_
        refine tr_getR (pc' := 74) fl_HandRingModel_41 (show decode cX10_row 71 = .ok (.getfield 41, 3) by decide +kernel) rfl (la_o hL (by decide) rfl) (la_r hL 123 rfl) ?_
        refine tr_iload_n (pc' := 75) (show decode cX10_row 74 = .ok (.iload_n 3, 1) by decide +kernel) rfl rfl rfl ?_
        refine tr_iconst (pc' := 76) (v := (2 : Int32)) (show decode cX10_row 75 = .ok (.iconst 2, 1) by decide +kernel) rfl (by decide) ?_
        refine tr_iadd (pc' := 77) (show decode cX10_row 76 = .ok (.iadd, 1) by decide +kernel) rfl ?_
        obtain ⟨x12, ex12, h⟩ := hm_bs h
        refine tp_ldB (pc' := 78) (show decode cX10_row 77 = .ok (.baload, 1) by decide +kernel) rfl (la_a hL (by decide) rfl) ex12 ?_
        obtain ⟨x13, ex13, h⟩ := hm_bs h
        have cx13 := ok_X10_canBe (fr := fr - 1) (ν := ν) (by omega) x10 x11 x12 μ1 hL ex13
        refine tp_callS (pc' := 81) (As := [.int x10, .int x11, .int x12]) (fr1 := fr - 1) okm_X10_canBe lk_HandRingModel_126 (show decode cX10_row 78 = .ok (.invokestatic 126, 3) by decide +kernel) rfl rfl rfl (Nat.le_of_ble_eq_true rfl) (by omega) cx13 (st' := [.int x13]) rfl ?_
        rcases hm_is h with ⟨hc, h⟩ | ⟨hc, h⟩
        · refine tr_if_eq_t (tgt := 88) hc (show decode cX10_row 81 = .ok (.ifCond .eq 7, 3) by decide +kernel) (by decide) ?_
          exact ok_X10_row_J88 hfr w40_1 (f_X10_row_L40 w40_1 e160 n) e160 ih he160 y2 y3 μ1 hL h
        · refine tr_if_eq_f (tgt := 88) (pc' := 84) hc (show decode cX10_row 81 = .ok (.ifCond .eq 7, 3) by decide +kernel) (by decide) rfl ?_
          refine tr_iconst (pc' := 85) (v := (1 : Int32)) (show decode cX10_row 84 = .ok (.iconst 1, 1) by decide +kernel) rfl (by decide) ?_
          refine tr_goto (tgt := 89) (show decode cX10_row 85 = .ok (.goto 4, 3) by decide +kernel) rfl ?_
          exact ok_X10_row_J89 hfr w40_1 (f_X10_row_L40 w40_1 e160 n) e160 ih he160 (1 : Int32) y2 y3 μ1 hL h
def f_X10_row_J35 (s0 : Int32) (y1 : Int32) (y2 : Int32) (μ1 : hm_M) : Option (Int32 × hm_M) :=
  Option.bind (hm_pI μ1 179 6 s0) fun μ2 =>
  f_X10_row_L40 y1 (fun z14_2 μz14 => hm_b2 (f_X10_settled z14_2 μz14) fun x15 μ16 =>
  some (x15, μ16)) hm_fu y2 (0 : Int32) μ2
theorem ok_X10_row_J35 {fr : Nat} (hfr : 2 ≤ fr) {ν : hm_N} {r : Int32} {μR : hm_M}       (s0 : Int32) (y1 : Int32) (y2 : Int32) (μ1 : hm_M) (hL : hm_LL ν μ1) (h : f_X10_row_J35 s0 y1 y2 μ1 = some (r, μR)) : hm_T (hm_LL ν) m_X10_row fr 0 0 (some (.int r)) μR 35 [some (.ref 179), some (.int y1), some (.int y2), none, none] [.int s0, .ref 179] μ1 := by
  unfold f_X10_row_J35 at h
  obtain ⟨μ2, eμ2, h⟩ := hm_bs h
  refine tp_pI (pc' := 38) fl_HandRingModel_165 (show decode cX10_row 35 = .ok (.putfield 165, 3) by decide +kernel) rfl (la_o hL (by decide) rfl) eμ2 ?_
  replace hL := hL.same (hm_pI_s eμ2)
  refine tr_iconst (pc' := 39) (v := (0 : Int32)) (show decode cX10_row 38 = .ok (.iconst 0, 1) by decide +kernel) rfl (by decide) ?_
  refine tr_istore_n (pc' := 40) (lv' := [some (.ref 179), some (.int y1), some (.int y2), some (.int (0 : Int32)), none]) (show decode cX10_row 39 = .ok (.istore_n 3, 1) by decide +kernel) rfl rfl (Nat.le_of_ble_eq_true rfl) rfl rfl ?_
  refine ok_X10_row_L40 hfr y1 _ ?_ _ y2 (0 : Int32) μ2 hL h
  · intro z14_2 μz14 hL h
    refine tr_aload_n (pc' := 161) (show decode cX10_row 160 = .ok (.aload_n 0, 1) by decide +kernel) rfl rfl rfl ?_
    refine tr_iload_n (pc' := 162) (show decode cX10_row 161 = .ok (.iload_n 2, 1) by decide +kernel) rfl rfl rfl ?_
    obtain ⟨x15, μ16, ex15, h⟩ := hm_b2s h
    have cx15 := ok_X10_settled (fr := fr - 1) (ν := ν) (by omega) z14_2 μz14 hL ex15
    refine tp_callV (pc' := 165) (As := [.int z14_2]) (fr1 := fr - 1) (ci := 10) okm_X10_settled lk_HandRingModel_115 (show decode cX10_row 162 = .ok (.invokevirtual 115, 3) by decide +kernel) rfl rfl rfl (by decide) (la_o hL (by decide) rfl) rfl rfl (Nat.le_of_ble_eq_true rfl) (by omega) cx15 (st' := [.int x15]) rfl ?_
    replace hL := cx15.1
    cases h
    exact tr_iret rfl (show decode cX10_row 165 = .ok (.ireturn, 1) by decide +kernel) hL
def f_X10_row (μ : hm_M) : Option (Int32 × hm_M) :=
  Option.bind (hm_pI μ 179 13 (0 : Int32)) fun μ1 =>
  (if (μ.1 179 13) = 0 then
  hm_b2 (f_X10_refuses (-6 : Int32) μ1) fun x17 μ18 =>
  some (x17, μ18)
  else
  (if ((μ.1 179 13) - (μ.1 179 13) / (3 : Int32) * (3 : Int32)) = 0 then
  f_X10_row_J35 (0 : Int32) (μ.1 179 13) (0 : Int32) μ1
  else
  f_X10_row_J35 (1 : Int32) (μ.1 179 13) (0 : Int32) μ1))
set_option maxRecDepth 100000 in
theorem ok_X10_row {fr : Nat} (hfr : 2 ≤ fr) {ν : hm_N} {r : Int32} {μR : hm_M}    (μ : hm_M) (hL : hm_LL ν μ) (h : f_X10_row μ = some (r, μR)) : hm_CC (hm_LL ν) m_X10_row fr 0 0 [.ref 179] μ (some (.int r)) μR := by
  refine hm_enter (lv := [some (.ref 179), none, none, none, none]) (by decide) rfl (Nat.le_of_ble_eq_true rfl) ?_
  unfold f_X10_row at h
  refine tr_aload_n (pc' := 1) (show decode cX10_row 0 = .ok (.aload_n 0, 1) by decide +kernel) rfl rfl rfl ?_
  refine tr_getI (pc' := 4) fl_HandRingModel_162 (show decode cX10_row 1 = .ok (.getfield 162, 3) by decide +kernel) rfl (la_o hL (by decide) rfl) ?_
  refine tr_istore_n (pc' := 5) (lv' := [some (.ref 179), some (.int (μ.1 179 13)), none, none, none]) (show decode cX10_row 4 = .ok (.istore_n 1, 1) by decide +kernel) rfl rfl (Nat.le_of_ble_eq_true rfl) rfl rfl ?_
  refine tr_aload_n (pc' := 6) (show decode cX10_row 5 = .ok (.aload_n 0, 1) by decide +kernel) rfl rfl rfl ?_
  refine tr_iconst (pc' := 7) (v := (0 : Int32)) (show decode cX10_row 6 = .ok (.iconst 0, 1) by decide +kernel) rfl (by decide) ?_
  obtain ⟨μ1, eμ1, h⟩ := hm_bs h
  refine tp_pI (pc' := 10) fl_HandRingModel_162 (show decode cX10_row 7 = .ok (.putfield 162, 3) by decide +kernel) rfl (la_o hL (by decide) rfl) eμ1 ?_
  replace hL := hL.same (hm_pI_s eμ1)
  refine tr_iload_n (pc' := 11) (show decode cX10_row 10 = .ok (.iload_n 1, 1) by decide +kernel) rfl rfl rfl ?_
  rcases hm_is h with ⟨hc, h⟩ | ⟨hc, h⟩
  · refine tr_if_ne_f (tgt := 21) (pc' := 14) hc (show decode cX10_row 11 = .ok (.ifCond .ne 10, 3) by decide +kernel) (by decide) rfl ?_
    refine tr_aload_n (pc' := 15) (show decode cX10_row 14 = .ok (.aload_n 0, 1) by decide +kernel) rfl rfl rfl ?_
    refine tr_bipush (pc' := 17) (v := (-6 : Int32)) (show decode cX10_row 15 = .ok (.bipush (-6), 2) by decide +kernel) rfl (by decide) ?_
    obtain ⟨x17, μ18, ex17, h⟩ := hm_b2s h
    have cx17 := ok_X10_refuses (fr := fr - 1) (ν := ν) (by omega) (-6 : Int32) μ1 hL ex17
    refine tp_callV (pc' := 20) (As := [.int (-6 : Int32)]) (fr1 := fr - 1) (ci := 10) okm_X10_refuses lk_HandRingModel_112 (show decode cX10_row 17 = .ok (.invokevirtual 112, 3) by decide +kernel) rfl rfl rfl (by decide) (la_o hL (by decide) rfl) rfl rfl (Nat.le_of_ble_eq_true rfl) (by omega) cx17 (st' := [.int x17]) rfl ?_
    replace hL := cx17.1
    cases h
    exact tr_iret rfl (show decode cX10_row 20 = .ok (.ireturn, 1) by decide +kernel) hL
  · refine tr_if_ne_t (tgt := 21) hc (show decode cX10_row 11 = .ok (.ifCond .ne 10, 3) by decide +kernel) (by decide) ?_
    refine tr_iconst (pc' := 22) (v := (0 : Int32)) (show decode cX10_row 21 = .ok (.iconst 0, 1) by decide +kernel) rfl (by decide) ?_
    refine tr_istore_n (pc' := 23) (lv' := [some (.ref 179), some (.int (μ.1 179 13)), some (.int (0 : Int32)), none, none]) (show decode cX10_row 22 = .ok (.istore_n 2, 1) by decide +kernel) rfl rfl (Nat.le_of_ble_eq_true rfl) rfl rfl ?_
    refine tr_aload_n (pc' := 24) (show decode cX10_row 23 = .ok (.aload_n 0, 1) by decide +kernel) rfl rfl rfl ?_
    refine tr_iload_n (pc' := 25) (show decode cX10_row 24 = .ok (.iload_n 1, 1) by decide +kernel) rfl rfl rfl ?_
    refine tr_iconst (pc' := 26) (v := (3 : Int32)) (show decode cX10_row 25 = .ok (.iconst 3, 1) by decide +kernel) rfl (by decide) ?_
    refine tr_irem (pc' := 27) (show decode cX10_row 26 = .ok (.irem, 1) by decide +kernel) rfl (by decide) ?_
    rcases hm_is h with ⟨hc, h⟩ | ⟨hc, h⟩
    · refine tr_if_ne_f (tgt := 34) (pc' := 30) hc (show decode cX10_row 27 = .ok (.ifCond .ne 7, 3) by decide +kernel) (by decide) rfl ?_
      refine tr_iconst (pc' := 31) (v := (0 : Int32)) (show decode cX10_row 30 = .ok (.iconst 0, 1) by decide +kernel) rfl (by decide) ?_
      refine tr_goto (tgt := 35) (show decode cX10_row 31 = .ok (.goto 4, 3) by decide +kernel) rfl ?_
      exact ok_X10_row_J35 hfr (0 : Int32) (μ.1 179 13) (0 : Int32) μ1 hL h
    · refine tr_if_ne_t (tgt := 34) hc (show decode cX10_row 27 = .ok (.ifCond .ne 7, 3) by decide +kernel) (by decide) ?_
      refine tr_iconst (pc' := 35) (v := (1 : Int32)) (show decode cX10_row 34 = .ok (.iconst 1, 1) by decide +kernel) rfl (by decide) ?_
      exact ok_X10_row_J35 hfr (1 : Int32) (μ.1 179 13) (0 : Int32) μ1 hL h
