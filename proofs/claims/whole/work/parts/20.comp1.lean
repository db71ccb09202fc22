def f_X0_everybody (μ : hm_M) : Option Int32 :=
  some (((1 : Int32) <<< ((μ.1 145 5) &&& 31)) - (1 : Int32))
set_option maxRecDepth 100000 in
theorem ok_X0_everybody {fr : Nat} (hfr : 0 ≤ fr) {ν : hm_N} {r : Int32}    (μ : hm_M) (hL : hm_LL ν μ) (h : f_X0_everybody μ = some r) : hm_CC (hm_LL ν) m_X0_everybody fr 0 0 [.ref 145] μ (some (.int r)) μ := by
  refine hm_enter (lv := [some (.ref 145)]) (by decide) rfl (Nat.le_of_ble_eq_true rfl) ?_
  unfold f_X0_everybody at h
  refine tr_iconst (pc' := 1) (v := (1 : Int32)) (show decode cX0_everybody 0 = .ok (.iconst 1, 1) by decide +kernel) rfl (by decide) ?_
  refine tr_aload_n (pc' := 2) (show decode cX0_everybody 1 = .ok (.aload_n 0, 1) by decide +kernel) rfl rfl rfl ?_
  refine tr_getI (pc' := 5) fl_HandRing_Circle_28 (show decode cX0_everybody 2 = .ok (.getfield 28, 3) by decide +kernel) rfl (la_o hL (by decide) rfl) ?_
  refine tr_ishl (pc' := 6) (show decode cX0_everybody 5 = .ok (.ishl, 1) by decide +kernel) rfl ?_
  refine tr_iconst (pc' := 7) (v := (1 : Int32)) (show decode cX0_everybody 6 = .ok (.iconst 1, 1) by decide +kernel) rfl (by decide) ?_
  refine tr_isub (pc' := 8) (show decode cX0_everybody 7 = .ok (.isub, 1) by decide +kernel) rfl ?_
  cases h
  exact tr_iret rfl (show decode cX0_everybody 8 = .ok (.ireturn, 1) by decide +kernel) hL
def f_X8_farBetween (o0 : Nat) (v1 : Int32) (v2 : Int32) (μ : hm_M) : Option Int32 :=
  Option.bind (hm_ld μ (o0 + 1) 8 v1) fun x2 =>
  Option.bind (hm_ld μ (o0 + 1) 8 v2) fun x3 =>
  Option.bind (some ((x2 - x2 / (5 : Int32) * (5 : Int32)) - (x3 - x3 / (5 : Int32) * (5 : Int32)))) fun x4 =>
  Option.bind (hm_ld μ (o0 + 1) 8 v1) fun x5 =>
  Option.bind (hm_ld μ (o0 + 1) 8 v2) fun x6 =>
  Option.bind (some ((x5 / (5 : Int32)) - (x6 / (5 : Int32)))) fun x7 =>
  some ((if 0 ≤ x4 then x4 else 0 - x4) + (if 0 ≤ x7 then x7 else 0 - x7))
set_option maxRecDepth 100000 in
theorem ok_X8_farBetween {fr : Nat} (hfr : 1 ≤ fr) {ν : hm_N} {r : Int32}  (o0 : Nat) (v1 : Int32) (v2 : Int32) (ho0 : hm_V o0) (μ : hm_M) (hL : hm_LL ν μ) (h : f_X8_farBetween o0 v1 v2 μ = some r) : hm_CC (hm_LL ν) m_X8_farBetween fr 0 0 [.ref o0, .int v1, .int v2] μ (some (.int r)) μ := by
  refine hm_enter (lv := [some (.ref o0), some (.int v1), some (.int v2), none, none]) (by decide) rfl (Nat.le_of_ble_eq_true rfl) ?_
  unfold f_X8_farBetween at h
  refine tr_aload_n (pc' := 1) (show decode cX8_farBetween 0 = .ok (.aload_n 0, 1) by decide +kernel) rfl rfl rfl ?_
  refine tr_getR (pc' := 4) fl_HandRing_Village_9 (show decode cX8_farBetween 1 = .ok (.getfield 9, 3) by decide +kernel) rfl (la_vo hL ho0) (la_v1 hL ho0) ?_
  refine tr_iload_n (pc' := 5) (show decode cX8_farBetween 4 = .ok (.iload_n 1, 1) by decide +kernel) rfl rfl rfl ?_
  obtain ⟨x2, ex2, h⟩ := hm_bs h
  refine tp_ldI (pc' := 6) (show decode cX8_farBetween 5 = .ok (.iaload, 1) by decide +kernel) rfl (la_va1 hL ho0) ex2 ?_
  refine tr_iconst (pc' := 7) (v := (5 : Int32)) (show decode cX8_farBetween 6 = .ok (.iconst 5, 1) by decide +kernel) rfl (by decide) ?_
  refine tr_irem (pc' := 8) (show decode cX8_farBetween 7 = .ok (.irem, 1) by decide +kernel) rfl (by decide) ?_
  refine tr_aload_n (pc' := 9) (show decode cX8_farBetween 8 = .ok (.aload_n 0, 1) by decide +kernel) rfl rfl rfl ?_
  refine tr_getR (pc' := 12) fl_HandRing_Village_9 (show decode cX8_farBetween 9 = .ok (.getfield 9, 3) by decide +kernel) rfl (la_vo hL ho0) (la_v1 hL ho0) ?_
  refine tr_iload_n (pc' := 13) (show decode cX8_farBetween 12 = .ok (.iload_n 2, 1) by decide +kernel) rfl rfl rfl ?_
  obtain ⟨x3, ex3, h⟩ := hm_bs h
  refine tp_ldI (pc' := 14) (show decode cX8_farBetween 13 = .ok (.iaload, 1) by decide +kernel) rfl (la_va1 hL ho0) ex3 ?_
  refine tr_iconst (pc' := 15) (v := (5 : Int32)) (show decode cX8_farBetween 14 = .ok (.iconst 5, 1) by decide +kernel) rfl (by decide) ?_
  refine tr_irem (pc' := 16) (show decode cX8_farBetween 15 = .ok (.irem, 1) by decide +kernel) rfl (by decide) ?_
  refine tr_isub (pc' := 17) (show decode cX8_farBetween 16 = .ok (.isub, 1) by decide +kernel) rfl ?_
  obtain ⟨x4, ex4, h⟩ := hm_bs h
  have ex4 := Option.some.inj ex4
  rw [ex4]
  refine tr_istore_n (pc' := 18) (lv' := [some (.ref o0), some (.int v1), some (.int v2), some (.int x4), none]) (show decode cX8_farBetween 17 = .ok (.istore_n 3, 1) by decide +kernel) rfl rfl (Nat.le_of_ble_eq_true rfl) rfl rfl ?_
  refine tr_aload_n (pc' := 19) (show decode cX8_farBetween 18 = .ok (.aload_n 0, 1) by decide +kernel) rfl rfl rfl ?_
  refine tr_getR (pc' := 22) fl_HandRing_Village_9 (show decode cX8_farBetween 19 = .ok (.getfield 9, 3) by decide +kernel) rfl (la_vo hL ho0) (la_v1 hL ho0) ?_
  refine tr_iload_n (pc' := 23) (show decode cX8_farBetween 22 = .ok (.iload_n 1, 1) by decide +kernel) rfl rfl rfl ?_
  obtain ⟨x5, ex5, h⟩ := hm_bs h
  refine tp_ldI (pc' := 24) (show decode cX8_farBetween 23 = .ok (.iaload, 1) by decide +kernel) rfl (la_va1 hL ho0) ex5 ?_
  refine tr_iconst (pc' := 25) (v := (5 : Int32)) (show decode cX8_farBetween 24 = .ok (.iconst 5, 1) by decide +kernel) rfl (by decide) ?_
  refine tr_idiv (pc' := 26) (show decode cX8_farBetween 25 = .ok (.idiv, 1) by decide +kernel) rfl (by decide) ?_
  refine tr_aload_n (pc' := 27) (show decode cX8_farBetween 26 = .ok (.aload_n 0, 1) by decide +kernel) rfl rfl rfl ?_
  refine tr_getR (pc' := 30) fl_HandRing_Village_9 (show decode cX8_farBetween 27 = .ok (.getfield 9, 3) by decide +kernel) rfl (la_vo hL ho0) (la_v1 hL ho0) ?_
  refine tr_iload_n (pc' := 31) (show decode cX8_farBetween 30 = .ok (.iload_n 2, 1) by decide +kernel) rfl rfl rfl ?_
  obtain ⟨x6, ex6, h⟩ := hm_bs h
  refine tp_ldI (pc' := 32) (show decode cX8_farBetween 31 = .ok (.iaload, 1) by decide +kernel) rfl (la_va1 hL ho0) ex6 ?_
  refine tr_iconst (pc' := 33) (v := (5 : Int32)) (show decode cX8_farBetween 32 = .ok (.iconst 5, 1) by decide +kernel) rfl (by decide) ?_
  refine tr_idiv (pc' := 34) (show decode cX8_farBetween 33 = .ok (.idiv, 1) by decide +kernel) rfl (by decide) ?_
  refine tr_isub (pc' := 35) (show decode cX8_farBetween 34 = .ok (.isub, 1) by decide +kernel) rfl ?_
  obtain ⟨x7, ex7, h⟩ := hm_bs h
  have ex7 := Option.some.inj ex7
  rw [ex7]
  refine tr_istore (pc' := 37) (lv' := [some (.ref o0), some (.int v1), some (.int v2), some (.int x4), some (.int x7)]) (show decode cX8_farBetween 35 = .ok (.istore 4, 2) by decide +kernel) rfl (Nat.le_of_ble_eq_true rfl) rfl rfl ?_
  refine tr_iload_n (pc' := 38) (show decode cX8_farBetween 37 = .ok (.iload_n 3, 1) by decide +kernel) rfl rfl rfl ?_
  refine tr_abs (pc' := 41) lk_HandRing_Village_77 kw_abs_s kw_Math_i kw_abs_c (show decode cX8_farBetween 38 = .ok (.invokestatic 77, 3) by decide +kernel) rfl (Nat.le_of_ble_eq_true rfl) (by omega) ?_
  refine tr_iload (pc' := 43) (show decode cX8_farBetween 41 = .ok (.iload 4, 2) by decide +kernel) rfl rfl ?_
  refine tr_abs (pc' := 46) lk_HandRing_Village_77 kw_abs_s kw_Math_i kw_abs_c (show decode cX8_farBetween 43 = .ok (.invokestatic 77, 3) by decide +kernel) rfl (Nat.le_of_ble_eq_true rfl) (by omega) ?_
  refine tr_iadd (pc' := 47) (show decode cX8_farBetween 46 = .ok (.iadd, 1) by decide +kernel) rfl ?_
  cases h
  exact tr_iret rfl (show decode cX8_farBetween 47 = .ok (.ireturn, 1) by decide +kernel) hL
def f_X8_withinReach (o0 : Nat) (v1 : Int32) (v2 : Int32) (μ : hm_M) : Option Int32 :=
  Option.bind (f_X8_farBetween o0 v1 v2 μ) fun x2 =>
  Option.bind (hm_ld μ (o0 + 2) 8 v1) fun x3 =>
  Option.bind (hm_ld μ (o0 + 2) 8 v2) fun x4 =>
  (if (x3 + x4) < x2 then
  some (0 : Int32)
  else
  some (1 : Int32))
set_option maxRecDepth 100000 in
theorem ok_X8_withinReach {fr : Nat} (hfr : 2 ≤ fr) {ν : hm_N} {r : Int32}  (o0 : Nat) (v1 : Int32) (v2 : Int32) (ho0 : hm_V o0) (μ : hm_M) (hL : hm_LL ν μ) (h : f_X8_withinReach o0 v1 v2 μ = some r) : hm_CC (hm_LL ν) m_X8_withinReach fr 0 0 [.ref o0, .int v1, .int v2] μ (some (.int r)) μ := by
  refine hm_enter (lv := [some (.ref o0), some (.int v1), some (.int v2)]) (by decide) rfl (Nat.le_of_ble_eq_true rfl) ?_
  unfold f_X8_withinReach at h
  refine tr_aload_n (pc' := 1) (show decode cX8_withinReach 0 = .ok (.aload_n 0, 1) by decide +kernel) rfl rfl rfl ?_
  refine tr_iload_n (pc' := 2) (show decode cX8_withinReach 1 = .ok (.iload_n 1, 1) by decide +kernel) rfl rfl rfl ?_
  refine tr_iload_n (pc' := 3) (show decode cX8_withinReach 2 = .ok (.iload_n 2, 1) by decide +kernel) rfl rfl rfl ?_
  obtain ⟨x2, ex2, h⟩ := hm_bs h
  have cx2 := ok_X8_farBetween (fr := fr - 1) (ν := ν) (by omega) o0 v1 v2 ho0 μ hL ex2
  refine tp_callV (pc' := 6) (As := [.int v1, .int v2]) (fr1 := fr - 1) (ci := 8) okm_X8_farBetween lk_HandRing_Village_81 (show decode cX8_withinReach 3 = .ok (.invokevirtual 81, 3) by decide +kernel) rfl rfl rfl (by decide) (la_vo hL ho0) rfl rfl (Nat.le_of_ble_eq_true rfl) (by omega) cx2 (st' := [.int x2]) rfl ?_
  refine tr_aload_n (pc' := 7) (show decode cX8_withinReach 6 = .ok (.aload_n 0, 1) by decide +kernel) rfl rfl rfl ?_
  refine tr_getR (pc' := 10) fl_HandRing_Village_15 (show decode cX8_withinReach 7 = .ok (.getfield 15, 3) by decide +kernel) rfl (la_vo hL ho0) (la_v2 hL ho0) ?_
  refine tr_iload_n (pc' := 11) (show decode cX8_withinReach 10 = .ok (.iload_n 1, 1) by decide +kernel) rfl rfl rfl ?_
  obtain ⟨x3, ex3, h⟩ := hm_bs h
  refine tp_ldI (pc' := 12) (show decode cX8_withinReach 11 = .ok (.iaload, 1) by decide +kernel) rfl (la_va2 hL ho0) ex3 ?_
  refine tr_aload_n (pc' := 13) (show decode cX8_withinReach 12 = .ok (.aload_n 0, 1) by decide +kernel) rfl rfl rfl ?_
  refine tr_getR (pc' := 16) fl_HandRing_Village_15 (show decode cX8_withinReach 13 = .ok (.getfield 15, 3) by decide +kernel) rfl (la_vo hL ho0) (la_v2 hL ho0) ?_
  refine tr_iload_n (pc' := 17) (show decode cX8_withinReach 16 = .ok (.iload_n 2, 1) by decide +kernel) rfl rfl rfl ?_
  obtain ⟨x4, ex4, h⟩ := hm_bs h
  refine tp_ldI (pc' := 18) (show decode cX8_withinReach 17 = .ok (.iaload, 1) by decide +kernel) rfl (la_va2 hL ho0) ex4 ?_
  refine tr_iadd (pc' := 19) (show decode cX8_withinReach 18 = .ok (.iadd, 1) by decide +kernel) rfl ?_
  rcases hm_is h with ⟨hc, h⟩ | ⟨hc, h⟩
  · refine tr_icmp_gt_t (tgt := 26) hc (show decode cX8_withinReach 19 = .ok (.if_icmp .gt 7, 3) by decide +kernel) (by decide) ?_
    refine tr_iconst (pc' := 27) (v := (0 : Int32)) (show decode cX8_withinReach 26 = .ok (.iconst 0, 1) by decide +kernel) rfl (by decide) ?_
    cases h
    exact tr_zret rfl (by decide) (show decode cX8_withinReach 27 = .ok (.ireturn, 1) by decide +kernel) hL
  · refine tr_icmp_gt_f (tgt := 26) (pc' := 22) hc (show decode cX8_withinReach 19 = .ok (.if_icmp .gt 7, 3) by decide +kernel) (by decide) rfl ?_
    refine tr_iconst (pc' := 23) (v := (1 : Int32)) (show decode cX8_withinReach 22 = .ok (.iconst 1, 1) by decide +kernel) rfl (by decide) ?_
    refine tr_goto (tgt := 27) (show decode cX8_withinReach 23 = .ok (.goto 4, 3) by decide +kernel) rfl ?_
    cases h
    exact tr_zret rfl (by decide) (show decode cX8_withinReach 27 = .ok (.ireturn, 1) by decide +kernel) hL
def f_X3_setWords (v1 : Nat) (v2 : Int32) (v3 : Int32) (μ : hm_M) : Option hm_M :=
  Option.bind (hm_sd μ 109 8 (0 : Int32) v2) fun μ2 =>
  Option.bind (hm_ld μ2 (v1 + 3) 8 v2) fun x3 =>
  Option.bind (hm_sd μ2 109 8 (2 : Int32) x3) fun μ4 =>
  Option.bind (hm_sd μ4 109 8 (5 : Int32) v3) fun μ5 =>
  Option.bind (hm_ld μ5 (v1 + 5) 4 (0 : Int32)) fun x6 =>
  Option.bind (hm_sd μ5 109 8 (6 : Int32) x6) fun μ7 =>
  Option.bind (hm_ld μ7 (v1 + 5) 4 (2 : Int32)) fun x8 =>
  Option.bind (hm_sd μ7 109 8 (7 : Int32) x8) fun μ9 =>
  some μ9
set_option maxRecDepth 100000 in
theorem ok_X3_setWords {fr : Nat} (hfr : 0 ≤ fr) {ν : hm_N} {μR : hm_M}  (v1 : Nat) (v2 : Int32) (v3 : Int32) (hv1 : hm_V v1) (μ : hm_M) (hL : hm_LL ν μ) (h : f_X3_setWords v1 v2 v3 μ = some μR) : hm_CC (hm_LL ν) m_X3_setWords fr 0 0 [.ref 106, .ref v1, .int v2, .int v3] μ none μR := by
  refine hm_enter (lv := [some (.ref 106), some (.ref v1), some (.int v2), some (.int v3)]) (by decide) rfl (Nat.le_of_ble_eq_true rfl) ?_
  unfold f_X3_setWords at h
  refine tr_aload_n (pc' := 1) (show decode cX3_setWords 0 = .ok (.aload_n 0, 1) by decide +kernel) rfl rfl rfl ?_
  refine tr_getR (pc' := 4) fl_HandRing_Judge_16 (show decode cX3_setWords 1 = .ok (.getfield 16, 3) by decide +kernel) rfl (la_o hL (by decide) rfl) (la_r hL 51 rfl) ?_
  refine tr_getR (pc' := 7) fl_HandRing_Judge_62 (show decode cX3_setWords 4 = .ok (.getfield 62, 3) by decide +kernel) rfl (la_o hL (by decide) rfl) (la_r hL 52 rfl) ?_
  refine tr_iconst (pc' := 8) (v := (0 : Int32)) (show decode cX3_setWords 7 = .ok (.iconst 0, 1) by decide +kernel) rfl (by decide) ?_
  refine tr_iload_n (pc' := 9) (show decode cX3_setWords 8 = .ok (.iload_n 2, 1) by decide +kernel) rfl rfl rfl ?_
  obtain ⟨μ2, eμ2, h⟩ := hm_bs h
  refine tp_sdI (pc' := 10) (show decode cX3_setWords 9 = .ok (.iastore, 1) by decide +kernel) rfl (la_a hL (by decide) rfl) eμ2 ?_
  replace hL := hL.same (hm_sd_s eμ2)
  refine tr_aload_n (pc' := 11) (show decode cX3_setWords 10 = .ok (.aload_n 0, 1) by decide +kernel) rfl rfl rfl ?_
  refine tr_getR (pc' := 14) fl_HandRing_Judge_16 (show decode cX3_setWords 11 = .ok (.getfield 16, 3) by decide +kernel) rfl (la_o hL (by decide) rfl) (la_r hL 51 rfl) ?_
  refine tr_getR (pc' := 17) fl_HandRing_Judge_62 (show decode cX3_setWords 14 = .ok (.getfield 62, 3) by decide +kernel) rfl (la_o hL (by decide) rfl) (la_r hL 52 rfl) ?_
  refine tr_iconst (pc' := 18) (v := (2 : Int32)) (show decode cX3_setWords 17 = .ok (.iconst 2, 1) by decide +kernel) rfl (by decide) ?_
  refine tr_aload_n (pc' := 19) (show decode cX3_setWords 18 = .ok (.aload_n 1, 1) by decide +kernel) rfl rfl rfl ?_
  refine tr_getR (pc' := 22) fl_HandRing_Judge_76 (show decode cX3_setWords 19 = .ok (.getfield 76, 3) by decide +kernel) rfl (la_vo hL hv1) (la_v3 hL hv1) ?_
  refine tr_iload_n (pc' := 23) (show decode cX3_setWords 22 = .ok (.iload_n 2, 1) by decide +kernel) rfl rfl rfl ?_
  obtain ⟨x3, ex3, h⟩ := hm_bs h
  refine tp_ldI (pc' := 24) (show decode cX3_setWords 23 = .ok (.iaload, 1) by decide +kernel) rfl (la_va3 hL hv1) ex3 ?_
  obtain ⟨μ4, eμ4, h⟩ := hm_bs h
  refine tp_sdI (pc' := 25) (show decode cX3_setWords 24 = .ok (.iastore, 1) by decide +kernel) rfl (la_a hL (by decide) rfl) eμ4 ?_
  replace hL := hL.same (hm_sd_s eμ4)
  refine tr_aload_n (pc' := 26) (show decode cX3_setWords 25 = .ok (.aload_n 0, 1) by decide +kernel) rfl rfl rfl ?_
  refine tr_getR (pc' := 29) fl_HandRing_Judge_16 (show decode cX3_setWords 26 = .ok (.getfield 16, 3) by decide +kernel) rfl (la_o hL (by decide) rfl) (la_r hL 51 rfl) ?_
  refine tr_getR (pc' := 32) fl_HandRing_Judge_62 (show decode cX3_setWords 29 = .ok (.getfield 62, 3) by decide +kernel) rfl (la_o hL (by decide) rfl) (la_r hL 52 rfl) ?_
  refine tr_iconst (pc' := 33) (v := (5 : Int32)) (show decode cX3_setWords 32 = .ok (.iconst 5, 1) by decide +kernel) rfl (by decide) ?_
  refine tr_iload_n (pc' := 34) (show decode cX3_setWords 33 = .ok (.iload_n 3, 1) by decide +kernel) rfl rfl rfl ?_
  obtain ⟨μ5, eμ5, h⟩ := hm_bs h
  refine tp_sdI (pc' := 35) (show decode cX3_setWords 34 = .ok (.iastore, 1) by decide +kernel) rfl (la_a hL (by decide) rfl) eμ5 ?_
  replace hL := hL.same (hm_sd_s eμ5)
  refine tr_aload_n (pc' := 36) (show decode cX3_setWords 35 = .ok (.aload_n 0, 1) by decide +kernel) rfl rfl rfl ?_
  refine tr_getR (pc' := 39) fl_HandRing_Judge_16 (show decode cX3_setWords 36 = .ok (.getfield 16, 3) by decide +kernel) rfl (la_o hL (by decide) rfl) (la_r hL 51 rfl) ?_
  refine tr_getR (pc' := 42) fl_HandRing_Judge_62 (show decode cX3_setWords 39 = .ok (.getfield 62, 3) by decide +kernel) rfl (la_o hL (by decide) rfl) (la_r hL 52 rfl) ?_
  refine tr_bipush (pc' := 44) (v := (6 : Int32)) (show decode cX3_setWords 42 = .ok (.bipush 6, 2) by decide +kernel) rfl (by decide) ?_
  refine tr_aload_n (pc' := 45) (show decode cX3_setWords 44 = .ok (.aload_n 1, 1) by decide +kernel) rfl rfl rfl ?_
  refine tr_getR (pc' := 48) fl_HandRing_Judge_79 (show decode cX3_setWords 45 = .ok (.getfield 79, 3) by decide +kernel) rfl (la_vo hL hv1) (la_v5 hL hv1) ?_
  refine tr_iconst (pc' := 49) (v := (0 : Int32)) (show decode cX3_setWords 48 = .ok (.iconst 0, 1) by decide +kernel) rfl (by decide) ?_
  obtain ⟨x6, ex6, h⟩ := hm_bs h
  refine tp_ldI (pc' := 50) (show decode cX3_setWords 49 = .ok (.iaload, 1) by decide +kernel) rfl (la_va5 hL hv1) ex6 ?_
  obtain ⟨μ7, eμ7, h⟩ := hm_bs h
  refine tp_sdI (pc' := 51) (show decode cX3_setWords 50 = .ok (.iastore, 1) by decide +kernel) rfl (la_a hL (by decide) rfl) eμ7 ?_
  replace hL := hL.same (hm_sd_s eμ7)
  refine tr_aload_n (pc' := 52) (show decode cX3_setWords 51 = .ok (.aload_n 0, 1) by decide +kernel) rfl rfl rfl ?_
  refine tr_getR (pc' := 55) fl_HandRing_Judge_16 (show decode cX3_setWords 52 = .ok (.getfield 16, 3) by decide +kernel) rfl (la_o hL (by decide) rfl) (la_r hL 51 rfl) ?_
  refine tr_getR (pc' := 58) fl_HandRing_Judge_62 (show decode cX3_setWords 55 = .ok (.getfield 62, 3) by decide +kernel) rfl (la_o hL (by decide) rfl) (la_r hL 52 rfl) ?_
  refine tr_bipush (pc' := 60) (v := (7 : Int32)) (show decode cX3_setWords 58 = .ok (.bipush 7, 2) by decide +kernel) rfl (by decide) ?_
  refine tr_aload_n (pc' := 61) (show decode cX3_setWords 60 = .ok (.aload_n 1, 1) by decide +kernel) rfl rfl rfl ?_
  refine tr_getR (pc' := 64) fl_HandRing_Judge_79 (show decode cX3_setWords 61 = .ok (.getfield 79, 3) by decide +kernel) rfl (la_vo hL hv1) (la_v5 hL hv1) ?_
  refine tr_iconst (pc' := 65) (v := (2 : Int32)) (show decode cX3_setWords 64 = .ok (.iconst 2, 1) by decide +kernel) rfl (by decide) ?_
  obtain ⟨x8, ex8, h⟩ := hm_bs h
  refine tp_ldI (pc' := 66) (show decode cX3_setWords 65 = .ok (.iaload, 1) by decide +kernel) rfl (la_va5 hL hv1) ex8 ?_
  obtain ⟨μ9, eμ9, h⟩ := hm_bs h
  refine tp_sdI (pc' := 67) (show decode cX3_setWords 66 = .ok (.iastore, 1) by decide +kernel) rfl (la_a hL (by decide) rfl) eμ9 ?_
  replace hL := hL.same (hm_sd_s eμ9)
  cases h
  exact tr_vret rfl (show decode cX3_setWords 67 = .ok (.return_, 1) by decide +kernel) hL
def f_X3_setTwo_J22 (v1 : Nat) (v2 : Int32) (v3 : Int32) (s0 : Int32) (y4 : Int32) (μ1 : hm_M) : Option hm_M :=
  Option.bind (hm_ld μ1 (v1 + 2) 8 v2) fun x2 =>
  Option.bind (hm_ld μ1 (v1 + 2) 8 v3) fun x3 =>
  Option.bind (f_X3_setWords v1 y4 (x2 + x3) μ1) fun μ5 =>
  Option.bind (hm_sd μ5 109 8 (1 : Int32) s0) fun μ6 =>
  Option.bind (hm_ld μ6 (v1 + 3) 8 s0) fun x7 =>
  Option.bind (hm_sd μ6 109 8 (3 : Int32) x7) fun μ8 =>
  Option.bind (f_X8_farBetween v1 v2 v3 μ8) fun x9 =>
  Option.bind (hm_sd μ8 109 8 (4 : Int32) x9) fun μ10 =>
  some μ10
theorem ok_X3_setTwo_J22 {fr : Nat} (hfr : 2 ≤ fr) {ν : hm_N} {μR : hm_M}  (v1 : Nat) (v2 : Int32) (v3 : Int32)   (hv1 : hm_V v1) (s0 : Int32) (y4 : Int32) (μ1 : hm_M) (hL : hm_LL ν μ1) (h : f_X3_setTwo_J22 v1 v2 v3 s0 y4 μ1 = some μR) : hm_T (hm_LL ν) m_X3_setTwo fr 0 0 none μR 22 [some (.ref 106), some (.ref v1), some (.int v2), some (.int v3), some (.int y4), none] [.int s0] μ1 := by
  unfold f_X3_setTwo_J22 at h
  refine tr_istore (pc' := 24) (lv' := [some (.ref 106), some (.ref v1), some (.int v2), some (.int v3), some (.int y4), some (.int s0)]) (show decode cX3_setTwo 22 = .ok (.istore 5, 2) by decide +kernel) rfl (Nat.le_of_ble_eq_true rfl) rfl rfl ?_
  refine tr_aload_n (pc' := 25) (show decode cX3_setTwo 24 = .ok (.aload_n 0, 1) by decide +kernel) rfl rfl rfl ?_
  refine tr_aload_n (pc' := 26) (show decode cX3_setTwo 25 = .ok (.aload_n 1, 1) by decide +kernel) rfl rfl rfl ?_
  refine tr_iload (pc' := 28) (show decode cX3_setTwo 26 = .ok (.iload 4, 2) by decide +kernel) rfl rfl ?_
  refine tr_aload_n (pc' := 29) (show decode cX3_setTwo 28 = .ok (.aload_n 1, 1) by decide +kernel) rfl rfl rfl ?_
  refine tr_getR (pc' := 32) fl_HandRing_Judge_55 (show decode cX3_setTwo 29 = .ok (.getfield 55, 3) by decide +kernel) rfl (la_vo hL hv1) (la_v2 hL hv1) ?_
  refine tr_iload_n (pc' := 33) (show decode cX3_setTwo 32 = .ok (.iload_n 2, 1) by decide +kernel) rfl rfl rfl ?_
  obtain ⟨x2, ex2, h⟩ := hm_bs h
  refine tp_ldI (pc' := 34) (show decode cX3_setTwo 33 = .ok (.iaload, 1) by decide +kernel) rfl (la_va2 hL hv1) ex2 ?_
  refine tr_aload_n (pc' := 35) (show decode cX3_setTwo 34 = .ok (.aload_n 1, 1) by decide +kernel) rfl rfl rfl ?_
  refine tr_getR (pc' := 38) fl_HandRing_Judge_55 (show decode cX3_setTwo 35 = .ok (.getfield 55, 3) by decide +kernel) rfl (la_vo hL hv1) (la_v2 hL hv1) ?_
  refine tr_iload_n (pc' := 39) (show decode cX3_setTwo 38 = .ok (.iload_n 3, 1) by decide +kernel) rfl rfl rfl ?_
  obtain ⟨x3, ex3, h⟩ := hm_bs h
  refine tp_ldI (pc' := 40) (show decode cX3_setTwo 39 = .ok (.iaload, 1) by decide +kernel) rfl (la_va2 hL hv1) ex3 ?_
  refine tr_iadd (pc' := 41) (show decode cX3_setTwo 40 = .ok (.iadd, 1) by decide +kernel) rfl ?_
  obtain ⟨μ5, ex4, h⟩ := hm_bs h
  have cx4 := ok_X3_setWords (fr := fr - 1) (ν := ν) (by omega) v1 y4 (x2 + x3) hv1 μ1 hL ex4
  refine tp_callV (pc' := 44) (As := [.ref v1, .int y4, .int (x2 + x3)]) (fr1 := fr - 1) (ci := 3) okm_X3_setWords lk_HandRing_Judge_59 (show decode cX3_setTwo 41 = .ok (.invokevirtual 59, 3) by decide +kernel) rfl rfl rfl (by decide) (la_o hL (by decide) rfl) rfl rfl (Nat.le_of_ble_eq_true rfl) (by omega) cx4 (st' := []) rfl ?_
  replace hL := cx4.1
  refine tr_aload_n (pc' := 45) (show decode cX3_setTwo 44 = .ok (.aload_n 0, 1) by decide +kernel) rfl rfl rfl ?_
  refine tr_getR (pc' := 48) fl_HandRing_Judge_16 (show decode cX3_setTwo 45 = .ok (.getfield 16, 3) by decide +kernel) rfl (la_o hL (by decide) rfl) (la_r hL 51 rfl) ?_
  refine tr_getR (pc' := 51) fl_HandRing_Judge_62 (show decode cX3_setTwo 48 = .ok (.getfield 62, 3) by decide +kernel) rfl (la_o hL (by decide) rfl) (la_r hL 52 rfl) ?_
  refine tr_iconst (pc' := 52) (v := (1 : Int32)) (show decode cX3_setTwo 51 = .ok (.iconst 1, 1) by decide +kernel) rfl (by decide) ?_
  refine tr_iload (pc' := 54) (show decode cX3_setTwo 52 = .ok (.iload 5, 2) by decide +kernel) rfl rfl ?_
  obtain ⟨μ6, eμ6, h⟩ := hm_bs h
  refine tp_sdI (pc' := 55) (show decode cX3_setTwo 54 = .ok (.iastore, 1) by decide +kernel) rfl (la_a hL (by decide) rfl) eμ6 ?_
  replace hL := hL.same (hm_sd_s eμ6)
  refine tr_aload_n (pc' := 56) (show decode cX3_setTwo 55 = .ok (.aload_n 0, 1) by decide +kernel) rfl rfl rfl ?_
  refine tr_getR (pc' := 59) fl_HandRing_Judge_16 (show decode cX3_setTwo 56 = .ok (.getfield 16, 3) by decide +kernel) rfl (la_o hL (by decide) rfl) (la_r hL 51 rfl) ?_
  refine tr_getR (pc' := 62) fl_HandRing_Judge_62 (show decode cX3_setTwo 59 = .ok (.getfield 62, 3) by decide +kernel) rfl (la_o hL (by decide) rfl) (la_r hL 52 rfl) ?_
  refine tr_iconst (pc' := 63) (v := (3 : Int32)) (show decode cX3_setTwo 62 = .ok (.iconst 3, 1) by decide +kernel) rfl (by decide) ?_
  refine tr_aload_n (pc' := 64) (show decode cX3_setTwo 63 = .ok (.aload_n 1, 1) by decide +kernel) rfl rfl rfl ?_
  refine tr_getR (pc' := 67) fl_HandRing_Judge_76 (show decode cX3_setTwo 64 = .ok (.getfield 76, 3) by decide +kernel) rfl (la_vo hL hv1) (la_v3 hL hv1) ?_
  refine tr_iload (pc' := 69) (show decode cX3_setTwo 67 = .ok (.iload 5, 2) by decide +kernel) rfl rfl ?_
  obtain ⟨x7, ex7, h⟩ := hm_bs h
  refine tp_ldI (pc' := 70) (show decode cX3_setTwo 69 = .ok (.iaload, 1) by decide +kernel) rfl (la_va3 hL hv1) ex7 ?_
  obtain ⟨μ8, eμ8, h⟩ := hm_bs h
  refine tp_sdI (pc' := 71) (show decode cX3_setTwo 70 = .ok (.iastore, 1) by decide +kernel) rfl (la_a hL (by decide) rfl) eμ8 ?_
  replace hL := hL.same (hm_sd_s eμ8)
  refine tr_aload_n (pc' := 72) (show decode cX3_setTwo 71 = .ok (.aload_n 0, 1) by decide +kernel) rfl rfl rfl ?_
  refine tr_getR (pc' := 75) fl_HandRing_Judge_16 (show decode cX3_setTwo 72 = .ok (.getfield 16, 3) by decide +kernel) rfl (la_o hL (by decide) rfl) (la_r hL 51 rfl) ?_
  refine tr_getR (pc' := 78) fl_HandRing_Judge_62 (show decode cX3_setTwo 75 = .ok (.getfield 62, 3) by decide +kernel) rfl (la_o hL (by decide) rfl) (la_r hL 52 rfl) ?_
  refine tr_iconst (pc' := 79) (v := (4 : Int32)) (show decode cX3_setTwo 78 = .ok (.iconst 4, 1) by decide +kernel) rfl (by decide) ?_
  refine tr_aload_n (pc' := 80) (show decode cX3_setTwo 79 = .ok (.aload_n 1, 1) by decide +kernel) rfl rfl rfl ?_
  refine tr_iload_n (pc' := 81) (show decode cX3_setTwo 80 = .ok (.iload_n 2, 1) by decide +kernel) rfl rfl rfl ?_
  refine tr_iload_n (pc' := 82) (show decode cX3_setTwo 81 = .ok (.iload_n 3, 1) by decide +kernel) rfl rfl rfl ?_
  obtain ⟨x9, ex9, h⟩ := hm_bs h
  have cx9 := ok_X8_farBetween (fr := fr - 1) (ν := ν) (by omega) v1 v2 v3 hv1 μ8 hL ex9
  refine tp_callV (pc' := 85) (As := [.int v2, .int v3]) (fr1 := fr - 1) (ci := 8) okm_X8_farBetween lk_HandRing_Judge_29 (show decode cX3_setTwo 82 = .ok (.invokevirtual 29, 3) by decide +kernel) rfl rfl rfl (by decide) (la_vo hL hv1) rfl rfl (Nat.le_of_ble_eq_true rfl) (by omega) cx9 (st' := [.int x9, .int (4 : Int32), .ref 109]) rfl ?_
  obtain ⟨μ10, eμ10, h⟩ := hm_bs h
  refine tp_sdI (pc' := 86) (show decode cX3_setTwo 85 = .ok (.iastore, 1) by decide +kernel) rfl (la_a hL (by decide) rfl) eμ10 ?_
  replace hL := hL.same (hm_sd_s eμ10)
  cases h
  exact tr_vret rfl (show decode cX3_setTwo 86 = .ok (.return_, 1) by decide +kernel) hL
def f_X3_setTwo_J10 (v1 : Nat) (v2 : Int32) (v3 : Int32) (s0 : Int32) (μ1 : hm_M) : Option hm_M :=
  (if v3 ≤ v2 then
  f_X3_setTwo_J22 v1 v2 v3 v2 s0 μ1
  else
  f_X3_setTwo_J22 v1 v2 v3 v3 s0 μ1)
theorem ok_X3_setTwo_J10 {fr : Nat} (hfr : 2 ≤ fr) {ν : hm_N} {μR : hm_M}  (v1 : Nat) (v2 : Int32) (v3 : Int32)   (hv1 : hm_V v1) (s0 : Int32) (μ1 : hm_M) (hL : hm_LL ν μ1) (h : f_X3_setTwo_J10 v1 v2 v3 s0 μ1 = some μR) : hm_T (hm_LL ν) m_X3_setTwo fr 0 0 none μR 10 [some (.ref 106), some (.ref v1), some (.int v2), some (.int v3), none, none] [.int s0] μ1 := by
  unfold f_X3_setTwo_J10 at h
  refine tr_istore (pc' := 12) (lv' := [some (.ref 106), some (.ref v1), some (.int v2), some (.int v3), some (.int s0), none]) (show decode cX3_setTwo 10 = .ok (.istore 4, 2) by decide +kernel) rfl (Nat.le_of_ble_eq_true rfl) rfl rfl ?_
  refine tr_iload_n (pc' := 13) (show decode cX3_setTwo 12 = .ok (.iload_n 2, 1) by decide +kernel) rfl rfl rfl ?_
  refine tr_iload_n (pc' := 14) (show decode cX3_setTwo 13 = .ok (.iload_n 3, 1) by decide +kernel) rfl rfl rfl ?_
  rcases hm_is h with ⟨hc, h⟩ | ⟨hc, h⟩
  · refine tr_icmp_ge_t (tgt := 21) hc (show decode cX3_setTwo 14 = .ok (.if_icmp .ge 7, 3) by decide +kernel) (by decide) ?_
    refine tr_iload_n (pc' := 22) (show decode cX3_setTwo 21 = .ok (.iload_n 2, 1) by decide +kernel) rfl rfl rfl ?_
    exact ok_X3_setTwo_J22 hfr _ _ _ hv1 v2 s0 μ1 hL h
  · refine tr_icmp_ge_f (tgt := 21) (pc' := 17) hc (show decode cX3_setTwo 14 = .ok (.if_icmp .ge 7, 3) by decide +kernel) (by decide) rfl ?_
    refine tr_iload_n (pc' := 18) (show decode cX3_setTwo 17 = .ok (.iload_n 3, 1) by decide +kernel) rfl rfl rfl ?_
    refine tr_goto (tgt := 22) (show decode cX3_setTwo 18 = .ok (.goto 4, 3) by decide +kernel) rfl ?_
    exact ok_X3_setTwo_J22 hfr _ _ _ hv1 v3 s0 μ1 hL h
def f_X3_setTwo (v1 : Nat) (v2 : Int32) (v3 : Int32) (μ : hm_M) : Option hm_M :=
  (if v3 ≤ v2 then
  f_X3_setTwo_J10 v1 v2 v3 v3 μ
  else
  f_X3_setTwo_J10 v1 v2 v3 v2 μ)
set_option maxRecDepth 100000 in
theorem ok_X3_setTwo {fr : Nat} (hfr : 2 ≤ fr) {ν : hm_N} {μR : hm_M}  (v1 : Nat) (v2 : Int32) (v3 : Int32) (hv1 : hm_V v1) (μ : hm_M) (hL : hm_LL ν μ) (h : f_X3_setTwo v1 v2 v3 μ = some μR) : hm_CC (hm_LL ν) m_X3_setTwo fr 0 0 [.ref 106, .ref v1, .int v2, .int v3] μ none μR := by
  refine hm_enter (lv := [some (.ref 106), some (.ref v1), some (.int v2), some (.int v3), none, none]) (by decide) rfl (Nat.le_of_ble_eq_true rfl) ?_
  unfold f_X3_setTwo at h
  refine tr_iload_n (pc' := 1) (show decode cX3_setTwo 0 = .ok (.iload_n 2, 1) by decide +kernel) rfl rfl rfl ?_
  refine tr_iload_n (pc' := 2) (show decode cX3_setTwo 1 = .ok (.iload_n 3, 1) by decide +kernel) rfl rfl rfl ?_
  rcases hm_is h with ⟨hc, h⟩ | ⟨hc, h⟩
  · refine tr_icmp_ge_t (tgt := 9) hc (show decode cX3_setTwo 2 = .ok (.if_icmp .ge 7, 3) by decide +kernel) (by decide) ?_
    refine tr_iload_n (pc' := 10) (show decode cX3_setTwo 9 = .ok (.iload_n 3, 1) by decide +kernel) rfl rfl rfl ?_
    exact ok_X3_setTwo_J10 hfr _ _ _ hv1 v3 μ hL h
  · refine tr_icmp_ge_f (tgt := 9) (pc' := 5) hc (show decode cX3_setTwo 2 = .ok (.if_icmp .ge 7, 3) by decide +kernel) (by decide) rfl ?_
    refine tr_iload_n (pc' := 6) (show decode cX3_setTwo 5 = .ok (.iload_n 2, 1) by decide +kernel) rfl rfl rfl ?_
    refine tr_goto (tgt := 10) (show decode cX3_setTwo 6 = .ok (.goto 4, 3) by decide +kernel) rfl ?_
    exact ok_X3_setTwo_J10 hfr _ _ _ hv1 v2 μ hL h
def f_X5_clausePart (o0 : Nat) (v1 : Int32) (v2 : Int32) (μ : hm_M) : Option Int32 :=
  (if ((v1 * (6 : Int32)) + v2) < 0 then
  some (0 : Int32)
  else
  (if (Int32.ofNat (hm_ln μ (o0 + 3))) ≤ ((v1 * (6 : Int32)) + v2) then
  some (0 : Int32)
  else
  Option.bind (hm_ld μ (o0 + 3) (hm_ln μ (o0 + 3)) ((v1 * (6 : Int32)) + v2)) fun x2 =>
  some x2))
set_option maxRecDepth 100000 in
theorem ok_X5_clausePart {fr : Nat} (hfr : 0 ≤ fr) {ν : hm_N} {r : Int32}  (o0 : Nat) (v1 : Int32) (v2 : Int32) (ho0 : hm_pg ν o0) (μ : hm_M) (hL : hm_LL ν μ) (h : f_X5_clausePart o0 v1 v2 μ = some r) : hm_CC (hm_LL ν) m_X5_clausePart fr 0 0 [.ref o0, .int v1, .int v2] μ (some (.int r)) μ := by
  refine hm_enter (lv := [some (.ref o0), some (.int v1), some (.int v2), none]) (by decide) rfl (Nat.le_of_ble_eq_true rfl) ?_
  unfold f_X5_clausePart at h
  refine tr_iload_n (pc' := 1) (show decode cX5_clausePart 0 = .ok (.iload_n 1, 1) by decide +kernel) rfl rfl rfl ?_
  refine tr_bipush (pc' := 3) (v := (6 : Int32)) (show decode cX5_clausePart 1 = .ok (.bipush 6, 2) by decide +kernel) rfl (by decide) ?_
  refine tr_imul (pc' := 4) (show decode cX5_clausePart 3 = .ok (.imul, 1) by decide +kernel) rfl ?_
  refine tr_iload_n (pc' := 5) (show decode cX5_clausePart 4 = .ok (.iload_n 2, 1) by decide +kernel) rfl rfl rfl ?_
  refine tr_iadd (pc' := 6) (show decode cX5_clausePart 5 = .ok (.iadd, 1) by decide +kernel) rfl ?_
  refine tr_istore_n (pc' := 7) (lv' := [some (.ref o0), some (.int v1), some (.int v2), some (.int ((v1 * (6 : Int32)) + v2))]) (show decode cX5_clausePart 6 = .ok (.istore_n 3, 1) by decide +kernel) rfl rfl (Nat.le_of_ble_eq_true rfl) rfl rfl ?_
  refine tr_iload_n (pc' := 8) (show decode cX5_clausePart 7 = .ok (.iload_n 3, 1) by decide +kernel) rfl rfl rfl ?_
  rcases hm_is h with ⟨hc, h⟩ | ⟨hc, h⟩
  · refine tr_if_lt_t (tgt := 29) hc (show decode cX5_clausePart 8 = .ok (.ifCond .lt 21, 3) by decide +kernel) (by decide) ?_
    refine tr_iconst (pc' := 30) (v := (0 : Int32)) (show decode cX5_clausePart 29 = .ok (.iconst 0, 1) by decide +kernel) rfl (by decide) ?_
    cases h
    exact tr_iret rfl (show decode cX5_clausePart 30 = .ok (.ireturn, 1) by decide +kernel) hL
  · refine tr_if_lt_f (tgt := 29) (pc' := 11) hc (show decode cX5_clausePart 8 = .ok (.ifCond .lt 21, 3) by decide +kernel) (by decide) rfl ?_
    refine tr_iload_n (pc' := 12) (show decode cX5_clausePart 11 = .ok (.iload_n 3, 1) by decide +kernel) rfl rfl rfl ?_
    refine tr_aload_n (pc' := 13) (show decode cX5_clausePart 12 = .ok (.aload_n 0, 1) by decide +kernel) rfl rfl rfl ?_
    refine tr_getR (pc' := 16) fl_HandRing_Program_22 (show decode cX5_clausePart 13 = .ok (.getfield 22, 3) by decide +kernel) rfl (la_po hL ho0) (la_pr2 hL ho0) ?_
    refine tr_alen (pc' := 17) (t0 := 2) (by decide) (fun _ => rfl) (show decode cX5_clausePart 16 = .ok (.arraylength, 1) by decide +kernel) rfl (la_pa3 hL ho0) ?_
    rcases hm_is h with ⟨hc, h⟩ | ⟨hc, h⟩
    · refine tr_icmp_ge_t (tgt := 29) hc (show decode cX5_clausePart 17 = .ok (.if_icmp .ge 12, 3) by decide +kernel) (by decide) ?_
      refine tr_iconst (pc' := 30) (v := (0 : Int32)) (show decode cX5_clausePart 29 = .ok (.iconst 0, 1) by decide +kernel) rfl (by decide) ?_
      cases h
      exact tr_iret rfl (show decode cX5_clausePart 30 = .ok (.ireturn, 1) by decide +kernel) hL
    · refine tr_icmp_ge_f (tgt := 29) (pc' := 20) hc (show decode cX5_clausePart 17 = .ok (.if_icmp .ge 12, 3) by decide +kernel) (by decide) rfl ?_
      refine tr_aload_n (pc' := 21) (show decode cX5_clausePart 20 = .ok (.aload_n 0, 1) by decide +kernel) rfl rfl rfl ?_
      refine tr_getR (pc' := 24) fl_HandRing_Program_22 (show decode cX5_clausePart 21 = .ok (.getfield 22, 3) by decide +kernel) rfl (la_po hL ho0) (la_pr2 hL ho0) ?_
      refine tr_iload_n (pc' := 25) (show decode cX5_clausePart 24 = .ok (.iload_n 3, 1) by decide +kernel) rfl rfl rfl ?_
      obtain ⟨x2, ex2, h⟩ := hm_bs h
      refine tp_ldI (pc' := 26) (show decode cX5_clausePart 25 = .ok (.iaload, 1) by decide +kernel) rfl (la_pa3 hL ho0) ex2 ?_
      refine tr_goto (tgt := 30) (show decode cX5_clausePart 26 = .ok (.goto 4, 3) by decide +kernel) rfl ?_
      cases h
      exact tr_iret rfl (show decode cX5_clausePart 30 = .ok (.ireturn, 1) by decide +kernel) hL
def f_X4_workOut (v0 : Int32) (v1 : Int64) (v3 : Int64) : Option Int64 :=
  (if v0 < (2 : Int32) ∨ (8 : Int32) < v0 then
  (if (lg_cmp v1 v3) = 0 then
  some (1 : Int64)
  else
  some (0 : Int64))
  else
  (if v0 = (2 : Int32) then
  some (v1 + v3)
  else
  (if v0 = (3 : Int32) then
  some (v1 - v3)
  else
  (if v0 = (4 : Int32) then
  some (v1 * v3)
  else
  (if v0 = (5 : Int32) then
  (if (lg_cmp v3 (0 : Int64)) = 0 then
  some (1000000001 : Int64)
  else
  Option.bind (hm_dvJ v1 v3) fun x3 =>
  some x3)
  else
  (if v0 = (6 : Int32) then
  (if (lg_cmp v3 (0 : Int64)) = 0 then
  some (1000000001 : Int64)
  else
  Option.bind (hm_rmJ v1 v3) fun x2 =>
  some x2)
  else
  (if v0 = (7 : Int32) then
  (if 0 ≤ (lg_cmp v1 v3) then
  some (0 : Int64)
  else
  some (1 : Int64))
  else
  (if v0 = (8 : Int32) then
  (if (lg_cmp v1 v3) ≤ 0 then
  some (0 : Int64)
  else
  some (1 : Int64))
  else
  none))))))))
set_option maxRecDepth 100000 in
theorem ok_X4_workOut {fr : Nat} (hfr : 0 ≤ fr) {ν : hm_N} {r : Int64}  (v0 : Int32) (v1 : Int64) (v3 : Int64)  (μ : hm_M) (hL : hm_LL ν μ) (h : f_X4_workOut v0 v1 v3 = some r) : hm_CC (hm_LL ν) m_X4_workOut fr 0 0 [.int v0, .long v1, .long v3] μ (some (.long r)) μ := by
  refine hm_enter (lv := [some (.int v0), some (.long v1), none, some (.long v3), none]) (by decide) rfl (Nat.le_of_ble_eq_true rfl) ?_
  unfold f_X4_workOut at h
  refine tr_iload_n (pc' := 1) (show decode cX4_workOut 0 = .ok (.iload_n 0, 1) by decide +kernel) rfl rfl rfl ?_
  rcases hm_is h with ⟨hc, h⟩ | ⟨-, h⟩
  · refine tp_tout (tgt := 112) hc (by decide) (by decide) (show decode cX4_workOut 1 = .ok (.tableswitch 111 2 8 #[43, 47, 51, 55, 71, 87, 99], 43) by decide +kernel) (by decide) ?_
    refine tr_lload_n (pc' := 113) (show decode cX4_workOut 112 = .ok (.lload_n 1, 1) by decide +kernel) rfl rfl rfl ?_
    refine tr_lload_n (pc' := 114) (show decode cX4_workOut 113 = .ok (.lload_n 3, 1) by decide +kernel) rfl rfl rfl ?_
    refine tr_lcmp (pc' := 115) (show decode cX4_workOut 114 = .ok (.lcmp, 1) by decide +kernel) rfl ?_
    rcases hm_is h with ⟨hc, h⟩ | ⟨hc, h⟩
    · refine tr_if_ne_f (tgt := 122) (pc' := 118) hc (show decode cX4_workOut 115 = .ok (.ifCond .ne 7, 3) by decide +kernel) (by decide) rfl ?_
      refine tr_lconst (pc' := 119) (v := (1 : Int64)) (show decode cX4_workOut 118 = .ok (.lconst 1, 1) by decide +kernel) rfl (by decide) ?_
      refine tr_goto (tgt := 123) (show decode cX4_workOut 119 = .ok (.goto 4, 3) by decide +kernel) rfl ?_
      cases h
      exact tr_lret rfl (show decode cX4_workOut 123 = .ok (.lreturn, 1) by decide +kernel) hL
    · refine tr_if_ne_t (tgt := 122) hc (show decode cX4_workOut 115 = .ok (.ifCond .ne 7, 3) by decide +kernel) (by decide) ?_
      refine tr_lconst (pc' := 123) (v := (0 : Int64)) (show decode cX4_workOut 122 = .ok (.lconst 0, 1) by decide +kernel) rfl (by decide) ?_
      cases h
      exact tr_lret rfl (show decode cX4_workOut 123 = .ok (.lreturn, 1) by decide +kernel) hL
  · rcases hm_is h with ⟨hc, h⟩ | ⟨-, h⟩
    · refine tp_tin (tgt := 44) (off := 43) hc (show decode cX4_workOut 1 = .ok (.tableswitch 111 2 8 #[43, 47, 51, 55, 71, 87, 99], 43) by decide +kernel) (by decide) (by decide) (by decide) (by decide) ?_
      refine tr_lload_n (pc' := 45) (show decode cX4_workOut 44 = .ok (.lload_n 1, 1) by decide +kernel) rfl rfl rfl ?_
      refine tr_lload_n (pc' := 46) (show decode cX4_workOut 45 = .ok (.lload_n 3, 1) by decide +kernel) rfl rfl rfl ?_
      refine tr_ladd (pc' := 47) (show decode cX4_workOut 46 = .ok (.ladd, 1) by decide +kernel) rfl ?_
      cases h
      exact tr_lret rfl (show decode cX4_workOut 47 = .ok (.lreturn, 1) by decide +kernel) hL
    · rcases hm_is h with ⟨hc, h⟩ | ⟨-, h⟩
      · refine tp_tin (tgt := 48) (off := 47) hc (show decode cX4_workOut 1 = .ok (.tableswitch 111 2 8 #[43, 47, 51, 55, 71, 87, 99], 43) by decide +kernel) (by decide) (by decide) (by decide) (by decide) ?_
        refine tr_lload_n (pc' := 49) (show decode cX4_workOut 48 = .ok (.lload_n 1, 1) by decide +kernel) rfl rfl rfl ?_
        refine tr_lload_n (pc' := 50) (show decode cX4_workOut 49 = .ok (.lload_n 3, 1) by decide +kernel) rfl rfl rfl ?_
        refine tr_lsub (pc' := 51) (show decode cX4_workOut 50 = .ok (.lsub, 1) by decide +kernel) rfl ?_
        cases h
        exact tr_lret rfl (show decode cX4_workOut 51 = .ok (.lreturn, 1) by decide +kernel) hL
      · rcases hm_is h with ⟨hc, h⟩ | ⟨-, h⟩
        · refine tp_tin (tgt := 52) (off := 51) hc (show decode cX4_workOut 1 = .ok (.tableswitch 111 2 8 #[43, 47, 51, 55, 71, 87, 99], 43) by decide +kernel) (by decide) (by decide) (by decide) (by decide) ?_
          refine tr_lload_n (pc' := 53) (show decode cX4_workOut 52 = .ok (.lload_n 1, 1) by decide +kernel) rfl rfl rfl ?_
          refine tr_lload_n (pc' := 54) (show decode cX4_workOut 53 = .ok (.lload_n 3, 1) by decide +kernel) rfl rfl rfl ?_
          refine tr_lmul (pc' := 55) (show decode cX4_workOut 54 = .ok (.lmul, 1) by decide +kernel) rfl ?_
          cases h
          exact tr_lret rfl (show decode cX4_workOut 55 = .ok (.lreturn, 1) by decide +kernel) hL
        · rcases hm_is h with ⟨hc, h⟩ | ⟨-, h⟩
          · refine tp_tin (tgt := 56) (off := 55) hc (show decode cX4_workOut 1 = .ok (.tableswitch 111 2 8 #[43, 47, 51, 55, 71, 87, 99], 43) by decide +kernel) (by decide) (by decide) (by decide) (by decide) ?_
            refine tr_lload_n (pc' := 57) (show decode cX4_workOut 56 = .ok (.lload_n 3, 1) by decide +kernel) rfl rfl rfl ?_
            refine tr_lconst (pc' := 58) (v := (0 : Int64)) (show decode cX4_workOut 57 = .ok (.lconst 0, 1) by decide +kernel) rfl (by decide) ?_
            refine tr_lcmp (pc' := 59) (show decode cX4_workOut 58 = .ok (.lcmp, 1) by decide +kernel) rfl ?_
            rcases hm_is h with ⟨hc, h⟩ | ⟨hc, h⟩
            · refine tr_if_ne_f (tgt := 68) (pc' := 62) hc (show decode cX4_workOut 59 = .ok (.ifCond .ne 9, 3) by decide +kernel) (by decide) rfl ?_
              refine tr_ldc2 (pc' := 65) (v := (1000000001 : Int64)) (show decode cX4_workOut 62 = .ok (.ldc2_w 48, 3) by decide +kernel) rfl kd_HandRing_Machine_48 ?_
              refine tr_goto (tgt := 71) (show decode cX4_workOut 65 = .ok (.goto 6, 3) by decide +kernel) rfl ?_
              cases h
              exact tr_lret rfl (show decode cX4_workOut 71 = .ok (.lreturn, 1) by decide +kernel) hL
            · refine tr_if_ne_t (tgt := 68) hc (show decode cX4_workOut 59 = .ok (.ifCond .ne 9, 3) by decide +kernel) (by decide) ?_
              refine tr_lload_n (pc' := 69) (show decode cX4_workOut 68 = .ok (.lload_n 1, 1) by decide +kernel) rfl rfl rfl ?_
              refine tr_lload_n (pc' := 70) (show decode cX4_workOut 69 = .ok (.lload_n 3, 1) by decide +kernel) rfl rfl rfl ?_
              obtain ⟨x3, ex3, h⟩ := hm_bs h
              refine tp_dvJ (pc' := 71) (show decode cX4_workOut 70 = .ok (.ldiv, 1) by decide +kernel) rfl ex3 ?_
              cases h
              exact tr_lret rfl (show decode cX4_workOut 71 = .ok (.lreturn, 1) by decide +kernel) hL
          · rcases hm_is h with ⟨hc, h⟩ | ⟨-, h⟩
            · refine tp_tin (tgt := 72) (off := 71) hc (show decode cX4_workOut 1 = .ok (.tableswitch 111 2 8 #[43, 47, 51, 55, 71, 87, 99], 43) by decide +kernel) (by decide) (by decide) (by decide) (by decide) ?_
              refine tr_lload_n (pc' := 73) (show decode cX4_workOut 72 = .ok (.lload_n 3, 1) by decide +kernel) rfl rfl rfl ?_
              refine tr_lconst (pc' := 74) (v := (0 : Int64)) (show decode cX4_workOut 73 = .ok (.lconst 0, 1) by decide +kernel) rfl (by decide) ?_
              refine tr_lcmp (pc' := 75) (show decode cX4_workOut 74 = .ok (.lcmp, 1) by decide +kernel) rfl ?_
              rcases hm_is h with ⟨hc, h⟩ | ⟨hc, h⟩
              · refine tr_if_ne_f (tgt := 84) (pc' := 78) hc (show decode cX4_workOut 75 = .ok (.ifCond .ne 9, 3) by decide +kernel) (by decide) rfl ?_
                refine tr_ldc2 (pc' := 81) (v := (1000000001 : Int64)) (show decode cX4_workOut 78 = .ok (.ldc2_w 48, 3) by decide +kernel) rfl kd_HandRing_Machine_48 ?_
                refine tr_goto (tgt := 87) (show decode cX4_workOut 81 = .ok (.goto 6, 3) by decide +kernel) rfl ?_
                cases h
                exact tr_lret rfl (show decode cX4_workOut 87 = .ok (.lreturn, 1) by decide +kernel) hL
              · refine tr_if_ne_t (tgt := 84) hc (show decode cX4_workOut 75 = .ok (.ifCond .ne 9, 3) by decide +kernel) (by decide) ?_
                refine tr_lload_n (pc' := 85) (show decode cX4_workOut 84 = .ok (.lload_n 1, 1) by decide +kernel) rfl rfl rfl ?_
                refine tr_lload_n (pc' := 86) (show decode cX4_workOut 85 = .ok (.lload_n 3, 1) by decide +kernel) rfl rfl rfl ?_
                obtain ⟨x2, ex2, h⟩ := hm_bs h
                refine tp_rmJ (pc' := 87) (show decode cX4_workOut 86 = .ok (.lrem, 1) by decide +kernel) rfl ex2 ?_
                cases h
                exact tr_lret rfl (show decode cX4_workOut 87 = .ok (.lreturn, 1) by decide +kernel) hL
            · rcases hm_is h with ⟨hc, h⟩ | ⟨-, h⟩
              · refine tp_tin (tgt := 88) (off := 87) hc (show decode cX4_workOut 1 = .ok (.tableswitch 111 2 8 #[43, 47, 51, 55, 71, 87, 99], 43) by decide +kernel) (by decide) (by decide) (by decide) (by decide) ?_
                refine tr_lload_n (pc' := 89) (show decode cX4_workOut 88 = .ok (.lload_n 1, 1) by decide +kernel) rfl rfl rfl ?_
                refine tr_lload_n (pc' := 90) (show decode cX4_workOut 89 = .ok (.lload_n 3, 1) by decide +kernel) rfl rfl rfl ?_
                refine tr_lcmp (pc' := 91) (show decode cX4_workOut 90 = .ok (.lcmp, 1) by decide +kernel) rfl ?_
                rcases hm_is h with ⟨hc, h⟩ | ⟨hc, h⟩
                · refine tr_if_ge_t (tgt := 98) hc (show decode cX4_workOut 91 = .ok (.ifCond .ge 7, 3) by decide +kernel) (by decide) ?_
                  refine tr_lconst (pc' := 99) (v := (0 : Int64)) (show decode cX4_workOut 98 = .ok (.lconst 0, 1) by decide +kernel) rfl (by decide) ?_
                  cases h
                  exact tr_lret rfl (show decode cX4_workOut 99 = .ok (.lreturn, 1) by decide +kernel) hL
                · refine tr_if_ge_f (tgt := 98) (pc' := 94) hc (show decode cX4_workOut 91 = .ok (.ifCond .ge 7, 3) by decide +kernel) (by decide) rfl ?_
                  refine tr_lconst (pc' := 95) (v := (1 : Int64)) (show decode cX4_workOut 94 = .ok (.lconst 1, 1) by decide +kernel) rfl (by decide) ?_
                  refine tr_goto (tgt := 99) (show decode cX4_workOut 95 = .ok (.goto 4, 3) by decide +kernel) rfl ?_
                  cases h
                  exact tr_lret rfl (show decode cX4_workOut 99 = .ok (.lreturn, 1) by decide +kernel) hL
              · rcases hm_is h with ⟨hc, h⟩ | ⟨-, h⟩
                · refine tp_tin (tgt := 100) (off := 99) hc (show decode cX4_workOut 1 = .ok (.tableswitch 111 2 8 #[43, 47, 51, 55, 71, 87, 99], 43) by decide +kernel) (by decide) (by decide) (by decide) (by decide) ?_
                  refine tr_lload_n (pc' := 101) (show decode cX4_workOut 100 = .ok (.lload_n 1, 1) by decide +kernel) rfl rfl rfl ?_
                  refine tr_lload_n (pc' := 102) (show decode cX4_workOut 101 = .ok (.lload_n 3, 1) by decide +kernel) rfl rfl rfl ?_
                  refine tr_lcmp (pc' := 103) (show decode cX4_workOut 102 = .ok (.lcmp, 1) by decide +kernel) rfl ?_
                  rcases hm_is h with ⟨hc, h⟩ | ⟨hc, h⟩
                  · refine tr_if_le_t (tgt := 110) hc (show decode cX4_workOut 103 = .ok (.ifCond .le 7, 3) by decide +kernel) (by decide) ?_
                    refine tr_lconst (pc' := 111) (v := (0 : Int64)) (show decode cX4_workOut 110 = .ok (.lconst 0, 1) by decide +kernel) rfl (by decide) ?_
                    cases h
                    exact tr_lret rfl (show decode cX4_workOut 111 = .ok (.lreturn, 1) by decide +kernel) hL
                  · refine tr_if_le_f (tgt := 110) (pc' := 106) hc (show decode cX4_workOut 103 = .ok (.ifCond .le 7, 3) by decide +kernel) (by decide) rfl ?_
                    refine tr_lconst (pc' := 107) (v := (1 : Int64)) (show decode cX4_workOut 106 = .ok (.lconst 1, 1) by decide +kernel) rfl (by decide) ?_
                    refine tr_goto (tgt := 111) (show decode cX4_workOut 107 = .ok (.goto 4, 3) by decide +kernel) rfl ?_
                    cases h
                    exact tr_lret rfl (show decode cX4_workOut 111 = .ok (.lreturn, 1) by decide +kernel) hL
                · cases h
def f_X4_run_J360 (o0 : Nat) (v1 : Nat) (v2 : Int32) (v3 : Int32) (c30 : Int32 → Int32 → Int32 → hm_M → Option (Int32 × hm_M)) (e366 : Int32 → hm_M → Option (Int32 × hm_M)) (y4 : Int32) (y5 : Int32) (y6 : Int32) (μ1 : hm_M) : Option (Int32 × hm_M) :=
  c30 y4 y5 (y6 + (1 : Int32)) μ1
theorem ok_X4_run_J360 {fr : Nat} (hfr : 1 ≤ fr) {ν : hm_N} {r : Int32} {μR : hm_M}  (o0 : Nat) (v1 : Nat) (v2 : Int32) (v3 : Int32) (c30 : Int32 → Int32 → Int32 → hm_M → Option (Int32 × hm_M)) (e366 : Int32 → hm_M → Option (Int32 × hm_M)) (hc30 : ∀ (y4 : Int32) (y5 : Int32) (y6 : Int32)  (μ1 : hm_M), hm_LL ν μ1 → c30 y4 y5 y6 μ1 = some (r, μR) → hm_T (hm_LL ν) m_X4_run fr 0 0 (some (.int r)) μR 30 [some (.ref o0), some (.ref v1), none, some (.int v3), some (.int y4), some (.int y5), some (.int y6), none, none, none, none] [] μ1) (he366 : ∀ (y4 : Int32)  (μ1 : hm_M), hm_LL ν μ1 → e366 y4 μ1 = some (r, μR) → hm_T (hm_LL ν) m_X4_run fr 0 0 (some (.int r)) μR 366 [some (.ref o0), none, none, none, some (.int y4), none, none, none, none, none, none] [] μ1) (ho0 : hm_Q o0) (hv1 : hm_pg ν v1) (y4 : Int32) (y5 : Int32) (y6 : Int32) (μ1 : hm_M) (hL : hm_LL ν μ1) (h : f_X4_run_J360 o0 v1 v2 v3 c30 e366 y4 y5 y6 μ1 = some (r, μR)) : hm_T (hm_LL ν) m_X4_run fr 0 0 (some (.int r)) μR 360 [some (.ref o0), some (.ref v1), none, some (.int v3), some (.int y4), some (.int y5), some (.int y6), none, none, none, none] [] μ1 := by
  unfold f_X4_run_J360 at h
  refine tr_iinc (pc' := 363) (v := y6 + (1 : Int32)) (lv' := [some (.ref o0), some (.ref v1), none, some (.int v3), some (.int y4), some (.int y5), some (.int (y6 + (1 : Int32))), none, none, none, none]) (show decode cX4_run 360 = .ok (.iinc 6 1, 3) by decide +kernel) rfl rfl rfl (Nat.le_of_ble_eq_true rfl) rfl rfl ?_
  refine tr_goto (tgt := 30) (show decode cX4_run 363 = .ok (.goto (-333), 3) by decide +kernel) rfl ?_
  exact hc30 y4 y5 (y6 + (1 : Int32)) μ1 hL h
def f_X4_run_J153 (o0 : Nat) (v1 : Nat) (v2 : Int32) (v3 : Int32) (c30 : Int32 → Int32 → Int32 → hm_M → Option (Int32 × hm_M)) (e366 : Int32 → hm_M → Option (Int32 × hm_M)) (s0 : Int32) (s1 : Int32) (y4 : Int32) (y5 : Int32) (y6 : Int32) (μ1 : hm_M) : Option (Int32 × hm_M) :=
  Option.bind (hm_sd μ1 (o0 + 1) 64 s1 s0) fun μ7 =>
  f_X4_run_J360 o0 v1 v2 v3 c30 e366 y4 y5 y6 μ7
theorem ok_X4_run_J153 {fr : Nat} (hfr : 1 ≤ fr) {ν : hm_N} {r : Int32} {μR : hm_M}  (o0 : Nat) (v1 : Nat) (v2 : Int32) (v3 : Int32) (c30 : Int32 → Int32 → Int32 → hm_M → Option (Int32 × hm_M)) (e366 : Int32 → hm_M → Option (Int32 × hm_M)) (hc30 : ∀ (y4 : Int32) (y5 : Int32) (y6 : Int32)  (μ1 : hm_M), hm_LL ν μ1 → c30 y4 y5 y6 μ1 = some (r, μR) → hm_T (hm_LL ν) m_X4_run fr 0 0 (some (.int r)) μR 30 [some (.ref o0), some (.ref v1), none, some (.int v3), some (.int y4), some (.int y5), some (.int y6), none, none, none, none] [] μ1) (he366 : ∀ (y4 : Int32)  (μ1 : hm_M), hm_LL ν μ1 → e366 y4 μ1 = some (r, μR) → hm_T (hm_LL ν) m_X4_run fr 0 0 (some (.int r)) μR 366 [some (.ref o0), none, none, none, some (.int y4), none, none, none, none, none, none] [] μ1) (ho0 : hm_Q o0) (hv1 : hm_pg ν v1) (s0 : Int32) (s1 : Int32) (y4 : Int32) (y5 : Int32) (y6 : Int32) (μ1 : hm_M) (hL : hm_LL ν μ1) (h : f_X4_run_J153 o0 v1 v2 v3 c30 e366 s0 s1 y4 y5 y6 μ1 = some (r, μR)) : hm_T (hm_LL ν) m_X4_run fr 0 0 (some (.int r)) μR 153 [some (.ref o0), some (.ref v1), none, some (.int v3), some (.int y4), some (.int y5), some (.int y6), none, none, none, none] [.int s0, .int s1, .ref (o0 + 1)] μ1 := by
  unfold f_X4_run_J153 at h
  obtain ⟨μ7, eμ7, h⟩ := hm_bs h
  refine tp_sdI (pc' := 154) (show decode cX4_run 153 = .ok (.iastore, 1) by decide +kernel) rfl (la_qa1 hL ho0) eμ7 ?_
  replace hL := hL.same (hm_sd_s eμ7)
  refine tr_goto (tgt := 360) (show decode cX4_run 154 = .ok (.goto 206, 3) by decide +kernel) rfl ?_
  exact ok_X4_run_J360 hfr _ _ _ _ c30 e366 hc30 he366 ho0 hv1 y4 y5 y6 μ7 hL h
def f_X4_run_J120 (o0 : Nat) (v1 : Nat) (v2 : Int32) (v3 : Int32) (c30 : Int32 → Int32 → Int32 → hm_M → Option (Int32 × hm_M)) (e366 : Int32 → hm_M → Option (Int32 × hm_M)) (s0 : Int32) (y4 : Int32) (y5 : Int32) (y6 : Int32) (y7 : Int32) (y8 : Int32) (μ1 : hm_M) : Option (Int32 × hm_M) :=
  Option.bind (hm_pZ μ1 o0 2 s0) fun μ5 =>
  (if (μ5.1 o0 2) = 0 then
  (if y7 = 0 then
  f_X4_run_J153 o0 v1 v2 v3 c30 e366 y8 y4 y4 y5 y6 μ5
  else
  Option.bind (hm_ld μ5 (o0 + 2) (hm_ln μ5 (o0 + 2)) y8) fun x6 =>
  f_X4_run_J153 o0 v1 v2 v3 c30 e366 x6 y4 y4 y5 y6 μ5)
  else
  f_X4_run_J360 o0 v1 v2 v3 c30 e366 y4 y5 y6 μ5)
theorem ok_X4_run_J120 {fr : Nat} (hfr : 1 ≤ fr) {ν : hm_N} {r : Int32} {μR : hm_M}  (o0 : Nat) (v1 : Nat) (v2 : Int32) (v3 : Int32) (c30 : Int32 → Int32 → Int32 → hm_M → Option (Int32 × hm_M)) (e366 : Int32 → hm_M → Option (Int32 × hm_M)) (hc30 : ∀ (y4 : Int32) (y5 : Int32) (y6 : Int32)  (μ1 : hm_M), hm_LL ν μ1 → c30 y4 y5 y6 μ1 = some (r, μR) → hm_T (hm_LL ν) m_X4_run fr 0 0 (some (.int r)) μR 30 [some (.ref o0), some (.ref v1), none, some (.int v3), some (.int y4), some (.int y5), some (.int y6), none, none, none, none] [] μ1) (he366 : ∀ (y4 : Int32)  (μ1 : hm_M), hm_LL ν μ1 → e366 y4 μ1 = some (r, μR) → hm_T (hm_LL ν) m_X4_run fr 0 0 (some (.int r)) μR 366 [some (.ref o0), none, none, none, some (.int y4), none, none, none, none, none, none] [] μ1) (ho0 : hm_Q o0) (hv1 : hm_pg ν v1) (s0 : Int32) (y4 : Int32) (y5 : Int32) (y6 : Int32) (y7 : Int32) (y8 : Int32) (μ1 : hm_M) (hL : hm_LL ν μ1) (h : f_X4_run_J120 o0 v1 v2 v3 c30 e366 s0 y4 y5 y6 y7 y8 μ1 = some (r, μR)) : hm_T (hm_LL ν) m_X4_run fr 0 0 (some (.int r)) μR 120 [some (.ref o0), some (.ref v1), none, some (.int v3), some (.int y4), some (.int y5), some (.int y6), some (.int y7), some (.int y8), none, none] [.int s0, .ref o0] μ1 := by
  unfold f_X4_run_J120 at h
  obtain ⟨μ5, eμ5, h⟩ := hm_bs h
  refine tp_pZ (pc' := 123) fl_HandRing_Machine_30 (show decode cX4_run 120 = .ok (.putfield 30, 3) by decide +kernel) rfl (la_qo hL ho0) eμ5 ?_
  replace hL := hL.same (hm_pZ_s eμ5)
  refine tr_aload_n (pc' := 124) (show decode cX4_run 123 = .ok (.aload_n 0, 1) by decide +kernel) rfl rfl rfl ?_
  refine tr_getI (pc' := 127) fl_HandRing_Machine_30 (show decode cX4_run 124 = .ok (.getfield 30, 3) by decide +kernel) rfl (la_qo hL ho0) ?_
  rcases hm_is h with ⟨hc, h⟩ | ⟨hc, h⟩
  · refine tr_if_ne_f (tgt := 360) (pc' := 130) hc (show decode cX4_run 127 = .ok (.ifCond .ne 233, 3) by decide +kernel) (by decide) rfl ?_
    refine tr_aload_n (pc' := 131) (show decode cX4_run 130 = .ok (.aload_n 0, 1) by decide +kernel) rfl rfl rfl ?_
    refine tr_getR (pc' := 134) fl_HandRing_Machine_11 (show decode cX4_run 131 = .ok (.getfield 11, 3) by decide +kernel) rfl (la_qo hL ho0) (la_q1 hL ho0) ?_
    refine tr_iload (pc' := 136) (show decode cX4_run 134 = .ok (.iload 4, 2) by decide +kernel) rfl rfl ?_
    refine tr_iload (pc' := 138) (show decode cX4_run 136 = .ok (.iload 7, 2) by decide +kernel) rfl rfl ?_
    rcases hm_is h with ⟨hc, h⟩ | ⟨hc, h⟩
    · refine tr_if_ne_f (tgt := 146) (pc' := 141) hc (show decode cX4_run 138 = .ok (.ifCond .ne 8, 3) by decide +kernel) (by decide) rfl ?_
      refine tr_iload (pc' := 143) (show decode cX4_run 141 = .ok (.iload 8, 2) by decide +kernel) rfl rfl ?_
      refine tr_goto (tgt := 153) (show decode cX4_run 143 = .ok (.goto 10, 3) by decide +kernel) rfl ?_
      refine hm_fgt [true, true, false, true, true, true, true, false, false, false, false] (lv' := [some (.ref o0), some (.ref v1), none, some (.int v3), some (.int y4), some (.int y5), some (.int y6), none, none, none, none]) rfl ?_
      exact ok_X4_run_J153 hfr _ _ _ _ c30 e366 hc30 he366 ho0 hv1 y8 y4 y4 y5 y6 μ5 hL h
    · refine tr_if_ne_t (tgt := 146) hc (show decode cX4_run 138 = .ok (.ifCond .ne 8, 3) by decide +kernel) (by decide) ?_
      refine tr_aload_n (pc' := 147) (show decode cX4_run 146 = .ok (.aload_n 0, 1) by decide +kernel) rfl rfl rfl ?_
      refine tr_getR (pc' := 150) fl_HandRing_Machine_21 (show decode cX4_run 147 = .ok (.getfield 21, 3) by decide +kernel) rfl (la_qo hL ho0) (la_q0 hL ho0) ?_
      refine tr_iload (pc' := 152) (show decode cX4_run 150 = .ok (.iload 8, 2) by decide +kernel) rfl rfl ?_
      obtain ⟨x6, ex6, h⟩ := hm_bs h
      refine tp_ldI (pc' := 153) (show decode cX4_run 152 = .ok (.iaload, 1) by decide +kernel) rfl (la_qa0 hL ho0) ex6 ?_
      refine hm_fgt [true, true, false, true, true, true, true, false, false, false, false] (lv' := [some (.ref o0), some (.ref v1), none, some (.int v3), some (.int y4), some (.int y5), some (.int y6), none, none, none, none]) rfl ?_
      exact ok_X4_run_J153 hfr _ _ _ _ c30 e366 hc30 he366 ho0 hv1 x6 y4 y4 y5 y6 μ5 hL h
  · refine tr_if_ne_t (tgt := 360) hc (show decode cX4_run 127 = .ok (.ifCond .ne 233, 3) by decide +kernel) (by decide) ?_
    refine hm_fgt [true, true, false, true, true, true, true, false, false, false, false] (lv' := [some (.ref o0), some (.ref v1), none, some (.int v3), some (.int y4), some (.int y5), some (.int y6), none, none, none, none]) rfl ?_
    exact ok_X4_run_J360 hfr _ _ _ _ c30 e366 hc30 he366 ho0 hv1 y4 y5 y6 μ5 hL h
def f_X4_run_J115 (o0 : Nat) (v1 : Nat) (v2 : Int32) (v3 : Int32) (c30 : Int32 → Int32 → Int32 → hm_M → Option (Int32 × hm_M)) (e366 : Int32 → hm_M → Option (Int32 × hm_M)) (y4 : Int32) (y5 : Int32) (y6 : Int32) (y7 : Int32) (y8 : Int32) (μ1 : hm_M) : Option (Int32 × hm_M) :=
  f_X4_run_J120 o0 v1 v2 v3 c30 e366 (1 : Int32) y4 y5 y6 y7 y8 μ1
theorem ok_X4_run_J115 {fr : Nat} (hfr : 1 ≤ fr) {ν : hm_N} {r : Int32} {μR : hm_M}  (o0 : Nat) (v1 : Nat) (v2 : Int32) (v3 : Int32) (c30 : Int32 → Int32 → Int32 → hm_M → Option (Int32 × hm_M)) (e366 : Int32 → hm_M → Option (Int32 × hm_M)) (hc30 : ∀ (y4 : Int32) (y5 : Int32) (y6 : Int32)  (μ1 : hm_M), hm_LL ν μ1 → c30 y4 y5 y6 μ1 = some (r, μR) → hm_T (hm_LL ν) m_X4_run fr 0 0 (some (.int r)) μR 30 [some (.ref o0), some (.ref v1), none, some (.int v3), some (.int y4), some (.int y5), some (.int y6), none, none, none, none] [] μ1) (he366 : ∀ (y4 : Int32)  (μ1 : hm_M), hm_LL ν μ1 → e366 y4 μ1 = some (r, μR) → hm_T (hm_LL ν) m_X4_run fr 0 0 (some (.int r)) μR 366 [some (.ref o0), none, none, none, some (.int y4), none, none, none, none, none, none] [] μ1) (ho0 : hm_Q o0) (hv1 : hm_pg ν v1) (y4 : Int32) (y5 : Int32) (y6 : Int32) (y7 : Int32) (y8 : Int32) (μ1 : hm_M) (hL : hm_LL ν μ1) (h : f_X4_run_J115 o0 v1 v2 v3 c30 e366 y4 y5 y6 y7 y8 μ1 = some (r, μR)) : hm_T (hm_LL ν) m_X4_run fr 0 0 (some (.int r)) μR 115 [some (.ref o0), some (.ref v1), none, some (.int v3), some (.int y4), some (.int y5), some (.int y6), some (.int y7), some (.int y8), none, none] [.ref o0] μ1 := by
  unfold f_X4_run_J115 at h
  refine tr_iconst (pc' := 116) (v := (1 : Int32)) (show decode cX4_run 115 = .ok (.iconst 1, 1) by decide +kernel) rfl (by decide) ?_
  refine tr_goto (tgt := 120) (show decode cX4_run 116 = .ok (.goto 4, 3) by decide +kernel) rfl ?_
  exact ok_X4_run_J120 hfr _ _ _ _ c30 e366 hc30 he366 ho0 hv1 (1 : Int32) y4 y5 y6 y7 y8 μ1 hL h
def f_X4_run_J119 (o0 : Nat) (v1 : Nat) (v2 : Int32) (v3 : Int32) (c30 : Int32 → Int32 → Int32 → hm_M → Option (Int32 × hm_M)) (e366 : Int32 → hm_M → Option (Int32 × hm_M)) (y4 : Int32) (y5 : Int32) (y6 : Int32) (y7 : Int32) (y8 : Int32) (μ1 : hm_M) : Option (Int32 × hm_M) :=
  f_X4_run_J120 o0 v1 v2 v3 c30 e366 (0 : Int32) y4 y5 y6 y7 y8 μ1
theorem ok_X4_run_J119 {fr : Nat} (hfr : 1 ≤ fr) {ν : hm_N} {r : Int32} {μR : hm_M}  (o0 : Nat) (v1 : Nat) (v2 : Int32) (v3 : Int32) (c30 : Int32 → Int32 → Int32 → hm_M → Option (Int32 × hm_M)) (e366 : Int32 → hm_M → Option (Int32 × hm_M)) (hc30 : ∀ (y4 : Int32) (y5 : Int32) (y6 : Int32)  (μ1 : hm_M), hm_LL ν μ1 → c30 y4 y5 y6 μ1 = some (r, μR) → hm_T (hm_LL ν) m_X4_run fr 0 0 (some (.int r)) μR 30 [some (.ref o0), some (.ref v1), none, some (.int v3), some (.int y4), some (.int y5), some (.int y6), none, none, none, none] [] μ1) (he366 : ∀ (y4 : Int32)  (μ1 : hm_M), hm_LL ν μ1 → e366 y4 μ1 = some (r, μR) → hm_T (hm_LL ν) m_X4_run fr 0 0 (some (.int r)) μR 366 [some (.ref o0), none, none, none, some (.int y4), none, none, none, none, none, none] [] μ1) (ho0 : hm_Q o0) (hv1 : hm_pg ν v1) (y4 : Int32) (y5 : Int32) (y6 : Int32) (y7 : Int32) (y8 : Int32) (μ1 : hm_M) (hL : hm_LL ν μ1) (h : f_X4_run_J119 o0 v1 v2 v3 c30 e366 y4 y5 y6 y7 y8 μ1 = some (r, μR)) : hm_T (hm_LL ν) m_X4_run fr 0 0 (some (.int r)) μR 119 [some (.ref o0), some (.ref v1), none, some (.int v3), some (.int y4), some (.int y5), some (.int y6), some (.int y7), some (.int y8), none, none] [.ref o0] μ1 := by
  unfold f_X4_run_J119 at h
  refine tr_iconst (pc' := 120) (v := (0 : Int32)) (show decode cX4_run 119 = .ok (.iconst 0, 1) by decide +kernel) rfl (by decide) ?_
  exact ok_X4_run_J120 hfr _ _ _ _ c30 e366 hc30 he366 ho0 hv1 (0 : Int32) y4 y5 y6 y7 y8 μ1 hL h
def f_X4_run_J83 (o0 : Nat) (v1 : Nat) (v2 : Int32) (v3 : Int32) (c30 : Int32 → Int32 → Int32 → hm_M → Option (Int32 × hm_M)) (e366 : Int32 → hm_M → Option (Int32 × hm_M)) (y4 : Int32) (y5 : Int32) (y6 : Int32) (y7 : Int32) (y8 : Int32) (μ1 : hm_M) : Option (Int32 × hm_M) :=
  (if (64 : Int32) ≤ (y4 + (1 : Int32)) then
  f_X4_run_J115 o0 v1 v2 v3 c30 e366 (y4 + (1 : Int32)) y5 y6 y7 y8 μ1
  else
  (if y7 = (1 : Int32) then
  (if y8 < 0 then
  f_X4_run_J115 o0 v1 v2 v3 c30 e366 (y4 + (1 : Int32)) y5 y6 y7 y8 μ1
  else
  (if y8 < (Int32.ofNat (hm_ln μ1 (o0 + 2))) then
  f_X4_run_J119 o0 v1 v2 v3 c30 e366 (y4 + (1 : Int32)) y5 y6 y7 y8 μ1
  else
  f_X4_run_J115 o0 v1 v2 v3 c30 e366 (y4 + (1 : Int32)) y5 y6 y7 y8 μ1))
  else
  f_X4_run_J119 o0 v1 v2 v3 c30 e366 (y4 + (1 : Int32)) y5 y6 y7 y8 μ1))
theorem ok_X4_run_J83 {fr : Nat} (hfr : 1 ≤ fr) {ν : hm_N} {r : Int32} {μR : hm_M}  (o0 : Nat) (v1 : Nat) (v2 : Int32) (v3 : Int32) (c30 : Int32 → Int32 → Int32 → hm_M → Option (Int32 × hm_M)) (e366 : Int32 → hm_M → Option (Int32 × hm_M)) (hc30 : ∀ (y4 : Int32) (y5 : Int32) (y6 : Int32)  (μ1 : hm_M), hm_LL ν μ1 → c30 y4 y5 y6 μ1 = some (r, μR) → hm_T (hm_LL ν) m_X4_run fr 0 0 (some (.int r)) μR 30 [some (.ref o0), some (.ref v1), none, some (.int v3), some (.int y4), some (.int y5), some (.int y6), none, none, none, none] [] μ1) (he366 : ∀ (y4 : Int32)  (μ1 : hm_M), hm_LL ν μ1 → e366 y4 μ1 = some (r, μR) → hm_T (hm_LL ν) m_X4_run fr 0 0 (some (.int r)) μR 366 [some (.ref o0), none, none, none, some (.int y4), none, none, none, none, none, none] [] μ1) (ho0 : hm_Q o0) (hv1 : hm_pg ν v1) (y4 : Int32) (y5 : Int32) (y6 : Int32) (y7 : Int32) (y8 : Int32) (μ1 : hm_M) (hL : hm_LL ν μ1) (h : f_X4_run_J83 o0 v1 v2 v3 c30 e366 y4 y5 y6 y7 y8 μ1 = some (r, μR)) : hm_T (hm_LL ν) m_X4_run fr 0 0 (some (.int r)) μR 83 [some (.ref o0), some (.ref v1), none, some (.int v3), some (.int y4), some (.int y5), some (.int y6), some (.int y7), some (.int y8), none, none] [] μ1 := by
  unfold f_X4_run_J83 at h
  refine tr_iinc (pc' := 86) (v := y4 + (1 : Int32)) (lv' := [some (.ref o0), some (.ref v1), none, some (.int v3), some (.int (y4 + (1 : Int32))), some (.int y5), some (.int y6), some (.int y7), some (.int y8), none, none]) (show decode cX4_run 83 = .ok (.iinc 4 1, 3) by decide +kernel) rfl rfl rfl (Nat.le_of_ble_eq_true rfl) rfl rfl ?_
  refine tr_aload_n (pc' := 87) (show decode cX4_run 86 = .ok (.aload_n 0, 1) by decide +kernel) rfl rfl rfl ?_
  refine tr_iload (pc' := 89) (show decode cX4_run 87 = .ok (.iload 4, 2) by decide +kernel) rfl rfl ?_
  refine tr_bipush (pc' := 91) (v := (64 : Int32)) (show decode cX4_run 89 = .ok (.bipush 64, 2) by decide +kernel) rfl (by decide) ?_
  rcases hm_is h with ⟨hc, h⟩ | ⟨hc, h⟩
  · refine tr_icmp_ge_t (tgt := 115) hc (show decode cX4_run 91 = .ok (.if_icmp .ge 24, 3) by decide +kernel) (by decide) ?_
    exact ok_X4_run_J115 hfr _ _ _ _ c30 e366 hc30 he366 ho0 hv1 (y4 + (1 : Int32)) y5 y6 y7 y8 μ1 hL h
  · refine tr_icmp_ge_f (tgt := 115) (pc' := 94) hc (show decode cX4_run 91 = .ok (.if_icmp .ge 24, 3) by decide +kernel) (by decide) rfl ?_
    refine tr_iload (pc' := 96) (show decode cX4_run 94 = .ok (.iload 7, 2) by decide +kernel) rfl rfl ?_
    refine tr_iconst (pc' := 97) (v := (1 : Int32)) (show decode cX4_run 96 = .ok (.iconst 1, 1) by decide +kernel) rfl (by decide) ?_
    rcases hm_is h with ⟨hc, h⟩ | ⟨hc, h⟩
    · refine tr_icmp_ne_f (tgt := 119) (pc' := 100) hc (show decode cX4_run 97 = .ok (.if_icmp .ne 22, 3) by decide +kernel) (by decide) rfl ?_
      refine tr_iload (pc' := 102) (show decode cX4_run 100 = .ok (.iload 8, 2) by decide +kernel) rfl rfl ?_
      rcases hm_is h with ⟨hc, h⟩ | ⟨hc, h⟩
      · refine tr_if_lt_t (tgt := 115) hc (show decode cX4_run 102 = .ok (.ifCond .lt 13, 3) by decide +kernel) (by decide) ?_
        exact ok_X4_run_J115 hfr _ _ _ _ c30 e366 hc30 he366 ho0 hv1 (y4 + (1 : Int32)) y5 y6 y7 y8 μ1 hL h
      · refine tr_if_lt_f (tgt := 115) (pc' := 105) hc (show decode cX4_run 102 = .ok (.ifCond .lt 13, 3) by decide +kernel) (by decide) rfl ?_
        refine tr_iload (pc' := 107) (show decode cX4_run 105 = .ok (.iload 8, 2) by decide +kernel) rfl rfl ?_
        refine tr_aload_n (pc' := 108) (show decode cX4_run 107 = .ok (.aload_n 0, 1) by decide +kernel) rfl rfl rfl ?_
        refine tr_getR (pc' := 111) fl_HandRing_Machine_21 (show decode cX4_run 108 = .ok (.getfield 21, 3) by decide +kernel) rfl (la_qo hL ho0) (la_q0 hL ho0) ?_
        refine tr_alen (pc' := 112) (t0 := 2) (by decide) (fun _ => rfl) (show decode cX4_run 111 = .ok (.arraylength, 1) by decide +kernel) rfl (la_qa0 hL ho0) ?_
        rcases hm_is h with ⟨hc, h⟩ | ⟨hc, h⟩
        · refine tr_icmp_lt_t (tgt := 119) hc (show decode cX4_run 112 = .ok (.if_icmp .lt 7, 3) by decide +kernel) (by decide) ?_
          exact ok_X4_run_J119 hfr _ _ _ _ c30 e366 hc30 he366 ho0 hv1 (y4 + (1 : Int32)) y5 y6 y7 y8 μ1 hL h
        · refine tr_icmp_lt_f (tgt := 119) (pc' := 115) hc (show decode cX4_run 112 = .ok (.if_icmp .lt 7, 3) by decide +kernel) (by decide) rfl ?_
          exact ok_X4_run_J115 hfr _ _ _ _ c30 e366 hc30 he366 ho0 hv1 (y4 + (1 : Int32)) y5 y6 y7 y8 μ1 hL h
    · refine tr_icmp_ne_t (tgt := 119) hc (show decode cX4_run 97 = .ok (.if_icmp .ne 22, 3) by decide +kernel) (by decide) ?_
      exact ok_X4_run_J119 hfr _ _ _ _ c30 e366 hc30 he366 ho0 hv1 (y4 + (1 : Int32)) y5 y6 y7 y8 μ1 hL h
def f_X4_run_J359 (o0 : Nat) (v1 : Nat) (v2 : Int32) (v3 : Int32) (c30 : Int32 → Int32 → Int32 → hm_M → Option (Int32 × hm_M)) (e366 : Int32 → hm_M → Option (Int32 × hm_M)) (s0 : Int32) (s1 : Int32) (y4 : Int32) (y5 : Int32) (y6 : Int32) (μ1 : hm_M) : Option (Int32 × hm_M) :=
  Option.bind (hm_sd μ1 (o0 + 1) 64 s1 s0) fun μ12 =>
  f_X4_run_J360 o0 v1 v2 v3 c30 e366 y4 y5 y6 μ12
theorem ok_X4_run_J359 {fr : Nat} (hfr : 1 ≤ fr) {ν : hm_N} {r : Int32} {μR : hm_M}  (o0 : Nat) (v1 : Nat) (v2 : Int32) (v3 : Int32) (c30 : Int32 → Int32 → Int32 → hm_M → Option (Int32 × hm_M)) (e366 : Int32 → hm_M → Option (Int32 × hm_M)) (hc30 : ∀ (y4 : Int32) (y5 : Int32) (y6 : Int32)  (μ1 : hm_M), hm_LL ν μ1 → c30 y4 y5 y6 μ1 = some (r, μR) → hm_T (hm_LL ν) m_X4_run fr 0 0 (some (.int r)) μR 30 [some (.ref o0), some (.ref v1), none, some (.int v3), some (.int y4), some (.int y5), some (.int y6), none, none, none, none] [] μ1) (he366 : ∀ (y4 : Int32)  (μ1 : hm_M), hm_LL ν μ1 → e366 y4 μ1 = some (r, μR) → hm_T (hm_LL ν) m_X4_run fr 0 0 (some (.int r)) μR 366 [some (.ref o0), none, none, none, some (.int y4), none, none, none, none, none, none] [] μ1) (ho0 : hm_Q o0) (hv1 : hm_pg ν v1) (s0 : Int32) (s1 : Int32) (y4 : Int32) (y5 : Int32) (y6 : Int32) (μ1 : hm_M) (hL : hm_LL ν μ1) (h : f_X4_run_J359 o0 v1 v2 v3 c30 e366 s0 s1 y4 y5 y6 μ1 = some (r, μR)) : hm_T (hm_LL ν) m_X4_run fr 0 0 (some (.int r)) μR 359 [some (.ref o0), some (.ref v1), none, some (.int v3), some (.int y4), some (.int y5), some (.int y6), none, none, none, none] [.int s0, .int s1, .ref (o0 + 1)] μ1 := by
  unfold f_X4_run_J359 at h
  obtain ⟨μ12, eμ12, h⟩ := hm_bs h
  refine tp_sdI (pc' := 360) (show decode cX4_run 359 = .ok (.iastore, 1) by decide +kernel) rfl (la_qa1 hL ho0) eμ12 ?_
  replace hL := hL.same (hm_sd_s eμ12)
  exact ok_X4_run_J360 hfr _ _ _ _ c30 e366 hc30 he366 ho0 hv1 y4 y5 y6 μ12 hL h
def f_X4_run_J336 (o0 : Nat) (v1 : Nat) (v2 : Int32) (v3 : Int32) (c30 : Int32 → Int32 → Int32 → hm_M → Option (Int32 × hm_M)) (e366 : Int32 → hm_M → Option (Int32 × hm_M)) (s0 : Int32) (y4 : Int32) (y5 : Int32) (y6 : Int32) (y9 : Int64) (μ1 : hm_M) : Option (Int32 × hm_M) :=
  Option.bind (hm_pZ μ1 o0 2 s0) fun μ11 =>
  (if (μ11.1 o0 2) = 0 then
  f_X4_run_J359 o0 v1 v2 v3 c30 e366 y9.toInt32 y4 y4 y5 y6 μ11
  else
  f_X4_run_J359 o0 v1 v2 v3 c30 e366 (0 : Int32) y4 y4 y5 y6 μ11)
theorem ok_X4_run_J336 {fr : Nat} (hfr : 1 ≤ fr) {ν : hm_N} {r : Int32} {μR : hm_M}  (o0 : Nat) (v1 : Nat) (v2 : Int32) (v3 : Int32) (c30 : Int32 → Int32 → Int32 → hm_M → Option (Int32 × hm_M)) (e366 : Int32 → hm_M → Option (Int32 × hm_M)) (hc30 : ∀ (y4 : Int32) (y5 : Int32) (y6 : Int32)  (μ1 : hm_M), hm_LL ν μ1 → c30 y4 y5 y6 μ1 = some (r, μR) → hm_T (hm_LL ν) m_X4_run fr 0 0 (some (.int r)) μR 30 [some (.ref o0), some (.ref v1), none, some (.int v3), some (.int y4), some (.int y5), some (.int y6), none, none, none, none] [] μ1) (he366 : ∀ (y4 : Int32)  (μ1 : hm_M), hm_LL ν μ1 → e366 y4 μ1 = some (r, μR) → hm_T (hm_LL ν) m_X4_run fr 0 0 (some (.int r)) μR 366 [some (.ref o0), none, none, none, some (.int y4), none, none, none, none, none, none] [] μ1) (ho0 : hm_Q o0) (hv1 : hm_pg ν v1) (s0 : Int32) (y4 : Int32) (y5 : Int32) (y6 : Int32) (y9 : Int64) (μ1 : hm_M) (hL : hm_LL ν μ1) (h : f_X4_run_J336 o0 v1 v2 v3 c30 e366 s0 y4 y5 y6 y9 μ1 = some (r, μR)) : hm_T (hm_LL ν) m_X4_run fr 0 0 (some (.int r)) μR 336 [some (.ref o0), some (.ref v1), none, some (.int v3), some (.int y4), some (.int y5), some (.int y6), none, none, some (.long y9), none] [.int s0, .ref o0] μ1 := by
  unfold f_X4_run_J336 at h
  obtain ⟨μ11, eμ11, h⟩ := hm_bs h
  refine tp_pZ (pc' := 339) fl_HandRing_Machine_30 (show decode cX4_run 336 = .ok (.putfield 30, 3) by decide +kernel) rfl (la_qo hL ho0) eμ11 ?_
  replace hL := hL.same (hm_pZ_s eμ11)
  refine tr_aload_n (pc' := 340) (show decode cX4_run 339 = .ok (.aload_n 0, 1) by decide +kernel) rfl rfl rfl ?_
  refine tr_getR (pc' := 343) fl_HandRing_Machine_11 (show decode cX4_run 340 = .ok (.getfield 11, 3) by decide +kernel) rfl (la_qo hL ho0) (la_q1 hL ho0) ?_
  refine tr_iload (pc' := 345) (show decode cX4_run 343 = .ok (.iload 4, 2) by decide +kernel) rfl rfl ?_
  refine tr_aload_n (pc' := 346) (show decode cX4_run 345 = .ok (.aload_n 0, 1) by decide +kernel) rfl rfl rfl ?_
  refine tr_getI (pc' := 349) fl_HandRing_Machine_30 (show decode cX4_run 346 = .ok (.getfield 30, 3) by decide +kernel) rfl (la_qo hL ho0) ?_
  rcases hm_is h with ⟨hc, h⟩ | ⟨hc, h⟩
  · refine tr_if_eq_t (tgt := 356) hc (show decode cX4_run 349 = .ok (.ifCond .eq 7, 3) by decide +kernel) (by decide) ?_
    refine tr_lload (pc' := 358) (show decode cX4_run 356 = .ok (.lload 9, 2) by decide +kernel) rfl rfl ?_
    refine tr_l2i (pc' := 359) (show decode cX4_run 358 = .ok (.l2i, 1) by decide +kernel) rfl ?_
    refine hm_fgt [true, true, false, true, true, true, true, false, false, false, false] (lv' := [some (.ref o0), some (.ref v1), none, some (.int v3), some (.int y4), some (.int y5), some (.int y6), none, none, none, none]) rfl ?_
    exact ok_X4_run_J359 hfr _ _ _ _ c30 e366 hc30 he366 ho0 hv1 y9.toInt32 y4 y4 y5 y6 μ11 hL h
  · refine tr_if_eq_f (tgt := 356) (pc' := 352) hc (show decode cX4_run 349 = .ok (.ifCond .eq 7, 3) by decide +kernel) (by decide) rfl ?_
    refine tr_iconst (pc' := 353) (v := (0 : Int32)) (show decode cX4_run 352 = .ok (.iconst 0, 1) by decide +kernel) rfl (by decide) ?_
    refine tr_goto (tgt := 359) (show decode cX4_run 353 = .ok (.goto 6, 3) by decide +kernel) rfl ?_
    refine hm_fgt [true, true, false, true, true, true, true, false, false, false, false] (lv' := [some (.ref o0), some (.ref v1), none, some (.int v3), some (.int y4), some (.int y5), some (.int y6), none, none, none, none]) rfl ?_
    exact ok_X4_run_J359 hfr _ _ _ _ c30 e366 hc30 he366 ho0 hv1 (0 : Int32) y4 y4 y5 y6 μ11 hL h
def f_X4_run_J331 (o0 : Nat) (v1 : Nat) (v2 : Int32) (v3 : Int32) (c30 : Int32 → Int32 → Int32 → hm_M → Option (Int32 × hm_M)) (e366 : Int32 → hm_M → Option (Int32 × hm_M)) (y4 : Int32) (y5 : Int32) (y6 : Int32) (y9 : Int64) (μ1 : hm_M) : Option (Int32 × hm_M) :=
  f_X4_run_J336 o0 v1 v2 v3 c30 e366 (1 : Int32) y4 y5 y6 y9 μ1
theorem ok_X4_run_J331 {fr : Nat} (hfr : 1 ≤ fr) {ν : hm_N} {r : Int32} {μR : hm_M}  (o0 : Nat) (v1 : Nat) (v2 : Int32) (v3 : Int32) (c30 : Int32 → Int32 → Int32 → hm_M → Option (Int32 × hm_M)) (e366 : Int32 → hm_M → Option (Int32 × hm_M)) (hc30 : ∀ (y4 : Int32) (y5 : Int32) (y6 : Int32)  (μ1 : hm_M), hm_LL ν μ1 → c30 y4 y5 y6 μ1 = some (r, μR) → hm_T (hm_LL ν) m_X4_run fr 0 0 (some (.int r)) μR 30 [some (.ref o0), some (.ref v1), none, some (.int v3), some (.int y4), some (.int y5), some (.int y6), none, none, none, none] [] μ1) (he366 : ∀ (y4 : Int32)  (μ1 : hm_M), hm_LL ν μ1 → e366 y4 μ1 = some (r, μR) → hm_T (hm_LL ν) m_X4_run fr 0 0 (some (.int r)) μR 366 [some (.ref o0), none, none, none, some (.int y4), none, none, none, none, none, none] [] μ1) (ho0 : hm_Q o0) (hv1 : hm_pg ν v1) (y4 : Int32) (y5 : Int32) (y6 : Int32) (y9 : Int64) (μ1 : hm_M) (hL : hm_LL ν μ1) (h : f_X4_run_J331 o0 v1 v2 v3 c30 e366 y4 y5 y6 y9 μ1 = some (r, μR)) : hm_T (hm_LL ν) m_X4_run fr 0 0 (some (.int r)) μR 331 [some (.ref o0), some (.ref v1), none, some (.int v3), some (.int y4), some (.int y5), some (.int y6), none, none, some (.long y9), none] [.ref o0] μ1 := by
  unfold f_X4_run_J331 at h
  refine tr_iconst (pc' := 332) (v := (1 : Int32)) (show decode cX4_run 331 = .ok (.iconst 1, 1) by decide +kernel) rfl (by decide) ?_
  refine tr_goto (tgt := 336) (show decode cX4_run 332 = .ok (.goto 4, 3) by decide +kernel) rfl ?_
  exact ok_X4_run_J336 hfr _ _ _ _ c30 e366 hc30 he366 ho0 hv1 (1 : Int32) y4 y5 y6 y9 μ1 hL h
def f_X4_run_J279 (o0 : Nat) (v1 : Nat) (v2 : Int32) (v3 : Int32) (c30 : Int32 → Int32 → Int32 → hm_M → Option (Int32 × hm_M)) (e366 : Int32 → hm_M → Option (Int32 × hm_M)) (s0 : Int32) (y5 : Int32) (y6 : Int32) (μ1 : hm_M) : Option (Int32 × hm_M) :=
  f_X4_run_J360 o0 v1 v2 v3 c30 e366 s0 y5 y6 μ1
theorem ok_X4_run_J279 {fr : Nat} (hfr : 1 ≤ fr) {ν : hm_N} {r : Int32} {μR : hm_M}  (o0 : Nat) (v1 : Nat) (v2 : Int32) (v3 : Int32) (c30 : Int32 → Int32 → Int32 → hm_M → Option (Int32 × hm_M)) (e366 : Int32 → hm_M → Option (Int32 × hm_M)) (hc30 : ∀ (y4 : Int32) (y5 : Int32) (y6 : Int32)  (μ1 : hm_M), hm_LL ν μ1 → c30 y4 y5 y6 μ1 = some (r, μR) → hm_T (hm_LL ν) m_X4_run fr 0 0 (some (.int r)) μR 30 [some (.ref o0), some (.ref v1), none, some (.int v3), some (.int y4), some (.int y5), some (.int y6), none, none, none, none] [] μ1) (he366 : ∀ (y4 : Int32)  (μ1 : hm_M), hm_LL ν μ1 → e366 y4 μ1 = some (r, μR) → hm_T (hm_LL ν) m_X4_run fr 0 0 (some (.int r)) μR 366 [some (.ref o0), none, none, none, some (.int y4), none, none, none, none, none, none] [] μ1) (ho0 : hm_Q o0) (hv1 : hm_pg ν v1) (s0 : Int32) (y5 : Int32) (y6 : Int32) (μ1 : hm_M) (hL : hm_LL ν μ1) (h : f_X4_run_J279 o0 v1 v2 v3 c30 e366 s0 y5 y6 μ1 = some (r, μR)) : hm_T (hm_LL ν) m_X4_run fr 0 0 (some (.int r)) μR 279 [some (.ref o0), some (.ref v1), none, some (.int v3), none, some (.int y5), some (.int y6), none, none, none, none] [.int s0] μ1 := by
  unfold f_X4_run_J279 at h
  refine tr_istore (pc' := 281) (lv' := [some (.ref o0), some (.ref v1), none, some (.int v3), some (.int s0), some (.int y5), some (.int y6), none, none, none, none]) (show decode cX4_run 279 = .ok (.istore 4, 2) by decide +kernel) rfl (Nat.le_of_ble_eq_true rfl) rfl rfl ?_
  refine tr_goto (tgt := 360) (show decode cX4_run 281 = .ok (.goto 79, 3) by decide +kernel) rfl ?_
  exact ok_X4_run_J360 hfr _ _ _ _ c30 e366 hc30 he366 ho0 hv1 s0 y5 y6 μ1 hL h
def f_X4_run_J263 (o0 : Nat) (v1 : Nat) (v2 : Int32) (v3 : Int32) (c30 : Int32 → Int32 → Int32 → hm_M → Option (Int32 × hm_M)) (e366 : Int32 → hm_M → Option (Int32 × hm_M)) (s0 : Int32) (y4 : Int32) (y6 : Int32) (y9 : Int32) (μ1 : hm_M) : Option (Int32 × hm_M) :=
  (if y9 = 0 then
  f_X4_run_J279 o0 v1 v2 v3 c30 e366 (y4 - (1 : Int32)) s0 y6 μ1
  else
  f_X4_run_J279 o0 v1 v2 v3 c30 e366 y4 s0 y6 μ1)
theorem ok_X4_run_J263 {fr : Nat} (hfr : 1 ≤ fr) {ν : hm_N} {r : Int32} {μR : hm_M}  (o0 : Nat) (v1 : Nat) (v2 : Int32) (v3 : Int32) (c30 : Int32 → Int32 → Int32 → hm_M → Option (Int32 × hm_M)) (e366 : Int32 → hm_M → Option (Int32 × hm_M)) (hc30 : ∀ (y4 : Int32) (y5 : Int32) (y6 : Int32)  (μ1 : hm_M), hm_LL ν μ1 → c30 y4 y5 y6 μ1 = some (r, μR) → hm_T (hm_LL ν) m_X4_run fr 0 0 (some (.int r)) μR 30 [some (.ref o0), some (.ref v1), none, some (.int v3), some (.int y4), some (.int y5), some (.int y6), none, none, none, none] [] μ1) (he366 : ∀ (y4 : Int32)  (μ1 : hm_M), hm_LL ν μ1 → e366 y4 μ1 = some (r, μR) → hm_T (hm_LL ν) m_X4_run fr 0 0 (some (.int r)) μR 366 [some (.ref o0), none, none, none, some (.int y4), none, none, none, none, none, none] [] μ1) (ho0 : hm_Q o0) (hv1 : hm_pg ν v1) (s0 : Int32) (y4 : Int32) (y6 : Int32) (y9 : Int32) (μ1 : hm_M) (hL : hm_LL ν μ1) (h : f_X4_run_J263 o0 v1 v2 v3 c30 e366 s0 y4 y6 y9 μ1 = some (r, μR)) : hm_T (hm_LL ν) m_X4_run fr 0 0 (some (.int r)) μR 263 [some (.ref o0), some (.ref v1), none, some (.int v3), some (.int y4), none, some (.int y6), none, none, some (.int y9), none] [.int s0] μ1 := by
  unfold f_X4_run_J263 at h
  refine tr_istore (pc' := 265) (lv' := [some (.ref o0), some (.ref v1), none, some (.int v3), some (.int y4), some (.int s0), some (.int y6), none, none, some (.int y9), none]) (show decode cX4_run 263 = .ok (.istore 5, 2) by decide +kernel) rfl (Nat.le_of_ble_eq_true rfl) rfl rfl ?_
  refine tr_iload (pc' := 267) (show decode cX4_run 265 = .ok (.iload 9, 2) by decide +kernel) rfl rfl ?_
  rcases hm_is h with ⟨hc, h⟩ | ⟨hc, h⟩
  · refine tr_if_eq_t (tgt := 275) hc (show decode cX4_run 267 = .ok (.ifCond .eq 8, 3) by decide +kernel) (by decide) ?_
    refine tr_iload (pc' := 277) (show decode cX4_run 275 = .ok (.iload 4, 2) by decide +kernel) rfl rfl ?_
    refine tr_iconst (pc' := 278) (v := (1 : Int32)) (show decode cX4_run 277 = .ok (.iconst 1, 1) by decide +kernel) rfl (by decide) ?_
    refine tr_isub (pc' := 279) (show decode cX4_run 278 = .ok (.isub, 1) by decide +kernel) rfl ?_
    refine hm_fgt [true, true, false, true, false, true, true, false, false, false, false] (lv' := [some (.ref o0), some (.ref v1), none, some (.int v3), none, some (.int s0), some (.int y6), none, none, none, none]) rfl ?_
    exact ok_X4_run_J279 hfr _ _ _ _ c30 e366 hc30 he366 ho0 hv1 (y4 - (1 : Int32)) s0 y6 μ1 hL h
  · refine tr_if_eq_f (tgt := 275) (pc' := 270) hc (show decode cX4_run 267 = .ok (.ifCond .eq 8, 3) by decide +kernel) (by decide) rfl ?_
    refine tr_iload (pc' := 272) (show decode cX4_run 270 = .ok (.iload 4, 2) by decide +kernel) rfl rfl ?_
    refine tr_goto (tgt := 279) (show decode cX4_run 272 = .ok (.goto 7, 3) by decide +kernel) rfl ?_
    refine hm_fgt [true, true, false, true, false, true, true, false, false, false, false] (lv' := [some (.ref o0), some (.ref v1), none, some (.int v3), none, some (.int s0), some (.int y6), none, none, none, none]) rfl ?_
    exact ok_X4_run_J279 hfr _ _ _ _ c30 e366 hc30 he366 ho0 hv1 y4 s0 y6 μ1 hL h
def f_X4_run_J261 (o0 : Nat) (v1 : Nat) (v2 : Int32) (v3 : Int32) (c30 : Int32 → Int32 → Int32 → hm_M → Option (Int32 × hm_M)) (e366 : Int32 → hm_M → Option (Int32 × hm_M)) (y4 : Int32) (y5 : Int32) (y6 : Int32) (y9 : Int32) (μ1 : hm_M) : Option (Int32 × hm_M) :=
  f_X4_run_J263 o0 v1 v2 v3 c30 e366 y5 y4 y6 y9 μ1
theorem ok_X4_run_J261 {fr : Nat} (hfr : 1 ≤ fr) {ν : hm_N} {r : Int32} {μR : hm_M}  (o0 : Nat) (v1 : Nat) (v2 : Int32) (v3 : Int32) (c30 : Int32 → Int32 → Int32 → hm_M → Option (Int32 × hm_M)) (e366 : Int32 → hm_M → Option (Int32 × hm_M)) (hc30 : ∀ (y4 : Int32) (y5 : Int32) (y6 : Int32)  (μ1 : hm_M), hm_LL ν μ1 → c30 y4 y5 y6 μ1 = some (r, μR) → hm_T (hm_LL ν) m_X4_run fr 0 0 (some (.int r)) μR 30 [some (.ref o0), some (.ref v1), none, some (.int v3), some (.int y4), some (.int y5), some (.int y6), none, none, none, none] [] μ1) (he366 : ∀ (y4 : Int32)  (μ1 : hm_M), hm_LL ν μ1 → e366 y4 μ1 = some (r, μR) → hm_T (hm_LL ν) m_X4_run fr 0 0 (some (.int r)) μR 366 [some (.ref o0), none, none, none, some (.int y4), none, none, none, none, none, none] [] μ1) (ho0 : hm_Q o0) (hv1 : hm_pg ν v1) (y4 : Int32) (y5 : Int32) (y6 : Int32) (y9 : Int32) (μ1 : hm_M) (hL : hm_LL ν μ1) (h : f_X4_run_J261 o0 v1 v2 v3 c30 e366 y4 y5 y6 y9 μ1 = some (r, μR)) : hm_T (hm_LL ν) m_X4_run fr 0 0 (some (.int r)) μR 261 [some (.ref o0), some (.ref v1), none, some (.int v3), some (.int y4), some (.int y5), some (.int y6), none, none, some (.int y9), none] [] μ1 := by
  unfold f_X4_run_J261 at h
  refine tr_iload (pc' := 263) (show decode cX4_run 261 = .ok (.iload 5, 2) by decide +kernel) rfl rfl ?_
  refine hm_fgt [true, true, false, true, true, false, true, false, false, true, false] (lv' := [some (.ref o0), some (.ref v1), none, some (.int v3), some (.int y4), none, some (.int y6), none, none, some (.int y9), none]) rfl ?_
  exact ok_X4_run_J263 hfr _ _ _ _ c30 e366 hc30 he366 ho0 hv1 y5 y4 y6 y9 μ1 hL h
def f_X4_run_J242 (o0 : Nat) (v1 : Nat) (v2 : Int32) (v3 : Int32) (c30 : Int32 → Int32 → Int32 → hm_M → Option (Int32 × hm_M)) (e366 : Int32 → hm_M → Option (Int32 × hm_M)) (s0 : Int32) (y4 : Int32) (y5 : Int32) (y6 : Int32) (y8 : Int32) (μ1 : hm_M) : Option (Int32 × hm_M) :=
  (if s0 = 0 then
  f_X4_run_J261 o0 v1 v2 v3 c30 e366 y4 y5 y6 s0 μ1
  else
  (if y8 ≤ y5 then
  f_X4_run_J261 o0 v1 v2 v3 c30 e366 y4 y5 y6 s0 μ1
  else
  f_X4_run_J263 o0 v1 v2 v3 c30 e366 y8 y4 y6 s0 μ1))
theorem ok_X4_run_J242 {fr : Nat} (hfr : 1 ≤ fr) {ν : hm_N} {r : Int32} {μR : hm_M}  (o0 : Nat) (v1 : Nat) (v2 : Int32) (v3 : Int32) (c30 : Int32 → Int32 → Int32 → hm_M → Option (Int32 × hm_M)) (e366 : Int32 → hm_M → Option (Int32 × hm_M)) (hc30 : ∀ (y4 : Int32) (y5 : Int32) (y6 : Int32)  (μ1 : hm_M), hm_LL ν μ1 → c30 y4 y5 y6 μ1 = some (r, μR) → hm_T (hm_LL ν) m_X4_run fr 0 0 (some (.int r)) μR 30 [some (.ref o0), some (.ref v1), none, some (.int v3), some (.int y4), some (.int y5), some (.int y6), none, none, none, none] [] μ1) (he366 : ∀ (y4 : Int32)  (μ1 : hm_M), hm_LL ν μ1 → e366 y4 μ1 = some (r, μR) → hm_T (hm_LL ν) m_X4_run fr 0 0 (some (.int r)) μR 366 [some (.ref o0), none, none, none, some (.int y4), none, none, none, none, none, none] [] μ1) (ho0 : hm_Q o0) (hv1 : hm_pg ν v1) (s0 : Int32) (y4 : Int32) (y5 : Int32) (y6 : Int32) (y8 : Int32) (μ1 : hm_M) (hL : hm_LL ν μ1) (h : f_X4_run_J242 o0 v1 v2 v3 c30 e366 s0 y4 y5 y6 y8 μ1 = some (r, μR)) : hm_T (hm_LL ν) m_X4_run fr 0 0 (some (.int r)) μR 242 [some (.ref o0), some (.ref v1), none, some (.int v3), some (.int y4), some (.int y5), some (.int y6), none, some (.int y8), none, none] [.int s0] μ1 := by
  unfold f_X4_run_J242 at h
  refine tr_istore (pc' := 244) (lv' := [some (.ref o0), some (.ref v1), none, some (.int v3), some (.int y4), some (.int y5), some (.int y6), none, some (.int y8), some (.int s0), none]) (show decode cX4_run 242 = .ok (.istore 9, 2) by decide +kernel) rfl (Nat.le_of_ble_eq_true rfl) rfl rfl ?_
  refine tr_iload (pc' := 246) (show decode cX4_run 244 = .ok (.iload 9, 2) by decide +kernel) rfl rfl ?_
  rcases hm_is h with ⟨hc, h⟩ | ⟨hc, h⟩
  · refine tr_if_eq_t (tgt := 261) hc (show decode cX4_run 246 = .ok (.ifCond .eq 15, 3) by decide +kernel) (by decide) ?_
    refine hm_fgt [true, true, false, true, true, true, true, false, false, true, false] (lv' := [some (.ref o0), some (.ref v1), none, some (.int v3), some (.int y4), some (.int y5), some (.int y6), none, none, some (.int s0), none]) rfl ?_
    exact ok_X4_run_J261 hfr _ _ _ _ c30 e366 hc30 he366 ho0 hv1 y4 y5 y6 s0 μ1 hL h
  · refine tr_if_eq_f (tgt := 261) (pc' := 249) hc (show decode cX4_run 246 = .ok (.ifCond .eq 15, 3) by decide +kernel) (by decide) rfl ?_
    refine tr_iload (pc' := 251) (show decode cX4_run 249 = .ok (.iload 8, 2) by decide +kernel) rfl rfl ?_
    refine tr_iload (pc' := 253) (show decode cX4_run 251 = .ok (.iload 5, 2) by decide +kernel) rfl rfl ?_
    rcases hm_is h with ⟨hc, h⟩ | ⟨hc, h⟩
    · refine tr_icmp_le_t (tgt := 261) hc (show decode cX4_run 253 = .ok (.if_icmp .le 8, 3) by decide +kernel) (by decide) ?_
      refine hm_fgt [true, true, false, true, true, true, true, false, false, true, false] (lv' := [some (.ref o0), some (.ref v1), none, some (.int v3), some (.int y4), some (.int y5), some (.int y6), none, none, some (.int s0), none]) rfl ?_
      exact ok_X4_run_J261 hfr _ _ _ _ c30 e366 hc30 he366 ho0 hv1 y4 y5 y6 s0 μ1 hL h
    · refine tr_icmp_le_f (tgt := 261) (pc' := 256) hc (show decode cX4_run 253 = .ok (.if_icmp .le 8, 3) by decide +kernel) (by decide) rfl ?_
      refine tr_iload (pc' := 258) (show decode cX4_run 256 = .ok (.iload 8, 2) by decide +kernel) rfl rfl ?_
      refine tr_goto (tgt := 263) (show decode cX4_run 258 = .ok (.goto 5, 3) by decide +kernel) rfl ?_
      refine hm_fgt [true, true, false, true, true, false, true, false, false, true, false] (lv' := [some (.ref o0), some (.ref v1), none, some (.int v3), some (.int y4), none, some (.int y6), none, none, some (.int s0), none]) rfl ?_
      exact ok_X4_run_J263 hfr _ _ _ _ c30 e366 hc30 he366 ho0 hv1 y8 y4 y6 s0 μ1 hL h
def f_X4_run_J234 (o0 : Nat) (v1 : Nat) (v2 : Int32) (v3 : Int32) (c30 : Int32 → Int32 → Int32 → hm_M → Option (Int32 × hm_M)) (e366 : Int32 → hm_M → Option (Int32 × hm_M)) (s0 : Int32) (s1 : Int32) (y4 : Int32) (y5 : Int32) (y6 : Int32) (y8 : Int32) (μ1 : hm_M) : Option (Int32 × hm_M) :=
  (if s1 = s0 then
  f_X4_run_J242 o0 v1 v2 v3 c30 e366 (1 : Int32) y4 y5 y6 y8 μ1
  else
  f_X4_run_J242 o0 v1 v2 v3 c30 e366 (0 : Int32) y4 y5 y6 y8 μ1)
theorem ok_X4_run_J234 {fr : Nat} (hfr : 1 ≤ fr) {ν : hm_N} {r : Int32} {μR : hm_M}  (o0 : Nat) (v1 : Nat) (v2 : Int32) (v3 : Int32) (c30 : Int32 → Int32 → Int32 → hm_M → Option (Int32 × hm_M)) (e366 : Int32 → hm_M → Option (Int32 × hm_M)) (hc30 : ∀ (y4 : Int32) (y5 : Int32) (y6 : Int32)  (μ1 : hm_M), hm_LL ν μ1 → c30 y4 y5 y6 μ1 = some (r, μR) → hm_T (hm_LL ν) m_X4_run fr 0 0 (some (.int r)) μR 30 [some (.ref o0), some (.ref v1), none, some (.int v3), some (.int y4), some (.int y5), some (.int y6), none, none, none, none] [] μ1) (he366 : ∀ (y4 : Int32)  (μ1 : hm_M), hm_LL ν μ1 → e366 y4 μ1 = some (r, μR) → hm_T (hm_LL ν) m_X4_run fr 0 0 (some (.int r)) μR 366 [some (.ref o0), none, none, none, some (.int y4), none, none, none, none, none, none] [] μ1) (ho0 : hm_Q o0) (hv1 : hm_pg ν v1) (s0 : Int32) (s1 : Int32) (y4 : Int32) (y5 : Int32) (y6 : Int32) (y8 : Int32) (μ1 : hm_M) (hL : hm_LL ν μ1) (h : f_X4_run_J234 o0 v1 v2 v3 c30 e366 s0 s1 y4 y5 y6 y8 μ1 = some (r, μR)) : hm_T (hm_LL ν) m_X4_run fr 0 0 (some (.int r)) μR 234 [some (.ref o0), some (.ref v1), none, some (.int v3), some (.int y4), some (.int y5), some (.int y6), none, some (.int y8), none, none] [.int s0, .int s1] μ1 := by
  unfold f_X4_run_J234 at h
  rcases hm_is h with ⟨hc, h⟩ | ⟨hc, h⟩
  · refine tr_icmp_ne_f (tgt := 241) (pc' := 237) hc (show decode cX4_run 234 = .ok (.if_icmp .ne 7, 3) by decide +kernel) (by decide) rfl ?_
    refine tr_iconst (pc' := 238) (v := (1 : Int32)) (show decode cX4_run 237 = .ok (.iconst 1, 1) by decide +kernel) rfl (by decide) ?_
    refine tr_goto (tgt := 242) (show decode cX4_run 238 = .ok (.goto 4, 3) by decide +kernel) rfl ?_
    exact ok_X4_run_J242 hfr _ _ _ _ c30 e366 hc30 he366 ho0 hv1 (1 : Int32) y4 y5 y6 y8 μ1 hL h
  · refine tr_icmp_ne_t (tgt := 241) hc (show decode cX4_run 234 = .ok (.if_icmp .ne 7, 3) by decide +kernel) (by decide) ?_
    refine tr_iconst (pc' := 242) (v := (0 : Int32)) (show decode cX4_run 241 = .ok (.iconst 0, 1) by decide +kernel) rfl (by decide) ?_
    exact ok_X4_run_J242 hfr _ _ _ _ c30 e366 hc30 he366 ho0 hv1 (0 : Int32) y4 y5 y6 y8 μ1 hL h
def f_X4_run_J171 (o0 : Nat) (v1 : Nat) (v2 : Int32) (v3 : Int32) (c30 : Int32 → Int32 → Int32 → hm_M → Option (Int32 × hm_M)) (e366 : Int32 → hm_M → Option (Int32 × hm_M)) (s0 : Int32) (s1 : Int32) (y4 : Int32) (y5 : Int32) (y6 : Int32) (y7 : Int32) (y8 : Int32) (μ1 : hm_M) : Option (Int32 × hm_M) :=
  (if s0 ≤ s1 then
  (if y7 = (10 : Int32) then
  Option.bind (hm_ld μ1 (o0 + 1) 64 y4) fun x14 =>
  Option.bind (hm_sd μ1 (o0 + 1) 64 y4 ((1 : Int32) - x14)) fun μ15 =>
  f_X4_run_J360 o0 v1 v2 v3 c30 e366 y4 y5 y6 μ15
  else
  (if y7 ≤ (10 : Int32) then
  Option.bind (hm_ld μ1 (o0 + 1) 64 (y4 + (-1 : Int32))) fun x8 =>
  Option.bind (hm_ld μ1 (o0 + 1) 64 ((y4 + (-1 : Int32)) + (1 : Int32))) fun x9 =>
  Option.bind (f_X4_workOut y7 x8.toInt64 x9.toInt64) fun x10 =>
  (if 0 < (lg_cmp x10 (1000000000 : Int64)) then
  f_X4_run_J331 o0 v1 v2 v3 c30 e366 (y4 + (-1 : Int32)) y5 y6 x10 μ1
  else
  (if 0 ≤ (lg_cmp x10 (-1000000000 : Int64)) then
  f_X4_run_J336 o0 v1 v2 v3 c30 e366 (0 : Int32) (y4 + (-1 : Int32)) y5 y6 x10 μ1
  else
  f_X4_run_J331 o0 v1 v2 v3 c30 e366 (y4 + (-1 : Int32)) y5 y6 x10 μ1))
  else
  Option.bind (hm_ld μ1 (o0 + 1) 64 y4) fun x13 =>
  (if y7 = (11 : Int32) then
  f_X4_run_J234 o0 v1 v2 v3 c30 e366 (1 : Int32) x13 y4 y5 y6 y8 μ1
  else
  f_X4_run_J234 o0 v1 v2 v3 c30 e366 (0 : Int32) x13 y4 y5 y6 y8 μ1)))
  else
  Option.bind (hm_pZ μ1 o0 2 (1 : Int32)) fun μ16 =>
  f_X4_run_J360 o0 v1 v2 v3 c30 e366 y4 y5 y6 μ16)
theorem ok_X4_run_J171 {fr : Nat} (hfr : 1 ≤ fr) {ν : hm_N} {r : Int32} {μR : hm_M}  (o0 : Nat) (v1 : Nat) (v2 : Int32) (v3 : Int32) (c30 : Int32 → Int32 → Int32 → hm_M → Option (Int32 × hm_M)) (e366 : Int32 → hm_M → Option (Int32 × hm_M)) (hc30 : ∀ (y4 : Int32) (y5 : Int32) (y6 : Int32)  (μ1 : hm_M), hm_LL ν μ1 → c30 y4 y5 y6 μ1 = some (r, μR) → hm_T (hm_LL ν) m_X4_run fr 0 0 (some (.int r)) μR 30 [some (.ref o0), some (.ref v1), none, some (.int v3), some (.int y4), some (.int y5), some (.int y6), none, none, none, none] [] μ1) (he366 : ∀ (y4 : Int32)  (μ1 : hm_M), hm_LL ν μ1 → e366 y4 μ1 = some (r, μR) → hm_T (hm_LL ν) m_X4_run fr 0 0 (some (.int r)) μR 366 [some (.ref o0), none, none, none, some (.int y4), none, none, none, none, none, none] [] μ1) (ho0 : hm_Q o0) (hv1 : hm_pg ν v1) (s0 : Int32) (s1 : Int32) (y4 : Int32) (y5 : Int32) (y6 : Int32) (y7 : Int32) (y8 : Int32) (μ1 : hm_M) (hL : hm_LL ν μ1) (h : f_X4_run_J171 o0 v1 v2 v3 c30 e366 s0 s1 y4 y5 y6 y7 y8 μ1 = some (r, μR)) : hm_T (hm_LL ν) m_X4_run fr 0 0 (some (.int r)) μR 171 [some (.ref o0), some (.ref v1), none, some (.int v3), some (.int y4), some (.int y5), some (.int y6), some (.int y7), some (.int y8), none, none] [.int s0, .int s1] μ1 := by
  unfold f_X4_run_J171 at h
  rcases hm_is h with ⟨hc, h⟩ | ⟨hc, h⟩
  · refine tr_icmp_ge_t (tgt := 182) hc (show decode cX4_run 171 = .ok (.if_icmp .ge 11, 3) by decide +kernel) (by decide) ?_
    refine tr_iload (pc' := 184) (show decode cX4_run 182 = .ok (.iload 7, 2) by decide +kernel) rfl rfl ?_
    refine tr_bipush (pc' := 186) (v := (10 : Int32)) (show decode cX4_run 184 = .ok (.bipush 10, 2) by decide +kernel) rfl (by decide) ?_
    rcases hm_is h with ⟨hc, h⟩ | ⟨hc, h⟩
    · refine tr_icmp_ne_f (tgt := 208) (pc' := 189) hc (show decode cX4_run 186 = .ok (.if_icmp .ne 22, 3) by decide +kernel) (by decide) rfl ?_
      refine tr_aload_n (pc' := 190) (show decode cX4_run 189 = .ok (.aload_n 0, 1) by decide +kernel) rfl rfl rfl ?_
      refine tr_getR (pc' := 193) fl_HandRing_Machine_11 (show decode cX4_run 190 = .ok (.getfield 11, 3) by decide +kernel) rfl (la_qo hL ho0) (la_q1 hL ho0) ?_
      refine tr_iload (pc' := 195) (show decode cX4_run 193 = .ok (.iload 4, 2) by decide +kernel) rfl rfl ?_
      refine tr_iconst (pc' := 196) (v := (1 : Int32)) (show decode cX4_run 195 = .ok (.iconst 1, 1) by decide +kernel) rfl (by decide) ?_
      refine tr_aload_n (pc' := 197) (show decode cX4_run 196 = .ok (.aload_n 0, 1) by decide +kernel) rfl rfl rfl ?_
      refine tr_getR (pc' := 200) fl_HandRing_Machine_11 (show decode cX4_run 197 = .ok (.getfield 11, 3) by decide +kernel) rfl (la_qo hL ho0) (la_q1 hL ho0) ?_
      refine tr_iload (pc' := 202) (show decode cX4_run 200 = .ok (.iload 4, 2) by decide +kernel) rfl rfl ?_
      obtain ⟨x14, ex14, h⟩ := hm_bs h
      refine tp_ldI (pc' := 203) (show decode cX4_run 202 = .ok (.iaload, 1) by decide +kernel) rfl (la_qa1 hL ho0) ex14 ?_
      refine tr_isub (pc' := 204) (show decode cX4_run 203 = .ok (.isub, 1) by decide +kernel) rfl ?_
      obtain ⟨μ15, eμ15, h⟩ := hm_bs h
      refine tp_sdI (pc' := 205) (show decode cX4_run 204 = .ok (.iastore, 1) by decide +kernel) rfl (la_qa1 hL ho0) eμ15 ?_
      replace hL := hL.same (hm_sd_s eμ15)
      refine tr_goto (tgt := 360) (show decode cX4_run 205 = .ok (.goto 155, 3) by decide +kernel) rfl ?_
      refine hm_fgt [true, true, false, true, true, true, true, false, false, false, false] (lv' := [some (.ref o0), some (.ref v1), none, some (.int v3), some (.int y4), some (.int y5), some (.int y6), none, none, none, none]) rfl ?_
      exact ok_X4_run_J360 hfr _ _ _ _ c30 e366 hc30 he366 ho0 hv1 y4 y5 y6 μ15 hL h
    · refine tr_icmp_ne_t (tgt := 208) hc (show decode cX4_run 186 = .ok (.if_icmp .ne 22, 3) by decide +kernel) (by decide) ?_
      refine tr_iload (pc' := 210) (show decode cX4_run 208 = .ok (.iload 7, 2) by decide +kernel) rfl rfl ?_
      refine tr_bipush (pc' := 212) (v := (10 : Int32)) (show decode cX4_run 210 = .ok (.bipush 10, 2) by decide +kernel) rfl (by decide) ?_
      rcases hm_is h with ⟨hc, h⟩ | ⟨hc, h⟩
      · refine tr_icmp_le_t (tgt := 284) hc (show decode cX4_run 212 = .ok (.if_icmp .le 72, 3) by decide +kernel) (by decide) ?_
        refine tr_iinc (pc' := 287) (v := y4 + (-1 : Int32)) (lv' := [some (.ref o0), some (.ref v1), none, some (.int v3), some (.int (y4 + (-1 : Int32))), some (.int y5), some (.int y6), some (.int y7), some (.int y8), none, none]) (show decode cX4_run 284 = .ok (.iinc 4 (-1), 3) by decide +kernel) rfl rfl rfl (Nat.le_of_ble_eq_true rfl) rfl rfl ?_
        refine tr_iload (pc' := 289) (show decode cX4_run 287 = .ok (.iload 7, 2) by decide +kernel) rfl rfl ?_
        refine tr_aload_n (pc' := 290) (show decode cX4_run 289 = .ok (.aload_n 0, 1) by decide +kernel) rfl rfl rfl ?_
        refine tr_getR (pc' := 293) fl_HandRing_Machine_11 (show decode cX4_run 290 = .ok (.getfield 11, 3) by decide +kernel) rfl (la_qo hL ho0) (la_q1 hL ho0) ?_
        refine tr_iload (pc' := 295) (show decode cX4_run 293 = .ok (.iload 4, 2) by decide +kernel) rfl rfl ?_
        obtain ⟨x8, ex8, h⟩ := hm_bs h
        refine tp_ldI (pc' := 296) (show decode cX4_run 295 = .ok (.iaload, 1) by decide +kernel) rfl (la_qa1 hL ho0) ex8 ?_
        refine tr_i2l (pc' := 297) (show decode cX4_run 296 = .ok (.i2l, 1) by decide +kernel) rfl ?_
        refine tr_aload_n (pc' := 298) (show decode cX4_run 297 = .ok (.aload_n 0, 1) by decide +kernel) rfl rfl rfl ?_
        refine tr_getR (pc' := 301) fl_HandRing_Machine_11 (show decode cX4_run 298 = .ok (.getfield 11, 3) by decide +kernel) rfl (la_qo hL ho0) (la_q1 hL ho0) ?_
        refine tr_iload (pc' := 303) (show decode cX4_run 301 = .ok (.iload 4, 2) by decide +kernel) rfl rfl ?_
        refine tr_iconst (pc' := 304) (v := (1 : Int32)) (show decode cX4_run 303 = .ok (.iconst 1, 1) by decide +kernel) rfl (by decide) ?_
        refine tr_iadd (pc' := 305) (show decode cX4_run 304 = .ok (.iadd, 1) by decide +kernel) rfl ?_
        obtain ⟨x9, ex9, h⟩ := hm_bs h
        refine tp_ldI (pc' := 306) (show decode cX4_run 305 = .ok (.iaload, 1) by decide +kernel) rfl (la_qa1 hL ho0) ex9 ?_
        refine tr_i2l (pc' := 307) (show decode cX4_run 306 = .ok (.i2l, 1) by decide +kernel) rfl ?_
        obtain ⟨x10, ex10, h⟩ := hm_bs h
        have cx10 := ok_X4_workOut (fr := fr - 1) (ν := ν) (by omega) y7 x8.toInt64 x9.toInt64 μ1 hL ex10
        refine tp_callS (pc' := 310) (As := [.int y7, .long x8.toInt64, .long x9.toInt64]) (fr1 := fr - 1) okm_X4_workOut lk_HandRing_Machine_40 (show decode cX4_run 307 = .ok (.invokestatic 40, 3) by decide +kernel) rfl rfl rfl (Nat.le_of_ble_eq_true rfl) (by omega) cx10 (st' := [.long x10]) rfl ?_
        refine tr_lstore (pc' := 312) (lv' := [some (.ref o0), some (.ref v1), none, some (.int v3), some (.int (y4 + (-1 : Int32))), some (.int y5), some (.int y6), some (.int y7), some (.int y8), some (.long x10), none]) (show decode cX4_run 310 = .ok (.lstore 9, 2) by decide +kernel) rfl (Nat.le_of_ble_eq_true rfl) rfl rfl ?_
        refine tr_aload_n (pc' := 313) (show decode cX4_run 312 = .ok (.aload_n 0, 1) by decide +kernel) rfl rfl rfl ?_
        refine tr_lload (pc' := 315) (show decode cX4_run 313 = .ok (.lload 9, 2) by decide +kernel) rfl rfl ?_
        refine tr_ldc2 (pc' := 318) (v := (1000000000 : Int64)) (show decode cX4_run 315 = .ok (.ldc2_w 44, 3) by decide +kernel) rfl kd_HandRing_Machine_44 ?_
        refine tr_lcmp (pc' := 319) (show decode cX4_run 318 = .ok (.lcmp, 1) by decide +kernel) rfl ?_
        rcases hm_is h with ⟨hc, h⟩ | ⟨hc, h⟩
        · refine tr_if_gt_t (tgt := 331) hc (show decode cX4_run 319 = .ok (.ifCond .gt 12, 3) by decide +kernel) (by decide) ?_
          refine hm_fgt [true, true, false, true, true, true, true, false, false, true, false] (lv' := [some (.ref o0), some (.ref v1), none, some (.int v3), some (.int (y4 + (-1 : Int32))), some (.int y5), some (.int y6), none, none, some (.long x10), none]) rfl ?_
          exact ok_X4_run_J331 hfr _ _ _ _ c30 e366 hc30 he366 ho0 hv1 (y4 + (-1 : Int32)) y5 y6 x10 μ1 hL h
        · refine tr_if_gt_f (tgt := 331) (pc' := 322) hc (show decode cX4_run 319 = .ok (.ifCond .gt 12, 3) by decide +kernel) (by decide) rfl ?_
          refine tr_lload (pc' := 324) (show decode cX4_run 322 = .ok (.lload 9, 2) by decide +kernel) rfl rfl ?_
          refine tr_ldc2 (pc' := 327) (v := (-1000000000 : Int64)) (show decode cX4_run 324 = .ok (.ldc2_w 46, 3) by decide +kernel) rfl kd_HandRing_Machine_46 ?_
          refine tr_lcmp (pc' := 328) (show decode cX4_run 327 = .ok (.lcmp, 1) by decide +kernel) rfl ?_
          rcases hm_is h with ⟨hc, h⟩ | ⟨hc, h⟩
          · refine tr_if_ge_t (tgt := 335) hc (show decode cX4_run 328 = .ok (.ifCond .ge 7, 3) by decide +kernel) (by decide) ?_
            refine tr_iconst (pc' := 336) (v := (0 : Int32)) (show decode cX4_run 335 = .ok (.iconst 0, 1) by decide +kernel) rfl (by decide) ?_
            refine hm_fgt [true, true, false, true, true, true, true, false, false, true, false] (lv' := [some (.ref o0), some (.ref v1), none, some (.int v3), some (.int (y4 + (-1 : Int32))), some (.int y5), some (.int y6), none, none, some (.long x10), none]) rfl ?_
            exact ok_X4_run_J336 hfr _ _ _ _ c30 e366 hc30 he366 ho0 hv1 (0 : Int32) (y4 + (-1 : Int32)) y5 y6 x10 μ1 hL h
          · refine tr_if_ge_f (tgt := 335) (pc' := 331) hc (show decode cX4_run 328 = .ok (.ifCond .ge 7, 3) by decide +kernel) (by decide) rfl ?_
            refine hm_fgt [true, true, false, true, true, true, true, false, false, true, false] (lv' := [some (.ref o0), some (.ref v1), none, some (.int v3), some (.int (y4 + (-1 : Int32))), some (.int y5), some (.int y6), none, none, some (.long x10), none]) rfl ?_
            exact ok_X4_run_J331 hfr _ _ _ _ c30 e366 hc30 he366 ho0 hv1 (y4 + (-1 : Int32)) y5 y6 x10 μ1 hL h
      · refine tr_icmp_le_f (tgt := 284) (pc' := 215) hc (show decode cX4_run 212 = .ok (.if_icmp .le 72, 3) by decide +kernel) (by decide) rfl ?_
        refine tr_aload_n (pc' := 216) (show decode cX4_run 215 = .ok (.aload_n 0, 1) by decide +kernel) rfl rfl rfl ?_
        refine tr_getR (pc' := 219) fl_HandRing_Machine_11 (show decode cX4_run 216 = .ok (.getfield 11, 3) by decide +kernel) rfl (la_qo hL ho0) (la_q1 hL ho0) ?_
        refine tr_iload (pc' := 221) (show decode cX4_run 219 = .ok (.iload 4, 2) by decide +kernel) rfl rfl ?_
        obtain ⟨x13, ex13, h⟩ := hm_bs h
        refine tp_ldI (pc' := 222) (show decode cX4_run 221 = .ok (.iaload, 1) by decide +kernel) rfl (la_qa1 hL ho0) ex13 ?_
        refine tr_iload (pc' := 224) (show decode cX4_run 222 = .ok (.iload 7, 2) by decide +kernel) rfl rfl ?_
        refine tr_bipush (pc' := 226) (v := (11 : Int32)) (show decode cX4_run 224 = .ok (.bipush 11, 2) by decide +kernel) rfl (by decide) ?_
        rcases hm_is h with ⟨hc, h⟩ | ⟨hc, h⟩
        · refine tr_icmp_ne_f (tgt := 233) (pc' := 229) hc (show decode cX4_run 226 = .ok (.if_icmp .ne 7, 3) by decide +kernel) (by decide) rfl ?_
          refine tr_iconst (pc' := 230) (v := (1 : Int32)) (show decode cX4_run 229 = .ok (.iconst 1, 1) by decide +kernel) rfl (by decide) ?_
          refine tr_goto (tgt := 234) (show decode cX4_run 230 = .ok (.goto 4, 3) by decide +kernel) rfl ?_
          refine hm_fgt [true, true, false, true, true, true, true, false, true, false, false] (lv' := [some (.ref o0), some (.ref v1), none, some (.int v3), some (.int y4), some (.int y5), some (.int y6), none, some (.int y8), none, none]) rfl ?_
          exact ok_X4_run_J234 hfr _ _ _ _ c30 e366 hc30 he366 ho0 hv1 (1 : Int32) x13 y4 y5 y6 y8 μ1 hL h
        · refine tr_icmp_ne_t (tgt := 233) hc (show decode cX4_run 226 = .ok (.if_icmp .ne 7, 3) by decide +kernel) (by decide) ?_
          refine tr_iconst (pc' := 234) (v := (0 : Int32)) (show decode cX4_run 233 = .ok (.iconst 0, 1) by decide +kernel) rfl (by decide) ?_
          refine hm_fgt [true, true, false, true, true, true, true, false, true, false, false] (lv' := [some (.ref o0), some (.ref v1), none, some (.int v3), some (.int y4), some (.int y5), some (.int y6), none, some (.int y8), none, none]) rfl ?_
          exact ok_X4_run_J234 hfr _ _ _ _ c30 e366 hc30 he366 ho0 hv1 (0 : Int32) x13 y4 y5 y6 y8 μ1 hL h
  · refine tr_icmp_ge_f (tgt := 182) (pc' := 174) hc (show decode cX4_run 171 = .ok (.if_icmp .ge 11, 3) by decide +kernel) (by decide) rfl ?_
    refine tr_aload_n (pc' := 175) (show decode cX4_run 174 = .ok (.aload_n 0, 1) by decide +kernel) rfl rfl rfl ?_
    refine tr_iconst (pc' := 176) (v := (1 : Int32)) (show decode cX4_run 175 = .ok (.iconst 1, 1) by decide +kernel) rfl (by decide) ?_
    obtain ⟨μ16, eμ16, h⟩ := hm_bs h
    refine tp_pZ (pc' := 179) fl_HandRing_Machine_30 (show decode cX4_run 176 = .ok (.putfield 30, 3) by decide +kernel) rfl (la_qo hL ho0) eμ16 ?_
    replace hL := hL.same (hm_pZ_s eμ16)
    refine tr_goto (tgt := 360) (show decode cX4_run 179 = .ok (.goto 181, 3) by decide +kernel) rfl ?_
    refine hm_fgt [true, true, false, true, true, true, true, false, false, false, false] (lv' := [some (.ref o0), some (.ref v1), none, some (.int v3), some (.int y4), some (.int y5), some (.int y6), none, none, none, none]) rfl ?_
    exact ok_X4_run_J360 hfr _ _ _ _ c30 e366 hc30 he366 ho0 hv1 y4 y5 y6 μ16 hL h
def f_X4_run_L30 (o0 : Nat) (v1 : Nat) (v2 : Int32) (v3 : Int32) (e366 : Int32 → hm_M → Option (Int32 × hm_M)) : Nat → Int32 → Int32 → Int32 → hm_M → Option (Int32 × hm_M)
  | 0, _, _, _, _ => none
  | n + 1, y4, y5, y6, μ1 => (if (400 : Int32) ≤ y6 then
  e366 y4 μ1
  else
  (if v3 ≤ y5 then
  e366 y4 μ1
  else
  (if (μ1.1 o0 2) = 0 then
  Option.bind (hm_ld μ1 (v1 + 1) (hm_ln μ1 (v1 + 1)) y5) fun x3 =>
  Option.bind (hm_ld μ1 (v1 + 2) (hm_ln μ1 (v1 + 2)) y5) fun x4 =>
  (if x3 = 0 then
  f_X4_run_J83 o0 v1 v2 v3 (f_X4_run_L30 o0 v1 v2 v3 e366 n) e366 y4 (y5 + (1 : Int32)) y6 x3 x4 μ1
  else
  (if x3 = (1 : Int32) then
  f_X4_run_J83 o0 v1 v2 v3 (f_X4_run_L30 o0 v1 v2 v3 e366 n) e366 y4 (y5 + (1 : Int32)) y6 x3 x4 μ1
  else
  (if (10 : Int32) ≤ x3 then
  f_X4_run_J171 o0 v1 v2 v3 (f_X4_run_L30 o0 v1 v2 v3 e366 n) e366 (0 : Int32) y4 y4 (y5 + (1 : Int32)) y6 x3 x4 μ1
  else
  f_X4_run_J171 o0 v1 v2 v3 (f_X4_run_L30 o0 v1 v2 v3 e366 n) e366 (1 : Int32) y4 y4 (y5 + (1 : Int32)) y6 x3 x4 μ1)))
  else
  e366 y4 μ1)))
theorem ok_X4_run_L30 {fr : Nat} (hfr : 1 ≤ fr) {ν : hm_N} {r : Int32} {μR : hm_M}  (o0 : Nat) (v1 : Nat) (v2 : Int32) (v3 : Int32) (e366 : Int32 → hm_M → Option (Int32 × hm_M))  (he366 : ∀ (y4 : Int32)  (μ1 : hm_M), hm_LL ν μ1 → e366 y4 μ1 = some (r, μR) → hm_T (hm_LL ν) m_X4_run fr 0 0 (some (.int r)) μR 366 [some (.ref o0), none, none, none, some (.int y4), none, none, none, none, none, none] [] μ1) (ho0 : hm_Q o0) (hv1 : hm_pg ν v1) : ∀ (n : Nat) (y4 : Int32) (y5 : Int32) (y6 : Int32)  (μ1 : hm_M), hm_LL ν μ1 → f_X4_run_L30 o0 v1 v2 v3 e366 n y4 y5 y6 μ1 = some (r, μR) → hm_T (hm_LL ν) m_X4_run fr 0 0 (some (.int r)) μR 30 [some (.ref o0), some (.ref v1), none, some (.int v3), some (.int y4), some (.int y5), some (.int y6), none, none, none, none] [] μ1 := by
  intro n
  induction n with
  | zero =>
    intro y4 y5 y6 μ1 hL h
    unfold f_X4_run_L30 at h
    cases h
  | succ n ih =>
    intro y4 y5 y6 μ1 hL h
    unfold f_X4_run_L30 at h
    refine tr_iload (pc' := 32) (show decode cX4_run 30 = .ok (.iload 6, 2) by decide +kernel) rfl rfl ?_
    refine tr_sipush (pc' := 35) (v := (400 : Int32)) (show decode cX4_run 32 = .ok (.sipush 400, 3) by decide +kernel) rfl (by decide) ?_
    rcases hm_is h with ⟨hc, h⟩ | ⟨hc, h⟩
    · refine tr_icmp_ge_t (tgt := 366) hc (show decode cX4_run 35 = .ok (.if_icmp .ge 331, 3) by decide +kernel) (by decide) ?_
      refine hm_fgt [true, false, false, false, true, false, false, false, false, false, false] (lv' := [some (.ref o0), none, none, none, some (.int y4), none, none, none, none, none, none]) rfl ?_
      exact he366 y4 μ1 hL h
    · refine tr_icmp_ge_f (tgt := 366) (pc' := 38) hc (show decode cX4_run 35 = .ok (.if_icmp .ge 331, 3) by decide +kernel) (by decide) rfl ?_
      refine tr_iload (pc' := 40) (show decode cX4_run 38 = .ok (.iload 5, 2) by decide +kernel) rfl rfl ?_
      refine tr_iload_n (pc' := 41) (show decode cX4_run 40 = .ok (.iload_n 3, 1) by decide +kernel) rfl rfl rfl ?_
      rcases hm_is h with ⟨hc, h⟩ | ⟨hc, h⟩
      · refine tr_icmp_ge_t (tgt := 366) hc (show decode cX4_run 41 = .ok (.if_icmp .ge 325, 3) by decide +kernel) (by decide) ?_
        refine hm_fgt [true, false, false, false, true, false, false, false, false, false, false] (lv' := [some (.ref o0), none, none, none, some (.int y4), none, none, none, none, none, none]) rfl ?_
        exact he366 y4 μ1 hL h
      · refine tr_icmp_ge_f (tgt := 366) (pc' := 44) hc (show decode cX4_run 41 = .ok (.if_icmp .ge 325, 3) by decide +kernel) (by decide) rfl ?_
        refine tr_aload_n (pc' := 45) (show decode cX4_run 44 = .ok (.aload_n 0, 1) by decide +kernel) rfl rfl rfl ?_
        refine tr_getI (pc' := 48) fl_HandRing_Machine_30 (show decode cX4_run 45 = .ok (.getfield 30, 3) by decide +kernel) rfl (la_qo hL ho0) ?_
        rcases hm_is h with ⟨hc, h⟩ | ⟨hc, h⟩
        · refine tr_if_ne_f (tgt := 366) (pc' := 51) hc (show decode cX4_run 48 = .ok (.ifCond .ne 318, 3) by decide +kernel) (by decide) rfl ?_
          refine tr_aload_n (pc' := 52) (show decode cX4_run 51 = .ok (.aload_n 1, 1) by decide +kernel) rfl rfl rfl ?_
          refine tr_getR (pc' := 55) fl_HandRing_Machine_34 (show decode cX4_run 52 = .ok (.getfield 34, 3) by decide +kernel) rfl (la_po hL hv1) (la_pr0 hL hv1) ?_
          refine tr_iload (pc' := 57) (show decode cX4_run 55 = .ok (.iload 5, 2) by decide +kernel) rfl rfl ?_
          obtain ⟨x3, ex3, h⟩ := hm_bs h
          refine tp_ldI (pc' := 58) (show decode cX4_run 57 = .ok (.iaload, 1) by decide +kernel) rfl (la_pa1 hL hv1) ex3 ?_
          refine tr_istore (pc' := 60) (lv' := [some (.ref o0), some (.ref v1), none, some (.int v3), some (.int y4), some (.int y5), some (.int y6), some (.int x3), none, none, none]) (show decode cX4_run 58 = .ok (.istore 7, 2) by decide +kernel) rfl (Nat.le_of_ble_eq_true rfl) rfl rfl ?_
          refine tr_aload_n (pc' := 61) (show decode cX4_run 60 = .ok (.aload_n 1, 1) by decide +kernel) rfl rfl rfl ?_
          refine tr_getR (pc' := 64) fl_HandRing_Machine_37 (show decode cX4_run 61 = .ok (.getfield 37, 3) by decide +kernel) rfl (la_po hL hv1) (la_pr1 hL hv1) ?_
          refine tr_iload (pc' := 66) (show decode cX4_run 64 = .ok (.iload 5, 2) by decide +kernel) rfl rfl ?_
          obtain ⟨x4, ex4, h⟩ := hm_bs h
          refine tp_ldI (pc' := 67) (show decode cX4_run 66 = .ok (.iaload, 1) by decide +kernel) rfl (la_pa2 hL hv1) ex4 ?_
          refine tr_istore (pc' := 69) (lv' := [some (.ref o0), some (.ref v1), none, some (.int v3), some (.int y4), some (.int y5), some (.int y6), some (.int x3), some (.int x4), none, none]) (show decode cX4_run 67 = .ok (.istore 8, 2) by decide +kernel) rfl (Nat.le_of_ble_eq_true rfl) rfl rfl ?_
          refine tr_iinc (pc' := 72) (v := y5 + (1 : Int32)) (lv' := [some (.ref o0), some (.ref v1), none, some (.int v3), some (.int y4), some (.int (y5 + (1 : Int32))), some (.int y6), some (.int x3), some (.int x4), none, none]) (show decode cX4_run 69 = .ok (.iinc 5 1, 3) by decide +kernel) rfl rfl rfl (Nat.le_of_ble_eq_true rfl) rfl rfl ?_
          refine tr_iload (pc' := 74) (show decode cX4_run 72 = .ok (.iload 7, 2) by decide +kernel) rfl rfl ?_
          rcases hm_is h with ⟨hc, h⟩ | ⟨hc, h⟩
          · refine tr_if_eq_t (tgt := 83) hc (show decode cX4_run 74 = .ok (.ifCond .eq 9, 3) by decide +kernel) (by decide) ?_
            exact ok_X4_run_J83 hfr _ _ _ _ (f_X4_run_L30 o0 v1 v2 v3 e366 n) e366 ih he366 ho0 hv1 y4 (y5 + (1 : Int32)) y6 x3 x4 μ1 hL h
          · refine tr_if_eq_f (tgt := 83) (pc' := 77) hc (show decode cX4_run 74 = .ok (.ifCond .eq 9, 3) by decide +kernel) (by decide) rfl ?_
            refine tr_iload (pc' := 79) (show decode cX4_run 77 = .ok (.iload 7, 2) by decide +kernel) rfl rfl ?_
            refine tr_iconst (pc' := 80) (v := (1 : Int32)) (show decode cX4_run 79 = .ok (.iconst 1, 1) by decide +kernel) rfl (by decide) ?_
            rcases hm_is h with ⟨hc, h⟩ | ⟨hc, h⟩
            · refine tr_icmp_ne_f (tgt := 157) (pc' := 83) hc (show decode cX4_run 80 = .ok (.if_icmp .ne 77, 3) by decide +kernel) (by decide) rfl ?_
              exact ok_X4_run_J83 hfr _ _ _ _ (f_X4_run_L30 o0 v1 v2 v3 e366 n) e366 ih he366 ho0 hv1 y4 (y5 + (1 : Int32)) y6 x3 x4 μ1 hL h
            · refine tr_icmp_ne_t (tgt := 157) hc (show decode cX4_run 80 = .ok (.if_icmp .ne 77, 3) by decide +kernel) (by decide) ?_
              refine tr_iload (pc' := 159) (show decode cX4_run 157 = .ok (.iload 4, 2) by decide +kernel) rfl rfl ?_
              refine tr_iload (pc' := 161) (show decode cX4_run 159 = .ok (.iload 7, 2) by decide +kernel) rfl rfl ?_
              refine tr_bipush (pc' := 163) (v := (10 : Int32)) (show decode cX4_run 161 = .ok (.bipush 10, 2) by decide +kernel) rfl (by decide) ?_
              rcases hm_is h with ⟨hc, h⟩ | ⟨hc, h⟩
              · refine tr_icmp_ge_t (tgt := 170) hc (show decode cX4_run 163 = .ok (.if_icmp .ge 7, 3) by decide +kernel) (by decide) ?_
                refine tr_iconst (pc' := 171) (v := (0 : Int32)) (show decode cX4_run 170 = .ok (.iconst 0, 1) by decide +kernel) rfl (by decide) ?_
                exact ok_X4_run_J171 hfr _ _ _ _ (f_X4_run_L30 o0 v1 v2 v3 e366 n) e366 ih he366 ho0 hv1 (0 : Int32) y4 y4 (y5 + (1 : Int32)) y6 x3 x4 μ1 hL h
              · refine tr_icmp_ge_f (tgt := 170) (pc' := 166) hc (show decode cX4_run 163 = .ok (.if_icmp .ge 7, 3) by decide +kernel) (by decide) rfl ?_
                refine tr_iconst (pc' := 167) (v := (1 : Int32)) (show decode cX4_run 166 = .ok (.iconst 1, 1) by decide +kernel) rfl (by decide) ?_
                refine tr_goto (tgt := 171) (show decode cX4_run 167 = .ok (.goto 4, 3) by decide +kernel) rfl ?_
                exact ok_X4_run_J171 hfr _ _ _ _ (f_X4_run_L30 o0 v1 v2 v3 e366 n) e366 ih he366 ho0 hv1 (1 : Int32) y4 y4 (y5 + (1 : Int32)) y6 x3 x4 μ1 hL h
        · refine tr_if_ne_t (tgt := 366) hc (show decode cX4_run 48 = .ok (.ifCond .ne 318, 3) by decide +kernel) (by decide) ?_
          refine hm_fgt [true, false, false, false, true, false, false, false, false, false, false] (lv' := [some (.ref o0), none, none, none, some (.int y4), none, none, none, none, none, none]) rfl ?_
          exact he366 y4 μ1 hL h
def f_X4_run_J366 (o0 : Nat) (v1 : Nat) (v2 : Int32) (v3 : Int32) (y4 : Int32) (μ1 : hm_M) : Option (Int32 × hm_M) :=
  (if (μ1.1 o0 2) = 0 then
  (if 0 ≤ y4 then
  Option.bind (hm_ld μ1 (o0 + 1) 64 (0 : Int32)) fun x18 =>
  some (x18, μ1)
  else
  some ((0 : Int32), μ1))
  else
  some ((0 : Int32), μ1))
theorem ok_X4_run_J366 {fr : Nat} (hfr : 1 ≤ fr) {ν : hm_N} {r : Int32} {μR : hm_M}  (o0 : Nat) (v1 : Nat) (v2 : Int32) (v3 : Int32)   (ho0 : hm_Q o0) (hv1 : hm_pg ν v1) (y4 : Int32) (μ1 : hm_M) (hL : hm_LL ν μ1) (h : f_X4_run_J366 o0 v1 v2 v3 y4 μ1 = some (r, μR)) : hm_T (hm_LL ν) m_X4_run fr 0 0 (some (.int r)) μR 366 [some (.ref o0), none, none, none, some (.int y4), none, none, none, none, none, none] [] μ1 := by
  unfold f_X4_run_J366 at h
  refine tr_aload_n (pc' := 367) (show decode cX4_run 366 = .ok (.aload_n 0, 1) by decide +kernel) rfl rfl rfl ?_
  refine tr_getI (pc' := 370) fl_HandRing_Machine_30 (show decode cX4_run 367 = .ok (.getfield 30, 3) by decide +kernel) rfl (la_qo hL ho0) ?_
  rcases hm_is h with ⟨hc, h⟩ | ⟨hc, h⟩
  · refine tr_if_ne_f (tgt := 378) (pc' := 373) hc (show decode cX4_run 370 = .ok (.ifCond .ne 8, 3) by decide +kernel) (by decide) rfl ?_
    refine tr_iload (pc' := 375) (show decode cX4_run 373 = .ok (.iload 4, 2) by decide +kernel) rfl rfl ?_
    rcases hm_is h with ⟨hc, h⟩ | ⟨hc, h⟩
    · refine tr_if_ge_t (tgt := 382) hc (show decode cX4_run 375 = .ok (.ifCond .ge 7, 3) by decide +kernel) (by decide) ?_
      refine tr_aload_n (pc' := 383) (show decode cX4_run 382 = .ok (.aload_n 0, 1) by decide +kernel) rfl rfl rfl ?_
      refine tr_getR (pc' := 386) fl_HandRing_Machine_11 (show decode cX4_run 383 = .ok (.getfield 11, 3) by decide +kernel) rfl (la_qo hL ho0) (la_q1 hL ho0) ?_
      refine tr_iconst (pc' := 387) (v := (0 : Int32)) (show decode cX4_run 386 = .ok (.iconst 0, 1) by decide +kernel) rfl (by decide) ?_
      obtain ⟨x18, ex18, h⟩ := hm_bs h
      refine tp_ldI (pc' := 388) (show decode cX4_run 387 = .ok (.iaload, 1) by decide +kernel) rfl (la_qa1 hL ho0) ex18 ?_
      cases h
      exact tr_iret rfl (show decode cX4_run 388 = .ok (.ireturn, 1) by decide +kernel) hL
    · refine tr_if_ge_f (tgt := 382) (pc' := 378) hc (show decode cX4_run 375 = .ok (.ifCond .ge 7, 3) by decide +kernel) (by decide) rfl ?_
      refine tr_iconst (pc' := 379) (v := (0 : Int32)) (show decode cX4_run 378 = .ok (.iconst 0, 1) by decide +kernel) rfl (by decide) ?_
      refine tr_goto (tgt := 388) (show decode cX4_run 379 = .ok (.goto 9, 3) by decide +kernel) rfl ?_
      cases h
      exact tr_iret rfl (show decode cX4_run 388 = .ok (.ireturn, 1) by decide +kernel) hL
  · refine tr_if_ne_t (tgt := 378) hc (show decode cX4_run 370 = .ok (.ifCond .ne 8, 3) by decide +kernel) (by decide) ?_
    refine tr_iconst (pc' := 379) (v := (0 : Int32)) (show decode cX4_run 378 = .ok (.iconst 0, 1) by decide +kernel) rfl (by decide) ?_
    refine tr_goto (tgt := 388) (show decode cX4_run 379 = .ok (.goto 9, 3) by decide +kernel) rfl ?_
    cases h
    exact tr_iret rfl (show decode cX4_run 388 = .ok (.ireturn, 1) by decide +kernel) hL
def f_X4_run_J18 (o0 : Nat) (v1 : Nat) (v2 : Int32) (v3 : Int32) (s0 : Int32) (μ1 : hm_M) : Option (Int32 × hm_M) :=
  Option.bind (hm_pZ μ1 o0 2 s0) fun μ2 =>
  f_X4_run_L30 o0 v1 v2 v3 (fun z17_4 μz17 => f_X4_run_J366 o0 v1 v2 v3 z17_4 μz17) hm_fu (-1 : Int32) v2 (0 : Int32) μ2
theorem ok_X4_run_J18 {fr : Nat} (hfr : 1 ≤ fr) {ν : hm_N} {r : Int32} {μR : hm_M}  (o0 : Nat) (v1 : Nat) (v2 : Int32) (v3 : Int32)   (ho0 : hm_Q o0) (hv1 : hm_pg ν v1) (s0 : Int32) (μ1 : hm_M) (hL : hm_LL ν μ1) (h : f_X4_run_J18 o0 v1 v2 v3 s0 μ1 = some (r, μR)) : hm_T (hm_LL ν) m_X4_run fr 0 0 (some (.int r)) μR 18 [some (.ref o0), some (.ref v1), some (.int v2), some (.int v3), none, none, none, none, none, none, none] [.int s0, .ref o0] μ1 := by
  unfold f_X4_run_J18 at h
  obtain ⟨μ2, eμ2, h⟩ := hm_bs h
  refine tp_pZ (pc' := 21) fl_HandRing_Machine_30 (show decode cX4_run 18 = .ok (.putfield 30, 3) by decide +kernel) rfl (la_qo hL ho0) eμ2 ?_
  replace hL := hL.same (hm_pZ_s eμ2)
  refine tr_iconst (pc' := 22) (v := (-1 : Int32)) (show decode cX4_run 21 = .ok (.iconst (-1), 1) by decide +kernel) rfl (by decide) ?_
  refine tr_istore (pc' := 24) (lv' := [some (.ref o0), some (.ref v1), some (.int v2), some (.int v3), some (.int (-1 : Int32)), none, none, none, none, none, none]) (show decode cX4_run 22 = .ok (.istore 4, 2) by decide +kernel) rfl (Nat.le_of_ble_eq_true rfl) rfl rfl ?_
  refine tr_iload_n (pc' := 25) (show decode cX4_run 24 = .ok (.iload_n 2, 1) by decide +kernel) rfl rfl rfl ?_
  refine tr_istore (pc' := 27) (lv' := [some (.ref o0), some (.ref v1), some (.int v2), some (.int v3), some (.int (-1 : Int32)), some (.int v2), none, none, none, none, none]) (show decode cX4_run 25 = .ok (.istore 5, 2) by decide +kernel) rfl (Nat.le_of_ble_eq_true rfl) rfl rfl ?_
  refine tr_iconst (pc' := 28) (v := (0 : Int32)) (show decode cX4_run 27 = .ok (.iconst 0, 1) by decide +kernel) rfl (by decide) ?_
  refine tr_istore (pc' := 30) (lv' := [some (.ref o0), some (.ref v1), some (.int v2), some (.int v3), some (.int (-1 : Int32)), some (.int v2), some (.int (0 : Int32)), none, none, none, none]) (show decode cX4_run 28 = .ok (.istore 6, 2) by decide +kernel) rfl (Nat.le_of_ble_eq_true rfl) rfl rfl ?_
  refine hm_fgt [true, true, false, true, true, true, true, false, false, false, false] (lv' := [some (.ref o0), some (.ref v1), none, some (.int v3), some (.int (-1 : Int32)), some (.int v2), some (.int (0 : Int32)), none, none, none, none]) rfl ?_
  refine ok_X4_run_L30 hfr _ _ _ _ _ ?_ ho0 hv1 _ (-1 : Int32) v2 (0 : Int32) μ2 hL h
  · intro z17_4 μz17 hL h
    exact ok_X4_run_J366 hfr _ _ _ _ ho0 hv1 z17_4 μz17 hL h
def f_X4_run_J13 (o0 : Nat) (v1 : Nat) (v2 : Int32) (v3 : Int32) (μ1 : hm_M) : Option (Int32 × hm_M) :=
  f_X4_run_J18 o0 v1 v2 v3 (1 : Int32) μ1
theorem ok_X4_run_J13 {fr : Nat} (hfr : 1 ≤ fr) {ν : hm_N} {r : Int32} {μR : hm_M}  (o0 : Nat) (v1 : Nat) (v2 : Int32) (v3 : Int32)   (ho0 : hm_Q o0) (hv1 : hm_pg ν v1)  (μ1 : hm_M) (hL : hm_LL ν μ1) (h : f_X4_run_J13 o0 v1 v2 v3 μ1 = some (r, μR)) : hm_T (hm_LL ν) m_X4_run fr 0 0 (some (.int r)) μR 13 [some (.ref o0), some (.ref v1), some (.int v2), some (.int v3), none, none, none, none, none, none, none] [.ref o0] μ1 := by
  unfold f_X4_run_J13 at h
  refine tr_iconst (pc' := 14) (v := (1 : Int32)) (show decode cX4_run 13 = .ok (.iconst 1, 1) by decide +kernel) rfl (by decide) ?_
  refine tr_goto (tgt := 18) (show decode cX4_run 14 = .ok (.goto 4, 3) by decide +kernel) rfl ?_
  exact ok_X4_run_J18 hfr _ _ _ _ ho0 hv1 (1 : Int32) μ1 hL h
def f_X4_run (o0 : Nat) (v1 : Nat) (v2 : Int32) (v3 : Int32) (μ : hm_M) : Option (Int32 × hm_M) :=
  (if v2 < 0 then
  f_X4_run_J13 o0 v1 v2 v3 μ
  else
  (if v3 ≤ (μ.1 v1 3) then
  f_X4_run_J18 o0 v1 v2 v3 (0 : Int32) μ
  else
  f_X4_run_J13 o0 v1 v2 v3 μ))
set_option maxRecDepth 100000 in
theorem ok_X4_run {fr : Nat} (hfr : 1 ≤ fr) {ν : hm_N} {r : Int32} {μR : hm_M}  (o0 : Nat) (v1 : Nat) (v2 : Int32) (v3 : Int32) (ho0 : hm_Q o0) (hv1 : hm_pg ν v1) (μ : hm_M) (hL : hm_LL ν μ) (h : f_X4_run o0 v1 v2 v3 μ = some (r, μR)) : hm_CC (hm_LL ν) m_X4_run fr 0 0 [.ref o0, .ref v1, .int v2, .int v3] μ (some (.int r)) μR := by
  refine hm_enter (lv := [some (.ref o0), some (.ref v1), some (.int v2), some (.int v3), none, none, none, none, none, none, none]) (by decide) rfl (Nat.le_of_ble_eq_true rfl) ?_
  unfold f_X4_run at h
  refine tr_aload_n (pc' := 1) (show decode cX4_run 0 = .ok (.aload_n 0, 1) by decide +kernel) rfl rfl rfl ?_
  refine tr_iload_n (pc' := 2) (show decode cX4_run 1 = .ok (.iload_n 2, 1) by decide +kernel) rfl rfl rfl ?_
  rcases hm_is h with ⟨hc, h⟩ | ⟨hc, h⟩
  · refine tr_if_lt_t (tgt := 13) hc (show decode cX4_run 2 = .ok (.ifCond .lt 11, 3) by decide +kernel) (by decide) ?_
    exact ok_X4_run_J13 hfr _ _ _ _ ho0 hv1 μ hL h
  · refine tr_if_lt_f (tgt := 13) (pc' := 5) hc (show decode cX4_run 2 = .ok (.ifCond .lt 11, 3) by decide +kernel) (by decide) rfl ?_
    refine tr_iload_n (pc' := 6) (show decode cX4_run 5 = .ok (.iload_n 3, 1) by decide +kernel) rfl rfl rfl ?_
    refine tr_aload_n (pc' := 7) (show decode cX4_run 6 = .ok (.aload_n 1, 1) by decide +kernel) rfl rfl rfl ?_
    refine tr_getI (pc' := 10) fl_HandRing_Machine_24 (show decode cX4_run 7 = .ok (.getfield 24, 3) by decide +kernel) rfl (la_po hL hv1) ?_
    rcases hm_is h with ⟨hc, h⟩ | ⟨hc, h⟩
    · refine tr_icmp_le_t (tgt := 17) hc (show decode cX4_run 10 = .ok (.if_icmp .le 7, 3) by decide +kernel) (by decide) ?_
      refine tr_iconst (pc' := 18) (v := (0 : Int32)) (show decode cX4_run 17 = .ok (.iconst 0, 1) by decide +kernel) rfl (by decide) ?_
      exact ok_X4_run_J18 hfr _ _ _ _ ho0 hv1 (0 : Int32) μ hL h
    · refine tr_icmp_le_f (tgt := 17) (pc' := 13) hc (show decode cX4_run 10 = .ok (.if_icmp .le 7, 3) by decide +kernel) (by decide) rfl ?_
      exact ok_X4_run_J13 hfr _ _ _ _ ho0 hv1 μ hL h
def f_X3_lastTold_J98 (v1 : Option Nat) (v2 : Int32) (w14_1 : Nat) (c14 : Int32 → hm_M → Option (Int32 × hm_M)) (e104 : hm_M → Option (Int32 × hm_M)) (y3 : Int32) (μ1 : hm_M) : Option (Int32 × hm_M) :=
  c14 (y3 + (-1 : Int32)) μ1
theorem ok_X3_lastTold_J98 {fr : Nat} (hfr : 2 ≤ fr) {ν : hm_N} {r : Int32} {μR : hm_M}  (v1 : Option Nat) (v2 : Int32) (w14_1 : Nat) (c14 : Int32 → hm_M → Option (Int32 × hm_M)) (e104 : hm_M → Option (Int32 × hm_M)) (hc14 : ∀ (y3 : Int32)  (μ1 : hm_M), hm_LL ν μ1 → c14 y3 μ1 = some (r, μR) → hm_T (hm_LL ν) m_X3_lastTold fr 0 0 (some (.int r)) μR 14 [some (.ref 106), some (.ref w14_1), some (.int v2), some (.int y3), none, none, none] [] μ1) (he104 : ∀   (μ1 : hm_M), hm_LL ν μ1 → e104 μ1 = some (r, μR) → hm_T (hm_LL ν) m_X3_lastTold fr 0 0 (some (.int r)) μR 104 [none, none, none, none, none, none, none] [] μ1) (hv1 : ∀ p, v1 = some p → hm_pg ν p) (hw14_1 : hm_pg ν w14_1) (y3 : Int32) (μ1 : hm_M) (hL : hm_LL ν μ1) (h : f_X3_lastTold_J98 v1 v2 w14_1 c14 e104 y3 μ1 = some (r, μR)) : hm_T (hm_LL ν) m_X3_lastTold fr 0 0 (some (.int r)) μR 98 [some (.ref 106), some (.ref w14_1), some (.int v2), some (.int y3), none, none, none] [] μ1 := by
  unfold f_X3_lastTold_J98 at h
  refine tr_iinc (pc' := 101) (v := y3 + (-1 : Int32)) (lv' := [some (.ref 106), some (.ref w14_1), some (.int v2), some (.int (y3 + (-1 : Int32))), none, none, none]) (show decode cX3_lastTold 98 = .ok (.iinc 3 (-1), 3) by decide +kernel) rfl rfl rfl (Nat.le_of_ble_eq_true rfl) rfl rfl ?_
  refine tr_goto (tgt := 14) (show decode cX3_lastTold 101 = .ok (.goto (-87), 3) by decide +kernel) rfl ?_
  exact hc14 (y3 + (-1 : Int32)) μ1 hL h
def f_X3_lastTold_J67 (v1 : Option Nat) (v2 : Int32) (w14_1 : Nat) (c14 : Int32 → hm_M → Option (Int32 × hm_M)) (e104 : hm_M → Option (Int32 × hm_M)) (y3 : Int32) (y4 : Int32) (μ1 : hm_M) : Option (Int32 × hm_M) :=
  Option.bind (f_X5_clausePart w14_1 y3 (1 : Int32) μ1) fun x6 =>
  hm_b2 (f_X4_run 107 w14_1 x6 y4 μ1) fun x7 μ8 =>
  (if (μ8.1 107 2) = 0 then
  some (x7, μ8)
  else
  f_X3_lastTold_J98 v1 v2 w14_1 c14 e104 y3 μ8)
theorem ok_X3_lastTold_J67 {fr : Nat} (hfr : 2 ≤ fr) {ν : hm_N} {r : Int32} {μR : hm_M}  (v1 : Option Nat) (v2 : Int32) (w14_1 : Nat) (c14 : Int32 → hm_M → Option (Int32 × hm_M)) (e104 : hm_M → Option (Int32 × hm_M)) (hc14 : ∀ (y3 : Int32)  (μ1 : hm_M), hm_LL ν μ1 → c14 y3 μ1 = some (r, μR) → hm_T (hm_LL ν) m_X3_lastTold fr 0 0 (some (.int r)) μR 14 [some (.ref 106), some (.ref w14_1), some (.int v2), some (.int y3), none, none, none] [] μ1) (he104 : ∀   (μ1 : hm_M), hm_LL ν μ1 → e104 μ1 = some (r, μR) → hm_T (hm_LL ν) m_X3_lastTold fr 0 0 (some (.int r)) μR 104 [none, none, none, none, none, none, none] [] μ1) (hv1 : ∀ p, v1 = some p → hm_pg ν p) (hw14_1 : hm_pg ν w14_1) (y3 : Int32) (y4 : Int32) (μ1 : hm_M) (hL : hm_LL ν μ1) (h : f_X3_lastTold_J67 v1 v2 w14_1 c14 e104 y3 y4 μ1 = some (r, μR)) : hm_T (hm_LL ν) m_X3_lastTold fr 0 0 (some (.int r)) μR 67 [some (.ref 106), some (.ref w14_1), some (.int v2), some (.int y3), some (.int y4), none, none] [] μ1 := by
  unfold f_X3_lastTold_J67 at h
  refine tr_aload_n (pc' := 68) (show decode cX3_lastTold 67 = .ok (.aload_n 0, 1) by decide +kernel) rfl rfl rfl ?_
  refine tr_getR (pc' := 71) fl_HandRing_Judge_16 (show decode cX3_lastTold 68 = .ok (.getfield 16, 3) by decide +kernel) rfl (la_o hL (by decide) rfl) (la_r hL 51 rfl) ?_
  refine tr_aload_n (pc' := 72) (show decode cX3_lastTold 71 = .ok (.aload_n 1, 1) by decide +kernel) rfl rfl rfl ?_
  refine tr_aload_n (pc' := 73) (show decode cX3_lastTold 72 = .ok (.aload_n 1, 1) by decide +kernel) rfl rfl rfl ?_
  refine tr_iload_n (pc' := 74) (show decode cX3_lastTold 73 = .ok (.iload_n 3, 1) by decide +kernel) rfl rfl rfl ?_
  refine tr_iconst (pc' := 75) (v := (1 : Int32)) (show decode cX3_lastTold 74 = .ok (.iconst 1, 1) by decide +kernel) rfl (by decide) ?_
  obtain ⟨x6, ex6, h⟩ := hm_bs h
  have cx6 := ok_X5_clausePart (fr := fr - 1) (ν := ν) (by omega) w14_1 y3 (1 : Int32) hw14_1 μ1 hL ex6
  refine tp_callV (pc' := 78) (As := [.int y3, .int (1 : Int32)]) (fr1 := fr - 1) (ci := 5) okm_X5_clausePart lk_HandRing_Judge_87 (show decode cX3_lastTold 75 = .ok (.invokevirtual 87, 3) by decide +kernel) rfl rfl rfl (by decide) (la_po hL hw14_1) rfl rfl (Nat.le_of_ble_eq_true rfl) (by omega) cx6 (st' := [.int x6, .ref w14_1, .ref 107]) rfl ?_
  refine tr_iload (pc' := 80) (show decode cX3_lastTold 78 = .ok (.iload 4, 2) by decide +kernel) rfl rfl ?_
  obtain ⟨x7, μ8, ex7, h⟩ := hm_b2s h
  have cx7 := ok_X4_run (fr := fr - 1) (ν := ν) (by omega) 107 w14_1 x6 y4 (by unfold hm_Q; decide) hw14_1 μ1 hL ex7
  refine tp_callV (pc' := 83) (As := [.ref w14_1, .int x6, .int y4]) (fr1 := fr - 1) (ci := 4) okm_X4_run lk_HandRing_Judge_90 (show decode cX3_lastTold 80 = .ok (.invokevirtual 90, 3) by decide +kernel) rfl rfl rfl (by decide) (la_o hL (by decide) rfl) rfl rfl (Nat.le_of_ble_eq_true rfl) (by omega) cx7 (st' := [.int x7]) rfl ?_
  replace hL := cx7.1
  refine tr_istore (pc' := 85) (lv' := [some (.ref 106), some (.ref w14_1), some (.int v2), some (.int y3), some (.int y4), none, some (.int x7)]) (show decode cX3_lastTold 83 = .ok (.istore 6, 2) by decide +kernel) rfl (Nat.le_of_ble_eq_true rfl) rfl rfl ?_
  refine tr_aload_n (pc' := 86) (show decode cX3_lastTold 85 = .ok (.aload_n 0, 1) by decide +kernel) rfl rfl rfl ?_
  refine tr_getR (pc' := 89) fl_HandRing_Judge_16 (show decode cX3_lastTold 86 = .ok (.getfield 16, 3) by decide +kernel) rfl (la_o hL (by decide) rfl) (la_r hL 51 rfl) ?_
  refine tr_getI (pc' := 92) fl_HandRing_Judge_94 (show decode cX3_lastTold 89 = .ok (.getfield 94, 3) by decide +kernel) rfl (la_o hL (by decide) rfl) ?_
  rcases hm_is h with ⟨hc, h⟩ | ⟨hc, h⟩
  · refine tr_if_ne_f (tgt := 98) (pc' := 95) hc (show decode cX3_lastTold 92 = .ok (.ifCond .ne 6, 3) by decide +kernel) (by decide) rfl ?_
    refine tr_iload (pc' := 97) (show decode cX3_lastTold 95 = .ok (.iload 6, 2) by decide +kernel) rfl rfl ?_
    cases h
    exact tr_iret rfl (show decode cX3_lastTold 97 = .ok (.ireturn, 1) by decide +kernel) hL
  · refine tr_if_ne_t (tgt := 98) hc (show decode cX3_lastTold 92 = .ok (.ifCond .ne 6, 3) by decide +kernel) (by decide) ?_
    refine hm_fgt [true, true, true, true, false, false, false] (lv' := [some (.ref 106), some (.ref w14_1), some (.int v2), some (.int y3), none, none, none]) rfl ?_
    exact ok_X3_lastTold_J98 hfr _ _ w14_1 c14 e104 hc14 he104 hv1 hw14_1 y3 μ8 hL h
def f_X3_lastTold_L14 (v1 : Option Nat) (v2 : Int32) (w14_1 : Nat) (e104 : hm_M → Option (Int32 × hm_M)) : Nat → Int32 → hm_M → Option (Int32 × hm_M)
  | 0, _, _ => none
  | n + 1, y3, μ1 => (if y3 < 0 then
  e104 μ1
  else
  Option.bind (f_X5_clausePart w14_1 y3 (0 : Int32) μ1) fun x3 =>
  (if x3 = v2 then
  Option.bind (f_X5_clausePart w14_1 y3 (3 : Int32) μ1) fun x4 =>
  Option.bind (f_X5_clausePart w14_1 y3 (4 : Int32) μ1) fun x5 =>
  (if x4 = x5 then
  f_X3_lastTold_J67 v1 v2 w14_1 (f_X3_lastTold_L14 v1 v2 w14_1 e104 n) e104 y3 x4 μ1
  else
  hm_b2 (f_X4_run 107 w14_1 x4 x5 μ1) fun x9 μ10 =>
  (if x9 = (1 : Int32) then
  f_X3_lastTold_J67 v1 v2 w14_1 (f_X3_lastTold_L14 v1 v2 w14_1 e104 n) e104 y3 x4 μ10
  else
  f_X3_lastTold_J98 v1 v2 w14_1 (f_X3_lastTold_L14 v1 v2 w14_1 e104 n) e104 y3 μ10))
  else
  f_X3_lastTold_J98 v1 v2 w14_1 (f_X3_lastTold_L14 v1 v2 w14_1 e104 n) e104 y3 μ1))
theorem ok_X3_lastTold_L14 {fr : Nat} (hfr : 2 ≤ fr) {ν : hm_N} {r : Int32} {μR : hm_M}  (v1 : Option Nat) (v2 : Int32) (w14_1 : Nat) (e104 : hm_M → Option (Int32 × hm_M))  (he104 : ∀   (μ1 : hm_M), hm_LL ν μ1 → e104 μ1 = some (r, μR) → hm_T (hm_LL ν) m_X3_lastTold fr 0 0 (some (.int r)) μR 104 [none, none, none, none, none, none, none] [] μ1) (hv1 : ∀ p, v1 = some p → hm_pg ν p) (hw14_1 : hm_pg ν w14_1) : ∀ (n : Nat) (y3 : Int32)  (μ1 : hm_M), hm_LL ν μ1 → f_X3_lastTold_L14 v1 v2 w14_1 e104 n y3 μ1 = some (r, μR) → hm_T (hm_LL ν) m_X3_lastTold fr 0 0 (some (.int r)) μR 14 [some (.ref 106), some (.ref w14_1), some (.int v2), some (.int y3), none, none, none] [] μ1 := by
  intro n
  induction n with
  | zero =>
    intro y3 μ1 hL h
    unfold f_X3_lastTold_L14 at h
    cases h
  | succ n ih =>
    intro y3 μ1 hL h
    unfold f_X3_lastTold_L14 at h
    refine tr_iload_n (pc' := 15) (show decode cX3_lastTold 14 = .ok (.iload_n 3, 1) by decide +kernel) rfl rfl rfl ?_
    rcases hm_is h with ⟨hc, h⟩ | ⟨hc, h⟩
    · refine tr_if_lt_t (tgt := 104) hc (show decode cX3_lastTold 15 = .ok (.ifCond .lt 89, 3) by decide +kernel) (by decide) ?_
      refine hm_fgt [false, false, false, false, false, false, false] (lv' := [none, none, none, none, none, none, none]) rfl ?_
      exact he104 μ1 hL h
    · refine tr_if_lt_f (tgt := 104) (pc' := 18) hc (show decode cX3_lastTold 15 = .ok (.ifCond .lt 89, 3) by decide +kernel) (by decide) rfl ?_
      refine tr_aload_n (pc' := 19) (show decode cX3_lastTold 18 = .ok (.aload_n 1, 1) by decide +kernel) rfl rfl rfl ?_
      refine tr_iload_n (pc' := 20) (show decode cX3_lastTold 19 = .ok (.iload_n 3, 1) by decide +kernel) rfl rfl rfl ?_
      refine tr_iconst (pc' := 21) (v := (0 : Int32)) (show decode cX3_lastTold 20 = .ok (.iconst 0, 1) by decide +kernel) rfl (by decide) ?_
      obtain ⟨x3, ex3, h⟩ := hm_bs h
      have cx3 := ok_X5_clausePart (fr := fr - 1) (ν := ν) (by omega) w14_1 y3 (0 : Int32) hw14_1 μ1 hL ex3
      refine tp_callV (pc' := 24) (As := [.int y3, .int (0 : Int32)]) (fr1 := fr - 1) (ci := 5) okm_X5_clausePart lk_HandRing_Judge_87 (show decode cX3_lastTold 21 = .ok (.invokevirtual 87, 3) by decide +kernel) rfl rfl rfl (by decide) (la_po hL hw14_1) rfl rfl (Nat.le_of_ble_eq_true rfl) (by omega) cx3 (st' := [.int x3]) rfl ?_
      refine tr_iload_n (pc' := 25) (show decode cX3_lastTold 24 = .ok (.iload_n 2, 1) by decide +kernel) rfl rfl rfl ?_
      rcases hm_is h with ⟨hc, h⟩ | ⟨hc, h⟩
      · refine tr_icmp_ne_f (tgt := 98) (pc' := 28) hc (show decode cX3_lastTold 25 = .ok (.if_icmp .ne 73, 3) by decide +kernel) (by decide) rfl ?_
        refine tr_aload_n (pc' := 29) (show decode cX3_lastTold 28 = .ok (.aload_n 1, 1) by decide +kernel) rfl rfl rfl ?_
        refine tr_iload_n (pc' := 30) (show decode cX3_lastTold 29 = .ok (.iload_n 3, 1) by decide +kernel) rfl rfl rfl ?_
        refine tr_iconst (pc' := 31) (v := (3 : Int32)) (show decode cX3_lastTold 30 = .ok (.iconst 3, 1) by decide +kernel) rfl (by decide) ?_
        obtain ⟨x4, ex4, h⟩ := hm_bs h
        have cx4 := ok_X5_clausePart (fr := fr - 1) (ν := ν) (by omega) w14_1 y3 (3 : Int32) hw14_1 μ1 hL ex4
        refine tp_callV (pc' := 34) (As := [.int y3, .int (3 : Int32)]) (fr1 := fr - 1) (ci := 5) okm_X5_clausePart lk_HandRing_Judge_87 (show decode cX3_lastTold 31 = .ok (.invokevirtual 87, 3) by decide +kernel) rfl rfl rfl (by decide) (la_po hL hw14_1) rfl rfl (Nat.le_of_ble_eq_true rfl) (by omega) cx4 (st' := [.int x4]) rfl ?_
        refine tr_istore (pc' := 36) (lv' := [some (.ref 106), some (.ref w14_1), some (.int v2), some (.int y3), some (.int x4), none, none]) (show decode cX3_lastTold 34 = .ok (.istore 4, 2) by decide +kernel) rfl (Nat.le_of_ble_eq_true rfl) rfl rfl ?_
        refine tr_aload_n (pc' := 37) (show decode cX3_lastTold 36 = .ok (.aload_n 1, 1) by decide +kernel) rfl rfl rfl ?_
        refine tr_iload_n (pc' := 38) (show decode cX3_lastTold 37 = .ok (.iload_n 3, 1) by decide +kernel) rfl rfl rfl ?_
        refine tr_iconst (pc' := 39) (v := (4 : Int32)) (show decode cX3_lastTold 38 = .ok (.iconst 4, 1) by decide +kernel) rfl (by decide) ?_
        obtain ⟨x5, ex5, h⟩ := hm_bs h
        have cx5 := ok_X5_clausePart (fr := fr - 1) (ν := ν) (by omega) w14_1 y3 (4 : Int32) hw14_1 μ1 hL ex5
        refine tp_callV (pc' := 42) (As := [.int y3, .int (4 : Int32)]) (fr1 := fr - 1) (ci := 5) okm_X5_clausePart lk_HandRing_Judge_87 (show decode cX3_lastTold 39 = .ok (.invokevirtual 87, 3) by decide +kernel) rfl rfl rfl (by decide) (la_po hL hw14_1) rfl rfl (Nat.le_of_ble_eq_true rfl) (by omega) cx5 (st' := [.int x5]) rfl ?_
        refine tr_istore (pc' := 44) (lv' := [some (.ref 106), some (.ref w14_1), some (.int v2), some (.int y3), some (.int x4), some (.int x5), none]) (show decode cX3_lastTold 42 = .ok (.istore 5, 2) by decide +kernel) rfl (Nat.le_of_ble_eq_true rfl) rfl rfl ?_
        refine tr_iload (pc' := 46) (show decode cX3_lastTold 44 = .ok (.iload 4, 2) by decide +kernel) rfl rfl ?_
        refine tr_iload (pc' := 48) (show decode cX3_lastTold 46 = .ok (.iload 5, 2) by decide +kernel) rfl rfl ?_
        rcases hm_is h with ⟨hc, h⟩ | ⟨hc, h⟩
        · refine tr_icmp_eq_t (tgt := 67) hc (show decode cX3_lastTold 48 = .ok (.if_icmp .eq 19, 3) by decide +kernel) (by decide) ?_
          refine hm_fgt [true, true, true, true, true, false, false] (lv' := [some (.ref 106), some (.ref w14_1), some (.int v2), some (.int y3), some (.int x4), none, none]) rfl ?_
          exact ok_X3_lastTold_J67 hfr _ _ w14_1 (f_X3_lastTold_L14 v1 v2 w14_1 e104 n) e104 ih he104 hv1 hw14_1 y3 x4 μ1 hL h
        · refine tr_icmp_eq_f (tgt := 67) (pc' := 51) hc (show decode cX3_lastTold 48 = .ok (.if_icmp .eq 19, 3) by decide +kernel) (by decide) rfl ?_
          refine tr_aload_n (pc' := 52) (show decode cX3_lastTold 51 = .ok (.aload_n 0, 1) by decide +kernel) rfl rfl rfl ?_
          refine tr_getR (pc' := 55) fl_HandRing_Judge_16 (show decode cX3_lastTold 52 = .ok (.getfield 16, 3) by decide +kernel) rfl (la_o hL (by decide) rfl) (la_r hL 51 rfl) ?_
          refine tr_aload_n (pc' := 56) (show decode cX3_lastTold 55 = .ok (.aload_n 1, 1) by decide +kernel) rfl rfl rfl ?_
          refine tr_iload (pc' := 58) (show decode cX3_lastTold 56 = .ok (.iload 4, 2) by decide +kernel) rfl rfl ?_
          refine tr_iload (pc' := 60) (show decode cX3_lastTold 58 = .ok (.iload 5, 2) by decide +kernel) rfl rfl ?_
          obtain ⟨x9, μ10, ex9, h⟩ := hm_b2s h
          have cx9 := ok_X4_run (fr := fr - 1) (ν := ν) (by omega) 107 w14_1 x4 x5 (by unfold hm_Q; decide) hw14_1 μ1 hL ex9
          refine tp_callV (pc' := 63) (As := [.ref w14_1, .int x4, .int x5]) (fr1 := fr - 1) (ci := 4) okm_X4_run lk_HandRing_Judge_90 (show decode cX3_lastTold 60 = .ok (.invokevirtual 90, 3) by decide +kernel) rfl rfl rfl (by decide) (la_o hL (by decide) rfl) rfl rfl (Nat.le_of_ble_eq_true rfl) (by omega) cx9 (st' := [.int x9]) rfl ?_
          replace hL := cx9.1
          refine tr_iconst (pc' := 64) (v := (1 : Int32)) (show decode cX3_lastTold 63 = .ok (.iconst 1, 1) by decide +kernel) rfl (by decide) ?_
          rcases hm_is h with ⟨hc, h⟩ | ⟨hc, h⟩
          · refine tr_icmp_ne_f (tgt := 98) (pc' := 67) hc (show decode cX3_lastTold 64 = .ok (.if_icmp .ne 34, 3) by decide +kernel) (by decide) rfl ?_
            refine hm_fgt [true, true, true, true, true, false, false] (lv' := [some (.ref 106), some (.ref w14_1), some (.int v2), some (.int y3), some (.int x4), none, none]) rfl ?_
            exact ok_X3_lastTold_J67 hfr _ _ w14_1 (f_X3_lastTold_L14 v1 v2 w14_1 e104 n) e104 ih he104 hv1 hw14_1 y3 x4 μ10 hL h
          · refine tr_icmp_ne_t (tgt := 98) hc (show decode cX3_lastTold 64 = .ok (.if_icmp .ne 34, 3) by decide +kernel) (by decide) ?_
            refine hm_fgt [true, true, true, true, false, false, false] (lv' := [some (.ref 106), some (.ref w14_1), some (.int v2), some (.int y3), none, none, none]) rfl ?_
            exact ok_X3_lastTold_J98 hfr _ _ w14_1 (f_X3_lastTold_L14 v1 v2 w14_1 e104 n) e104 ih he104 hv1 hw14_1 y3 μ10 hL h
      · refine tr_icmp_ne_t (tgt := 98) hc (show decode cX3_lastTold 25 = .ok (.if_icmp .ne 73, 3) by decide +kernel) (by decide) ?_
        exact ok_X3_lastTold_J98 hfr _ _ w14_1 (f_X3_lastTold_L14 v1 v2 w14_1 e104 n) e104 ih he104 hv1 hw14_1 y3 μ1 hL h
def f_X3_lastTold (v1 : Option Nat) (v2 : Int32) (μ : hm_M) : Option (Int32 × hm_M) :=
  (match v1 with
  | none => some ((2000000000 : Int32), μ)
  | some p2 => f_X3_lastTold_L14 v1 v2 p2 (fun μz11 => some ((2000000000 : Int32), μz11)) hm_fu ((μ.1 p2 4) - (1 : Int32)) μ)
set_option maxRecDepth 100000 in
theorem ok_X3_lastTold {fr : Nat} (hfr : 2 ≤ fr) {ν : hm_N} {r : Int32} {μR : hm_M}  (v1 : Option Nat) (v2 : Int32) (hv1 : ∀ p, v1 = some p → hm_pg ν p) (μ : hm_M) (hL : hm_LL ν μ) (h : f_X3_lastTold v1 v2 μ = some (r, μR)) : hm_CC (hm_LL ν) m_X3_lastTold fr 0 0 [.ref 106, va_rf v1, .int v2] μ (some (.int r)) μR := by
  refine hm_enter (lv := [some (.ref 106), some (va_rf v1), some (.int v2), none, none, none, none]) (by decide) (by cases v1 <;> rfl) (by cases v1 <;> exact Nat.le_of_ble_eq_true rfl) ?_
  unfold f_X3_lastTold at h
  refine tr_aloadq_n (pc' := 1) (show decode cX3_lastTold 0 = .ok (.aload_n 1, 1) by decide +kernel) rfl rfl rfl ?_
  cases v1 with
  | none =>
    refine tr_ifnn_f (pc' := 4) (show decode cX3_lastTold 1 = .ok (.ifnonnull 6, 3) by decide +kernel) rfl ?_
    refine tr_ldc (pc' := 6) (v := (2000000000 : Int32)) (show decode cX3_lastTold 4 = .ok (.ldc 28, 2) by decide +kernel) rfl kc_HandRing_Judge_28 ?_
    cases h
    exact tr_iret rfl (show decode cX3_lastTold 6 = .ok (.ireturn, 1) by decide +kernel) hL
  | some p2 =>
    refine tr_ifnn_t (tgt := 7) (show decode cX3_lastTold 1 = .ok (.ifnonnull 6, 3) by decide +kernel) (by decide) ?_
    refine tr_aload_n (pc' := 8) (show decode cX3_lastTold 7 = .ok (.aload_n 1, 1) by decide +kernel) rfl rfl rfl ?_
    refine tr_getI (pc' := 11) fl_HandRing_Judge_82 (show decode cX3_lastTold 8 = .ok (.getfield 82, 3) by decide +kernel) rfl (la_po hL (hv1 p2 rfl)) ?_
    refine tr_iconst (pc' := 12) (v := (1 : Int32)) (show decode cX3_lastTold 11 = .ok (.iconst 1, 1) by decide +kernel) rfl (by decide) ?_
    refine tr_isub (pc' := 13) (show decode cX3_lastTold 12 = .ok (.isub, 1) by decide +kernel) rfl ?_
    refine tr_istore_n (pc' := 14) (lv' := [some (.ref 106), some (.ref p2), some (.int v2), some (.int ((μ.1 p2 4) - (1 : Int32))), none, none, none]) (show decode cX3_lastTold 13 = .ok (.istore_n 3, 1) by decide +kernel) rfl rfl (Nat.le_of_ble_eq_true rfl) rfl rfl ?_
    refine ok_X3_lastTold_L14 hfr _ _ p2 _ ?_ hv1 (hv1 p2 rfl) _ ((μ.1 p2 4) - (1 : Int32)) μ hL h
    · intro μz11 hL h
      refine tr_ldc (pc' := 106) (v := (2000000000 : Int32)) (show decode cX3_lastTold 104 = .ok (.ldc 28, 2) by decide +kernel) rfl kc_HandRing_Judge_28 ?_
      cases h
      exact tr_iret rfl (show decode cX3_lastTold 106 = .ok (.ireturn, 1) by decide +kernel) hL
def f_X3_isBarred (v1 : Nat) (v2 : Option Nat) (v3 : Int32) (v4 : Int32) (μ : hm_M) : Option (Int32 × hm_M) :=
  Option.bind (f_X3_setTwo v1 v3 v4 μ) fun μ3 =>
  hm_b2 (f_X3_lastTold v2 (2 : Int32) μ3) fun x4 μ5 =>
  (if x4 = (2000000000 : Int32) then
  some ((0 : Int32), μ5)
  else
  some ((1 : Int32), μ5))
set_option maxRecDepth 100000 in
theorem ok_X3_isBarred {fr : Nat} (hfr : 3 ≤ fr) {ν : hm_N} {r : Int32} {μR : hm_M}  (v1 : Nat) (v2 : Option Nat) (v3 : Int32) (v4 : Int32) (hv1 : hm_V v1) (hv2 : ∀ p, v2 = some p → hm_pg ν p) (μ : hm_M) (hL : hm_LL ν μ) (h : f_X3_isBarred v1 v2 v3 v4 μ = some (r, μR)) : hm_CC (hm_LL ν) m_X3_isBarred fr 0 0 [.ref 106, .ref v1, va_rf v2, .int v3, .int v4] μ (some (.int r)) μR := by
  refine hm_enter (lv := [some (.ref 106), some (.ref v1), some (va_rf v2), some (.int v3), some (.int v4)]) (by decide) (by cases v2 <;> rfl) (by cases v2 <;> exact Nat.le_of_ble_eq_true rfl) ?_
  unfold f_X3_isBarred at h
  refine tr_aload_n (pc' := 1) (show decode cX3_isBarred 0 = .ok (.aload_n 0, 1) by decide +kernel) rfl rfl rfl ?_
  refine tr_aload_n (pc' := 2) (show decode cX3_isBarred 1 = .ok (.aload_n 1, 1) by decide +kernel) rfl rfl rfl ?_
  refine tr_iload_n (pc' := 3) (show decode cX3_isBarred 2 = .ok (.iload_n 3, 1) by decide +kernel) rfl rfl rfl ?_
  refine tr_iload (pc' := 5) (show decode cX3_isBarred 3 = .ok (.iload 4, 2) by decide +kernel) rfl rfl ?_
  obtain ⟨μ3, ex2, h⟩ := hm_bs h
  have cx2 := ok_X3_setTwo (fr := fr - 1) (ν := ν) (by omega) v1 v3 v4 hv1 μ hL ex2
  refine tp_callV (pc' := 8) (As := [.ref v1, .int v3, .int v4]) (fr1 := fr - 1) (ci := 3) okm_X3_setTwo lk_HandRing_Judge_20 (show decode cX3_isBarred 5 = .ok (.invokevirtual 20, 3) by decide +kernel) rfl rfl rfl (by decide) (la_o hL (by decide) rfl) rfl rfl (Nat.le_of_ble_eq_true rfl) (by omega) cx2 (st' := []) rfl ?_
  replace hL := cx2.1
  refine tr_aload_n (pc' := 9) (show decode cX3_isBarred 8 = .ok (.aload_n 0, 1) by decide +kernel) rfl rfl rfl ?_
  refine tr_aloadq_n (pc' := 10) (show decode cX3_isBarred 9 = .ok (.aload_n 2, 1) by decide +kernel) rfl rfl rfl ?_
  refine tr_iconst (pc' := 11) (v := (2 : Int32)) (show decode cX3_isBarred 10 = .ok (.iconst 2, 1) by decide +kernel) rfl (by decide) ?_
  obtain ⟨x4, μ5, ex4, h⟩ := hm_b2s h
  have cx4 := ok_X3_lastTold (fr := fr - 1) (ν := ν) (by omega) v2 (2 : Int32) hv2 μ3 hL ex4
  refine tp_callV (pc' := 14) (As := [va_rf v2, .int (2 : Int32)]) (fr1 := fr - 1) (ci := 3) okm_X3_lastTold lk_HandRing_Judge_24 (show decode cX3_isBarred 11 = .ok (.invokevirtual 24, 3) by decide +kernel) rfl rfl rfl (by decide) (la_o hL (by decide) rfl) rfl rfl (Nat.le_of_ble_eq_true rfl) (by omega) cx4 (st' := [.int x4]) rfl ?_
  replace hL := cx4.1
  refine tr_ldc (pc' := 16) (v := (2000000000 : Int32)) (show decode cX3_isBarred 14 = .ok (.ldc 28, 2) by decide +kernel) rfl kc_HandRing_Judge_28 ?_
  rcases hm_is h with ⟨hc, h⟩ | ⟨hc, h⟩
  · refine tr_icmp_eq_t (tgt := 23) hc (show decode cX3_isBarred 16 = .ok (.if_icmp .eq 7, 3) by decide +kernel) (by decide) ?_
    refine tr_iconst (pc' := 24) (v := (0 : Int32)) (show decode cX3_isBarred 23 = .ok (.iconst 0, 1) by decide +kernel) rfl (by decide) ?_
    cases h
    exact tr_zret rfl (by decide) (show decode cX3_isBarred 24 = .ok (.ireturn, 1) by decide +kernel) hL
  · refine tr_icmp_eq_f (tgt := 23) (pc' := 19) hc (show decode cX3_isBarred 16 = .ok (.if_icmp .eq 7, 3) by decide +kernel) (by decide) rfl ?_
    refine tr_iconst (pc' := 20) (v := (1 : Int32)) (show decode cX3_isBarred 19 = .ok (.iconst 1, 1) by decide +kernel) rfl (by decide) ?_
    refine tr_goto (tgt := 24) (show decode cX3_isBarred 20 = .ok (.goto 4, 3) by decide +kernel) rfl ?_
    cases h
    exact tr_zret rfl (by decide) (show decode cX3_isBarred 24 = .ok (.ireturn, 1) by decide +kernel) hL
def f_X3_lostBetween (v1 : Nat) (v2 : Option Nat) (v3 : Int32) (v4 : Int32) (μ : hm_M) : Option (Int32 × hm_M) :=
  Option.bind (f_X3_setTwo v1 v3 v4 μ) fun μ3 =>
  hm_b2 (f_X3_lastTold v2 (0 : Int32) μ3) fun x4 μ5 =>
  (if x4 = (2000000000 : Int32) then
  Option.bind (f_X8_farBetween v1 v3 v4 μ5) fun x6 =>
  some (x6, μ5)
  else
  some (if (0 : Int32) < (if x4 < (9 : Int32) then x4 else (9 : Int32)) then (if x4 < (9 : Int32) then x4 else (9 : Int32)) else (0 : Int32), μ5))
set_option maxRecDepth 100000 in
theorem ok_X3_lostBetween {fr : Nat} (hfr : 3 ≤ fr) {ν : hm_N} {r : Int32} {μR : hm_M}  (v1 : Nat) (v2 : Option Nat) (v3 : Int32) (v4 : Int32) (hv1 : hm_V v1) (hv2 : ∀ p, v2 = some p → hm_pg ν p) (μ : hm_M) (hL : hm_LL ν μ) (h : f_X3_lostBetween v1 v2 v3 v4 μ = some (r, μR)) : hm_CC (hm_LL ν) m_X3_lostBetween fr 0 0 [.ref 106, .ref v1, va_rf v2, .int v3, .int v4] μ (some (.int r)) μR := by
  refine hm_enter (lv := [some (.ref 106), some (.ref v1), some (va_rf v2), some (.int v3), some (.int v4), none]) (by decide) (by cases v2 <;> rfl) (by cases v2 <;> exact Nat.le_of_ble_eq_true rfl) ?_
  unfold f_X3_lostBetween at h
  refine tr_aload_n (pc' := 1) (show decode cX3_lostBetween 0 = .ok (.aload_n 0, 1) by decide +kernel) rfl rfl rfl ?_
  refine tr_aload_n (pc' := 2) (show decode cX3_lostBetween 1 = .ok (.aload_n 1, 1) by decide +kernel) rfl rfl rfl ?_
  refine tr_iload_n (pc' := 3) (show decode cX3_lostBetween 2 = .ok (.iload_n 3, 1) by decide +kernel) rfl rfl rfl ?_
  refine tr_iload (pc' := 5) (show decode cX3_lostBetween 3 = .ok (.iload 4, 2) by decide +kernel) rfl rfl ?_
  obtain ⟨μ3, ex2, h⟩ := hm_bs h
  have cx2 := ok_X3_setTwo (fr := fr - 1) (ν := ν) (by omega) v1 v3 v4 hv1 μ hL ex2
  refine tp_callV (pc' := 8) (As := [.ref v1, .int v3, .int v4]) (fr1 := fr - 1) (ci := 3) okm_X3_setTwo lk_HandRing_Judge_20 (show decode cX3_lostBetween 5 = .ok (.invokevirtual 20, 3) by decide +kernel) rfl rfl rfl (by decide) (la_o hL (by decide) rfl) rfl rfl (Nat.le_of_ble_eq_true rfl) (by omega) cx2 (st' := []) rfl ?_
  replace hL := cx2.1
  refine tr_aload_n (pc' := 9) (show decode cX3_lostBetween 8 = .ok (.aload_n 0, 1) by decide +kernel) rfl rfl rfl ?_
  refine tr_aloadq_n (pc' := 10) (show decode cX3_lostBetween 9 = .ok (.aload_n 2, 1) by decide +kernel) rfl rfl rfl ?_
  refine tr_iconst (pc' := 11) (v := (0 : Int32)) (show decode cX3_lostBetween 10 = .ok (.iconst 0, 1) by decide +kernel) rfl (by decide) ?_
  obtain ⟨x4, μ5, ex4, h⟩ := hm_b2s h
  have cx4 := ok_X3_lastTold (fr := fr - 1) (ν := ν) (by omega) v2 (0 : Int32) hv2 μ3 hL ex4
  refine tp_callV (pc' := 14) (As := [va_rf v2, .int (0 : Int32)]) (fr1 := fr - 1) (ci := 3) okm_X3_lastTold lk_HandRing_Judge_24 (show decode cX3_lostBetween 11 = .ok (.invokevirtual 24, 3) by decide +kernel) rfl rfl rfl (by decide) (la_o hL (by decide) rfl) rfl rfl (Nat.le_of_ble_eq_true rfl) (by omega) cx4 (st' := [.int x4]) rfl ?_
  replace hL := cx4.1
  refine tr_istore (pc' := 16) (lv' := [some (.ref 106), some (.ref v1), some (va_rf v2), some (.int v3), some (.int v4), some (.int x4)]) (show decode cX3_lostBetween 14 = .ok (.istore 5, 2) by decide +kernel) rfl (Nat.le_of_ble_eq_true rfl) rfl rfl ?_
  refine tr_iload (pc' := 18) (show decode cX3_lostBetween 16 = .ok (.iload 5, 2) by decide +kernel) rfl rfl ?_
  refine tr_ldc (pc' := 20) (v := (2000000000 : Int32)) (show decode cX3_lostBetween 18 = .ok (.ldc 28, 2) by decide +kernel) rfl kc_HandRing_Judge_28 ?_
  rcases hm_is h with ⟨hc, h⟩ | ⟨hc, h⟩
  · refine tr_icmp_ne_f (tgt := 33) (pc' := 23) hc (show decode cX3_lostBetween 20 = .ok (.if_icmp .ne 13, 3) by decide +kernel) (by decide) rfl ?_
    refine tr_aload_n (pc' := 24) (show decode cX3_lostBetween 23 = .ok (.aload_n 1, 1) by decide +kernel) rfl rfl rfl ?_
    refine tr_iload_n (pc' := 25) (show decode cX3_lostBetween 24 = .ok (.iload_n 3, 1) by decide +kernel) rfl rfl rfl ?_
    refine tr_iload (pc' := 27) (show decode cX3_lostBetween 25 = .ok (.iload 4, 2) by decide +kernel) rfl rfl ?_
    obtain ⟨x6, ex6, h⟩ := hm_bs h
    have cx6 := ok_X8_farBetween (fr := fr - 1) (ν := ν) (by omega) v1 v3 v4 hv1 μ5 hL ex6
    refine tp_callV (pc' := 30) (As := [.int v3, .int v4]) (fr1 := fr - 1) (ci := 8) okm_X8_farBetween lk_HandRing_Judge_29 (show decode cX3_lostBetween 27 = .ok (.invokevirtual 29, 3) by decide +kernel) rfl rfl rfl (by decide) (la_vo hL hv1) rfl rfl (Nat.le_of_ble_eq_true rfl) (by omega) cx6 (st' := [.int x6]) rfl ?_
    refine tr_goto (tgt := 44) (show decode cX3_lostBetween 30 = .ok (.goto 14, 3) by decide +kernel) rfl ?_
    cases h
    exact tr_iret rfl (show decode cX3_lostBetween 44 = .ok (.ireturn, 1) by decide +kernel) hL
  · refine tr_icmp_ne_t (tgt := 33) hc (show decode cX3_lostBetween 20 = .ok (.if_icmp .ne 13, 3) by decide +kernel) (by decide) ?_
    refine tr_iconst (pc' := 34) (v := (0 : Int32)) (show decode cX3_lostBetween 33 = .ok (.iconst 0, 1) by decide +kernel) rfl (by decide) ?_
    refine tr_bipush (pc' := 36) (v := (9 : Int32)) (show decode cX3_lostBetween 34 = .ok (.bipush 9, 2) by decide +kernel) rfl (by decide) ?_
    refine tr_iload (pc' := 38) (show decode cX3_lostBetween 36 = .ok (.iload 5, 2) by decide +kernel) rfl rfl ?_
    refine tr_min (pc' := 41) lk_HandRing_Judge_35 kw_min_s kw_Math_i kw_min_c (show decode cX3_lostBetween 38 = .ok (.invokestatic 35, 3) by decide +kernel) rfl (Nat.le_of_ble_eq_true rfl) (by omega) ?_
    refine tr_max (pc' := 44) lk_HandRing_Judge_40 kw_max_s kw_Math_i kw_max_c (show decode cX3_lostBetween 41 = .ok (.invokestatic 40, 3) by decide +kernel) rfl (Nat.le_of_ble_eq_true rfl) (by omega) ?_
    cases h
    exact tr_iret rfl (show decode cX3_lostBetween 44 = .ok (.ireturn, 1) by decide +kernel) hL
def f_X0_costBy (v1 : Nat) (v2 : Option Nat) (v3 : Int32) (v4 : Int32) (v5 : Int32) (μ : hm_M) : Option (Int32 × hm_M) :=
  Option.bind (f_X8_withinReach v1 v4 v5 μ) fun x2 =>
  (if x2 = 0 then
  some ((-1 : Int32), μ)
  else
  hm_b2 (f_X3_isBarred v1 v2 v4 v5 μ) fun x3 μ4 =>
  (if v3 = (1 : Int32) then
  (if x3 = 0 then
  some ((0 : Int32), μ4)
  else
  some ((1 : Int32), μ4))
  else
  (if x3 = 0 then
  (if v3 = 0 then
  hm_b2 (f_X3_lostBetween v1 v2 v4 v5 μ4) fun x5 μ6 =>
  some (x5, μ6)
  else
  some ((1 : Int32), μ4))
  else
  some ((-1 : Int32), μ4))))
set_option maxRecDepth 100000 in
theorem ok_X0_costBy {fr : Nat} (hfr : 4 ≤ fr) {ν : hm_N} {r : Int32} {μR : hm_M}  (v1 : Nat) (v2 : Option Nat) (v3 : Int32) (v4 : Int32) (v5 : Int32) (hv1 : hm_V v1) (hv2 : ∀ p, v2 = some p → hm_pg ν p) (μ : hm_M) (hL : hm_LL ν μ) (h : f_X0_costBy v1 v2 v3 v4 v5 μ = some (r, μR)) : hm_CC (hm_LL ν) m_X0_costBy fr 0 0 [.ref 145, .ref v1, va_rf v2, .int v3, .int v4, .int v5] μ (some (.int r)) μR := by
  refine hm_enter (lv := [some (.ref 145), some (.ref v1), some (va_rf v2), some (.int v3), some (.int v4), some (.int v5), none]) (by decide) (by cases v2 <;> rfl) (by cases v2 <;> exact Nat.le_of_ble_eq_true rfl) ?_
  unfold f_X0_costBy at h
  refine tr_aload_n (pc' := 1) (show decode cX0_costBy 0 = .ok (.aload_n 1, 1) by decide +kernel) rfl rfl rfl ?_
  refine tr_iload (pc' := 3) (show decode cX0_costBy 1 = .ok (.iload 4, 2) by decide +kernel) rfl rfl ?_
  refine tr_iload (pc' := 5) (show decode cX0_costBy 3 = .ok (.iload 5, 2) by decide +kernel) rfl rfl ?_
  obtain ⟨x2, ex2, h⟩ := hm_bs h
  have cx2 := ok_X8_withinReach (fr := fr - 1) (ν := ν) (by omega) v1 v4 v5 hv1 μ hL ex2
  refine tp_callV (pc' := 8) (As := [.int v4, .int v5]) (fr1 := fr - 1) (ci := 8) okm_X8_withinReach lk_HandRing_Circle_43 (show decode cX0_costBy 5 = .ok (.invokevirtual 43, 3) by decide +kernel) rfl rfl rfl (by decide) (la_vo hL hv1) rfl rfl (Nat.le_of_ble_eq_true rfl) (by omega) cx2 (st' := [.int x2]) rfl ?_
  rcases hm_is h with ⟨hc, h⟩ | ⟨hc, h⟩
  · refine tr_if_ne_f (tgt := 13) (pc' := 11) hc (show decode cX0_costBy 8 = .ok (.ifCond .ne 5, 3) by decide +kernel) (by decide) rfl ?_
    refine tr_iconst (pc' := 12) (v := (-1 : Int32)) (show decode cX0_costBy 11 = .ok (.iconst (-1), 1) by decide +kernel) rfl (by decide) ?_
    cases h
    exact tr_iret rfl (show decode cX0_costBy 12 = .ok (.ireturn, 1) by decide +kernel) hL
  · refine tr_if_ne_t (tgt := 13) hc (show decode cX0_costBy 8 = .ok (.ifCond .ne 5, 3) by decide +kernel) (by decide) ?_
    refine tr_aload_n (pc' := 14) (show decode cX0_costBy 13 = .ok (.aload_n 0, 1) by decide +kernel) rfl rfl rfl ?_
    refine tr_getR (pc' := 17) fl_HandRing_Circle_24 (show decode cX0_costBy 14 = .ok (.getfield 24, 3) by decide +kernel) rfl (la_o hL (by decide) rfl) (la_r hL 90 rfl) ?_
    refine tr_aload_n (pc' := 18) (show decode cX0_costBy 17 = .ok (.aload_n 1, 1) by decide +kernel) rfl rfl rfl ?_
    refine tr_aloadq_n (pc' := 19) (show decode cX0_costBy 18 = .ok (.aload_n 2, 1) by decide +kernel) rfl rfl rfl ?_
    refine tr_iload (pc' := 21) (show decode cX0_costBy 19 = .ok (.iload 4, 2) by decide +kernel) rfl rfl ?_
    refine tr_iload (pc' := 23) (show decode cX0_costBy 21 = .ok (.iload 5, 2) by decide +kernel) rfl rfl ?_
    obtain ⟨x3, μ4, ex3, h⟩ := hm_b2s h
    have cx3 := ok_X3_isBarred (fr := fr - 1) (ν := ν) (by omega) v1 v2 v4 v5 hv1 hv2 μ hL ex3
    refine tp_callV (pc' := 26) (As := [.ref v1, va_rf v2, .int v4, .int v5]) (fr1 := fr - 1) (ci := 3) okm_X3_isBarred lk_HandRing_Circle_47 (show decode cX0_costBy 23 = .ok (.invokevirtual 47, 3) by decide +kernel) rfl rfl rfl (by decide) (la_o hL (by decide) rfl) rfl rfl (Nat.le_of_ble_eq_true rfl) (by omega) cx3 (st' := [.int x3]) rfl ?_
    replace hL := cx3.1
    refine tr_istore (pc' := 28) (lv' := [some (.ref 145), some (.ref v1), some (va_rf v2), some (.int v3), some (.int v4), some (.int v5), some (.int x3)]) (show decode cX0_costBy 26 = .ok (.istore 6, 2) by decide +kernel) rfl (Nat.le_of_ble_eq_true rfl) rfl rfl ?_
    refine tr_iload_n (pc' := 29) (show decode cX0_costBy 28 = .ok (.iload_n 3, 1) by decide +kernel) rfl rfl rfl ?_
    refine tr_iconst (pc' := 30) (v := (1 : Int32)) (show decode cX0_costBy 29 = .ok (.iconst 1, 1) by decide +kernel) rfl (by decide) ?_
    rcases hm_is h with ⟨hc, h⟩ | ⟨hc, h⟩
    · refine tr_icmp_ne_f (tgt := 44) (pc' := 33) hc (show decode cX0_costBy 30 = .ok (.if_icmp .ne 14, 3) by decide +kernel) (by decide) rfl ?_
      refine tr_iload (pc' := 35) (show decode cX0_costBy 33 = .ok (.iload 6, 2) by decide +kernel) rfl rfl ?_
      rcases hm_is h with ⟨hc, h⟩ | ⟨hc, h⟩
      · refine tr_if_eq_t (tgt := 42) hc (show decode cX0_costBy 35 = .ok (.ifCond .eq 7, 3) by decide +kernel) (by decide) ?_
        refine tr_iconst (pc' := 43) (v := (0 : Int32)) (show decode cX0_costBy 42 = .ok (.iconst 0, 1) by decide +kernel) rfl (by decide) ?_
        cases h
        exact tr_iret rfl (show decode cX0_costBy 43 = .ok (.ireturn, 1) by decide +kernel) hL
      · refine tr_if_eq_f (tgt := 42) (pc' := 38) hc (show decode cX0_costBy 35 = .ok (.ifCond .eq 7, 3) by decide +kernel) (by decide) rfl ?_
        refine tr_iconst (pc' := 39) (v := (1 : Int32)) (show decode cX0_costBy 38 = .ok (.iconst 1, 1) by decide +kernel) rfl (by decide) ?_
        refine tr_goto (tgt := 43) (show decode cX0_costBy 39 = .ok (.goto 4, 3) by decide +kernel) rfl ?_
        cases h
        exact tr_iret rfl (show decode cX0_costBy 43 = .ok (.ireturn, 1) by decide +kernel) hL
    · refine tr_icmp_ne_t (tgt := 44) hc (show decode cX0_costBy 30 = .ok (.if_icmp .ne 14, 3) by decide +kernel) (by decide) ?_
      refine tr_iload (pc' := 46) (show decode cX0_costBy 44 = .ok (.iload 6, 2) by decide +kernel) rfl rfl ?_
      rcases hm_is h with ⟨hc, h⟩ | ⟨hc, h⟩
      · refine tr_if_eq_t (tgt := 51) hc (show decode cX0_costBy 46 = .ok (.ifCond .eq 5, 3) by decide +kernel) (by decide) ?_
        refine tr_iload_n (pc' := 52) (show decode cX0_costBy 51 = .ok (.iload_n 3, 1) by decide +kernel) rfl rfl rfl ?_
        rcases hm_is h with ⟨hc, h⟩ | ⟨hc, h⟩
        · refine tr_if_ne_f (tgt := 71) (pc' := 55) hc (show decode cX0_costBy 52 = .ok (.ifCond .ne 19, 3) by decide +kernel) (by decide) rfl ?_
          refine tr_aload_n (pc' := 56) (show decode cX0_costBy 55 = .ok (.aload_n 0, 1) by decide +kernel) rfl rfl rfl ?_
          refine tr_getR (pc' := 59) fl_HandRing_Circle_24 (show decode cX0_costBy 56 = .ok (.getfield 24, 3) by decide +kernel) rfl (la_o hL (by decide) rfl) (la_r hL 90 rfl) ?_
          refine tr_aload_n (pc' := 60) (show decode cX0_costBy 59 = .ok (.aload_n 1, 1) by decide +kernel) rfl rfl rfl ?_
          refine tr_aloadq_n (pc' := 61) (show decode cX0_costBy 60 = .ok (.aload_n 2, 1) by decide +kernel) rfl rfl rfl ?_
          refine tr_iload (pc' := 63) (show decode cX0_costBy 61 = .ok (.iload 4, 2) by decide +kernel) rfl rfl ?_
          refine tr_iload (pc' := 65) (show decode cX0_costBy 63 = .ok (.iload 5, 2) by decide +kernel) rfl rfl ?_
          obtain ⟨x5, μ6, ex5, h⟩ := hm_b2s h
          have cx5 := ok_X3_lostBetween (fr := fr - 1) (ν := ν) (by omega) v1 v2 v4 v5 hv1 hv2 μ4 hL ex5
          refine tp_callV (pc' := 68) (As := [.ref v1, va_rf v2, .int v4, .int v5]) (fr1 := fr - 1) (ci := 3) okm_X3_lostBetween lk_HandRing_Circle_53 (show decode cX0_costBy 65 = .ok (.invokevirtual 53, 3) by decide +kernel) rfl rfl rfl (by decide) (la_o hL (by decide) rfl) rfl rfl (Nat.le_of_ble_eq_true rfl) (by omega) cx5 (st' := [.int x5]) rfl ?_
          replace hL := cx5.1
          refine tr_goto (tgt := 72) (show decode cX0_costBy 68 = .ok (.goto 4, 3) by decide +kernel) rfl ?_
          cases h
          exact tr_iret rfl (show decode cX0_costBy 72 = .ok (.ireturn, 1) by decide +kernel) hL
        · refine tr_if_ne_t (tgt := 71) hc (show decode cX0_costBy 52 = .ok (.ifCond .ne 19, 3) by decide +kernel) (by decide) ?_
          refine tr_iconst (pc' := 72) (v := (1 : Int32)) (show decode cX0_costBy 71 = .ok (.iconst 1, 1) by decide +kernel) rfl (by decide) ?_
          cases h
          exact tr_iret rfl (show decode cX0_costBy 72 = .ok (.ireturn, 1) by decide +kernel) hL
      · refine tr_if_eq_f (tgt := 51) (pc' := 49) hc (show decode cX0_costBy 46 = .ok (.ifCond .eq 5, 3) by decide +kernel) (by decide) rfl ?_
        refine tr_iconst (pc' := 50) (v := (-1 : Int32)) (show decode cX0_costBy 49 = .ok (.iconst (-1), 1) by decide +kernel) rfl (by decide) ?_
        cases h
        exact tr_iret rfl (show decode cX0_costBy 50 = .ok (.ireturn, 1) by decide +kernel) hL
def f_X0_setCost (v1 : Int32) (v2 : Int32) (v3 : Int32) (μ : hm_M) : Option hm_M :=
  Option.bind (hm_sd μ 146 64 ((v1 * (8 : Int32)) + v2) v3) fun μ2 =>
  Option.bind (hm_sd μ2 146 64 ((v2 * (8 : Int32)) + v1) v3) fun μ3 =>
  some μ3
set_option maxRecDepth 100000 in
theorem ok_X0_setCost {fr : Nat} (hfr : 0 ≤ fr) {ν : hm_N} {μR : hm_M}  (v1 : Int32) (v2 : Int32) (v3 : Int32)  (μ : hm_M) (hL : hm_LL ν μ) (h : f_X0_setCost v1 v2 v3 μ = some μR) : hm_CC (hm_LL ν) m_X0_setCost fr 0 0 [.ref 145, .int v1, .int v2, .int v3] μ none μR := by
  refine hm_enter (lv := [some (.ref 145), some (.int v1), some (.int v2), some (.int v3)]) (by decide) rfl (Nat.le_of_ble_eq_true rfl) ?_
  unfold f_X0_setCost at h
  refine tr_aload_n (pc' := 1) (show decode cX0_setCost 0 = .ok (.aload_n 0, 1) by decide +kernel) rfl rfl rfl ?_
  refine tr_getR (pc' := 4) fl_HandRing_Circle_9 (show decode cX0_setCost 1 = .ok (.getfield 9, 3) by decide +kernel) rfl (la_o hL (by decide) rfl) (la_r hL 91 rfl) ?_
  refine tr_iload_n (pc' := 5) (show decode cX0_setCost 4 = .ok (.iload_n 1, 1) by decide +kernel) rfl rfl rfl ?_
  refine tr_bipush (pc' := 7) (v := (8 : Int32)) (show decode cX0_setCost 5 = .ok (.bipush 8, 2) by decide +kernel) rfl (by decide) ?_
  refine tr_imul (pc' := 8) (show decode cX0_setCost 7 = .ok (.imul, 1) by decide +kernel) rfl ?_
  refine tr_iload_n (pc' := 9) (show decode cX0_setCost 8 = .ok (.iload_n 2, 1) by decide +kernel) rfl rfl rfl ?_
  refine tr_iadd (pc' := 10) (show decode cX0_setCost 9 = .ok (.iadd, 1) by decide +kernel) rfl ?_
  refine tr_iload_n (pc' := 11) (show decode cX0_setCost 10 = .ok (.iload_n 3, 1) by decide +kernel) rfl rfl rfl ?_
  obtain ⟨μ2, eμ2, h⟩ := hm_bs h
  refine tp_sdI (pc' := 12) (show decode cX0_setCost 11 = .ok (.iastore, 1) by decide +kernel) rfl (la_a hL (by decide) rfl) eμ2 ?_
  replace hL := hL.same (hm_sd_s eμ2)
  refine tr_aload_n (pc' := 13) (show decode cX0_setCost 12 = .ok (.aload_n 0, 1) by decide +kernel) rfl rfl rfl ?_
  refine tr_getR (pc' := 16) fl_HandRing_Circle_9 (show decode cX0_setCost 13 = .ok (.getfield 9, 3) by decide +kernel) rfl (la_o hL (by decide) rfl) (la_r hL 91 rfl) ?_
  refine tr_iload_n (pc' := 17) (show decode cX0_setCost 16 = .ok (.iload_n 2, 1) by decide +kernel) rfl rfl rfl ?_
  refine tr_bipush (pc' := 19) (v := (8 : Int32)) (show decode cX0_setCost 17 = .ok (.bipush 8, 2) by decide +kernel) rfl (by decide) ?_
  refine tr_imul (pc' := 20) (show decode cX0_setCost 19 = .ok (.imul, 1) by decide +kernel) rfl ?_
  refine tr_iload_n (pc' := 21) (show decode cX0_setCost 20 = .ok (.iload_n 1, 1) by decide +kernel) rfl rfl rfl ?_
  refine tr_iadd (pc' := 22) (show decode cX0_setCost 21 = .ok (.iadd, 1) by decide +kernel) rfl ?_
  refine tr_iload_n (pc' := 23) (show decode cX0_setCost 22 = .ok (.iload_n 3, 1) by decide +kernel) rfl rfl rfl ?_
  obtain ⟨μ3, eμ3, h⟩ := hm_bs h
  refine tp_sdI (pc' := 24) (show decode cX0_setCost 23 = .ok (.iastore, 1) by decide +kernel) rfl (la_a hL (by decide) rfl) eμ3 ?_
  replace hL := hL.same (hm_sd_s eμ3)
  cases h
  exact tr_vret rfl (show decode cX0_setCost 24 = .ok (.return_, 1) by decide +kernel) hL
def f_X0_draw_L26 (v1 : Nat) (v2 : Option Nat) (v3 : Int32) (w26_4 : Int32) (c11 : Int32 → hm_M → Option hm_M) (e66 : hm_M → Option hm_M) (e60 : hm_M → Option hm_M) : Nat → Int32 → hm_M → Option hm_M
  | 0, _, _ => none
  | n + 1, y5, μ1 => (if (μ1.1 145 5) ≤ y5 then
  e60 μ1
  else
  hm_b2 (f_X0_costBy v1 v2 v3 w26_4 y5 μ1) fun x3 μ4 =>
  Option.bind (f_X0_setCost w26_4 y5 x3 μ4) fun μ6 =>
  (f_X0_draw_L26 v1 v2 v3 w26_4 c11 e66 e60 n) (y5 + (1 : Int32)) μ6)
theorem ok_X0_draw_L26 {fr : Nat} (hfr : 5 ≤ fr) {ν : hm_N} {μR : hm_M}  (v1 : Nat) (v2 : Option Nat) (v3 : Int32) (w26_4 : Int32) (c11 : Int32 → hm_M → Option hm_M) (e66 : hm_M → Option hm_M) (e60 : hm_M → Option hm_M) (hc11 : ∀ (y4 : Int32)  (μ1 : hm_M), hm_LL ν μ1 → c11 y4 μ1 = some μR → hm_T (hm_LL ν) m_X0_draw fr 0 0 none μR 11 [some (.ref 145), some (.ref v1), some (va_rf v2), some (.int v3), some (.int y4), none] [] μ1) (he66 : ∀   (μ1 : hm_M), hm_LL ν μ1 → e66 μ1 = some μR → hm_T (hm_LL ν) m_X0_draw fr 0 0 none μR 66 [none, none, none, none, none, none] [] μ1) (he60 : ∀   (μ1 : hm_M), hm_LL ν μ1 → e60 μ1 = some μR → hm_T (hm_LL ν) m_X0_draw fr 0 0 none μR 60 [some (.ref 145), some (.ref v1), some (va_rf v2), some (.int v3), some (.int w26_4), none] [] μ1) (hv1 : hm_V v1) (hv2 : ∀ p, v2 = some p → hm_pg ν p) : ∀ (n : Nat) (y5 : Int32)  (μ1 : hm_M), hm_LL ν μ1 → f_X0_draw_L26 v1 v2 v3 w26_4 c11 e66 e60 n y5 μ1 = some μR → hm_T (hm_LL ν) m_X0_draw fr 0 0 none μR 26 [some (.ref 145), some (.ref v1), some (va_rf v2), some (.int v3), some (.int w26_4), some (.int y5)] [] μ1 := by
  intro n
  induction n with
  | zero =>
    intro y5 μ1 hL h
    unfold f_X0_draw_L26 at h
    cases h
  | succ n ih =>
    intro y5 μ1 hL h
    unfold f_X0_draw_L26 at h
    refine tr_iload (pc' := 28) (show decode cX0_draw 26 = .ok (.iload 5, 2) by decide +kernel) rfl rfl ?_
    refine tr_aload_n (pc' := 29) (show decode cX0_draw 28 = .ok (.aload_n 0, 1) by decide +kernel) rfl rfl rfl ?_
    refine tr_getI (pc' := 32) fl_HandRing_Circle_28 (show decode cX0_draw 29 = .ok (.getfield 28, 3) by decide +kernel) rfl (la_o hL (by decide) rfl) ?_
    rcases hm_is h with ⟨hc, h⟩ | ⟨hc, h⟩
    · refine tr_icmp_ge_t (tgt := 60) hc (show decode cX0_draw 32 = .ok (.if_icmp .ge 28, 3) by decide +kernel) (by decide) ?_
      refine hm_fgt [true, true, true, true, true, false] (lv' := [some (.ref 145), some (.ref v1), some (va_rf v2), some (.int v3), some (.int w26_4), none]) rfl ?_
      exact he60 μ1 hL h
    · refine tr_icmp_ge_f (tgt := 60) (pc' := 35) hc (show decode cX0_draw 32 = .ok (.if_icmp .ge 28, 3) by decide +kernel) (by decide) rfl ?_
      refine tr_aload_n (pc' := 36) (show decode cX0_draw 35 = .ok (.aload_n 0, 1) by decide +kernel) rfl rfl rfl ?_
      refine tr_iload (pc' := 38) (show decode cX0_draw 36 = .ok (.iload 4, 2) by decide +kernel) rfl rfl ?_
      refine tr_iload (pc' := 40) (show decode cX0_draw 38 = .ok (.iload 5, 2) by decide +kernel) rfl rfl ?_
      refine tr_aload_n (pc' := 41) (show decode cX0_draw 40 = .ok (.aload_n 0, 1) by decide +kernel) rfl rfl rfl ?_
      refine tr_aload_n (pc' := 42) (show decode cX0_draw 41 = .ok (.aload_n 1, 1) by decide +kernel) rfl rfl rfl ?_
      refine tr_aloadq_n (pc' := 43) (show decode cX0_draw 42 = .ok (.aload_n 2, 1) by decide +kernel) rfl rfl rfl ?_
      refine tr_iload_n (pc' := 44) (show decode cX0_draw 43 = .ok (.iload_n 3, 1) by decide +kernel) rfl rfl rfl ?_
      refine tr_iload (pc' := 46) (show decode cX0_draw 44 = .ok (.iload 4, 2) by decide +kernel) rfl rfl ?_
      refine tr_iload (pc' := 48) (show decode cX0_draw 46 = .ok (.iload 5, 2) by decide +kernel) rfl rfl ?_
      obtain ⟨x3, μ4, ex3, h⟩ := hm_b2s h
      have cx3 := ok_X0_costBy (fr := fr - 1) (ν := ν) (by omega) v1 v2 v3 w26_4 y5 hv1 hv2 μ1 hL ex3
      refine tp_callV (pc' := 51) (As := [.ref v1, va_rf v2, .int v3, .int w26_4, .int y5]) (fr1 := fr - 1) (ci := 0) okm_X0_costBy lk_HandRing_Circle_35 (show decode cX0_draw 48 = .ok (.invokevirtual 35, 3) by decide +kernel) rfl rfl rfl (by decide) (la_o hL (by decide) rfl) rfl rfl (Nat.le_of_ble_eq_true rfl) (by omega) cx3 (st' := [.int x3, .int y5, .int w26_4, .ref 145]) rfl ?_
      replace hL := cx3.1
      obtain ⟨μ6, ex5, h⟩ := hm_bs h
      have cx5 := ok_X0_setCost (fr := fr - 1) (ν := ν) (by omega) w26_4 y5 x3 μ4 hL ex5
      refine tp_callV (pc' := 54) (As := [.int w26_4, .int y5, .int x3]) (fr1 := fr - 1) (ci := 0) okm_X0_setCost lk_HandRing_Circle_39 (show decode cX0_draw 51 = .ok (.invokevirtual 39, 3) by decide +kernel) rfl rfl rfl (by decide) (la_o hL (by decide) rfl) rfl rfl (Nat.le_of_ble_eq_true rfl) (by omega) cx5 (st' := []) rfl ?_
      replace hL := cx5.1
      refine tr_iinc (pc' := 57) (v := y5 + (1 : Int32)) (lv' := [some (.ref 145), some (.ref v1), some (va_rf v2), some (.int v3), some (.int w26_4), some (.int (y5 + (1 : Int32)))]) (show decode cX0_draw 54 = .ok (.iinc 5 1, 3) by decide +kernel) rfl rfl rfl (Nat.le_of_ble_eq_true rfl) rfl rfl ?_
      refine tr_goto (tgt := 26) (show decode cX0_draw 57 = .ok (.goto (-31), 3) by decide +kernel) rfl ?_
      exact ih (y5 + (1 : Int32)) μ6 hL h
def f_X0_draw_L11 (v1 : Nat) (v2 : Option Nat) (v3 : Int32) (e66 : hm_M → Option hm_M) : Nat → Int32 → hm_M → Option hm_M
  | 0, _, _ => none
  | n + 1, y4, μ1 => (if (μ1.1 145 5) ≤ y4 then
  e66 μ1
  else
  f_X0_draw_L26 v1 v2 v3 y4 (f_X0_draw_L11 v1 v2 v3 e66 n) e66 (fun μz7 => (f_X0_draw_L11 v1 v2 v3 e66 n) (y4 + (1 : Int32)) μz7) hm_fu (y4 + (1 : Int32)) μ1)
theorem ok_X0_draw_L11 {fr : Nat} (hfr : 5 ≤ fr) {ν : hm_N} {μR : hm_M}  (v1 : Nat) (v2 : Option Nat) (v3 : Int32) (e66 : hm_M → Option hm_M)  (he66 : ∀   (μ1 : hm_M), hm_LL ν μ1 → e66 μ1 = some μR → hm_T (hm_LL ν) m_X0_draw fr 0 0 none μR 66 [none, none, none, none, none, none] [] μ1) (hv1 : hm_V v1) (hv2 : ∀ p, v2 = some p → hm_pg ν p) : ∀ (n : Nat) (y4 : Int32)  (μ1 : hm_M), hm_LL ν μ1 → f_X0_draw_L11 v1 v2 v3 e66 n y4 μ1 = some μR → hm_T (hm_LL ν) m_X0_draw fr 0 0 none μR 11 [some (.ref 145), some (.ref v1), some (va_rf v2), some (.int v3), some (.int y4), none] [] μ1 := by
  intro n
  induction n with
  | zero =>
    intro y4 μ1 hL h
    unfold f_X0_draw_L11 at h
    cases h
  | succ n ih =>
    intro y4 μ1 hL h
    unfold f_X0_draw_L11 at h
    refine tr_iload (pc' := 13) (show decode cX0_draw 11 = .ok (.iload 4, 2) by decide +kernel) rfl rfl ?_
    refine tr_aload_n (pc' := 14) (show decode cX0_draw 13 = .ok (.aload_n 0, 1) by decide +kernel) rfl rfl rfl ?_
    refine tr_getI (pc' := 17) fl_HandRing_Circle_28 (show decode cX0_draw 14 = .ok (.getfield 28, 3) by decide +kernel) rfl (la_o hL (by decide) rfl) ?_
    rcases hm_is h with ⟨hc, h⟩ | ⟨hc, h⟩
    · refine tr_icmp_ge_t (tgt := 66) hc (show decode cX0_draw 17 = .ok (.if_icmp .ge 49, 3) by decide +kernel) (by decide) ?_
      refine hm_fgt [false, false, false, false, false, false] (lv' := [none, none, none, none, none, none]) rfl ?_
      exact he66 μ1 hL h
    · refine tr_icmp_ge_f (tgt := 66) (pc' := 20) hc (show decode cX0_draw 17 = .ok (.if_icmp .ge 49, 3) by decide +kernel) (by decide) rfl ?_
      refine tr_iload (pc' := 22) (show decode cX0_draw 20 = .ok (.iload 4, 2) by decide +kernel) rfl rfl ?_
      refine tr_iconst (pc' := 23) (v := (1 : Int32)) (show decode cX0_draw 22 = .ok (.iconst 1, 1) by decide +kernel) rfl (by decide) ?_
      refine tr_iadd (pc' := 24) (show decode cX0_draw 23 = .ok (.iadd, 1) by decide +kernel) rfl ?_
      refine tr_istore (pc' := 26) (lv' := [some (.ref 145), some (.ref v1), some (va_rf v2), some (.int v3), some (.int y4), some (.int (y4 + (1 : Int32)))]) (show decode cX0_draw 24 = .ok (.istore 5, 2) by decide +kernel) rfl (Nat.le_of_ble_eq_true rfl) rfl rfl ?_
      refine ok_X0_draw_L26 hfr _ _ _ y4 (f_X0_draw_L11 v1 v2 v3 e66 n) e66 _ ih he66 ?_ hv1 hv2 _ (y4 + (1 : Int32)) μ1 hL h
      · intro μz7 hL h
        refine tr_iinc (pc' := 63) (v := y4 + (1 : Int32)) (lv' := [some (.ref 145), some (.ref v1), some (va_rf v2), some (.int v3), some (.int (y4 + (1 : Int32))), none]) (show decode cX0_draw 60 = .ok (.iinc 4 1, 3) by decide +kernel) rfl rfl rfl (Nat.le_of_ble_eq_true rfl) rfl rfl ?_
        refine tr_goto (tgt := 11) (show decode cX0_draw 63 = .ok (.goto (-52), 3) by decide +kernel) rfl ?_
        exact ih (y4 + (1 : Int32)) μz7 hL h
def f_X0_draw (v1 : Nat) (v2 : Option Nat) (v3 : Int32) (μ : hm_M) : Option hm_M :=
  Option.bind (hm_pI μ 145 5 (μ.1 v1 0)) fun μ2 =>
  f_X0_draw_L11 v1 v2 v3 (fun μz8 => some μz8) hm_fu (0 : Int32) μ2
set_option maxRecDepth 100000 in
theorem ok_X0_draw {fr : Nat} (hfr : 5 ≤ fr) {ν : hm_N} {μR : hm_M}  (v1 : Nat) (v2 : Option Nat) (v3 : Int32) (hv1 : hm_V v1) (hv2 : ∀ p, v2 = some p → hm_pg ν p) (μ : hm_M) (hL : hm_LL ν μ) (h : f_X0_draw v1 v2 v3 μ = some μR) : hm_CC (hm_LL ν) m_X0_draw fr 0 0 [.ref 145, .ref v1, va_rf v2, .int v3] μ none μR := by
  refine hm_enter (lv := [some (.ref 145), some (.ref v1), some (va_rf v2), some (.int v3), none, none]) (by decide) (by cases v2 <;> rfl) (by cases v2 <;> exact Nat.le_of_ble_eq_true rfl) ?_
  unfold f_X0_draw at h
  refine tr_aload_n (pc' := 1) (show decode cX0_draw 0 = .ok (.aload_n 0, 1) by decide +kernel) rfl rfl rfl ?_
  refine tr_aload_n (pc' := 2) (show decode cX0_draw 1 = .ok (.aload_n 1, 1) by decide +kernel) rfl rfl rfl ?_
  refine tr_getI (pc' := 5) fl_HandRing_Circle_32 (show decode cX0_draw 2 = .ok (.getfield 32, 3) by decide +kernel) rfl (la_vo hL hv1) ?_
  obtain ⟨μ2, eμ2, h⟩ := hm_bs h
  refine tp_pI (pc' := 8) fl_HandRing_Circle_28 (show decode cX0_draw 5 = .ok (.putfield 28, 3) by decide +kernel) rfl (la_o hL (by decide) rfl) eμ2 ?_
  replace hL := hL.same (hm_pI_s eμ2)
  refine tr_iconst (pc' := 9) (v := (0 : Int32)) (show decode cX0_draw 8 = .ok (.iconst 0, 1) by decide +kernel) rfl (by decide) ?_
  refine tr_istore (pc' := 11) (lv' := [some (.ref 145), some (.ref v1), some (va_rf v2), some (.int v3), some (.int (0 : Int32)), none]) (show decode cX0_draw 9 = .ok (.istore 4, 2) by decide +kernel) rfl (Nat.le_of_ble_eq_true rfl) rfl rfl ?_
  refine ok_X0_draw_L11 hfr _ _ _ _ ?_ hv1 hv2 _ (0 : Int32) μ2 hL h
  · intro μz8 hL h
    cases h
    exact tr_vret rfl (show decode cX0_draw 66 = .ok (.return_, 1) by decide +kernel) hL
def f_X0_costBetween (v1 : Int32) (v2 : Int32) (μ : hm_M) : Option Int32 :=
  Option.bind (hm_ld μ 146 64 ((v1 * (8 : Int32)) + v2)) fun x2 =>
  some x2
set_option maxRecDepth 100000 in
theorem ok_X0_costBetween {fr : Nat} (hfr : 0 ≤ fr) {ν : hm_N} {r : Int32}  (v1 : Int32) (v2 : Int32)  (μ : hm_M) (hL : hm_LL ν μ) (h : f_X0_costBetween v1 v2 μ = some r) : hm_CC (hm_LL ν) m_X0_costBetween fr 0 0 [.ref 145, .int v1, .int v2] μ (some (.int r)) μ := by
  refine hm_enter (lv := [some (.ref 145), some (.int v1), some (.int v2)]) (by decide) rfl (Nat.le_of_ble_eq_true rfl) ?_
  unfold f_X0_costBetween at h
  refine tr_aload_n (pc' := 1) (show decode cX0_costBetween 0 = .ok (.aload_n 0, 1) by decide +kernel) rfl rfl rfl ?_
  refine tr_getR (pc' := 4) fl_HandRing_Circle_9 (show decode cX0_costBetween 1 = .ok (.getfield 9, 3) by decide +kernel) rfl (la_o hL (by decide) rfl) (la_r hL 91 rfl) ?_
  refine tr_iload_n (pc' := 5) (show decode cX0_costBetween 4 = .ok (.iload_n 1, 1) by decide +kernel) rfl rfl rfl ?_
  refine tr_bipush (pc' := 7) (v := (8 : Int32)) (show decode cX0_costBetween 5 = .ok (.bipush 8, 2) by decide +kernel) rfl (by decide) ?_
  refine tr_imul (pc' := 8) (show decode cX0_costBetween 7 = .ok (.imul, 1) by decide +kernel) rfl ?_
  refine tr_iload_n (pc' := 9) (show decode cX0_costBetween 8 = .ok (.iload_n 2, 1) by decide +kernel) rfl rfl rfl ?_
  refine tr_iadd (pc' := 10) (show decode cX0_costBetween 9 = .ok (.iadd, 1) by decide +kernel) rfl ?_
  obtain ⟨x2, ex2, h⟩ := hm_bs h
  refine tp_ldI (pc' := 11) (show decode cX0_costBetween 10 = .ok (.iaload, 1) by decide +kernel) rfl (la_a hL (by decide) rfl) ex2 ?_
  cases h
  exact tr_iret rfl (show decode cX0_costBetween 11 = .ok (.ireturn, 1) by decide +kernel) hL
def f_J13_bitCount_95d88 (v0 : Int64) : Option Int32 :=
  Option.bind (some (v0 - (((v0.toUInt64 >>> ((1 : Int32).toInt64.toUInt64 &&& Int64.toUInt64 63)).toInt64) &&& (6148914691236517205 : Int64)))) fun x2 =>
  Option.bind (some ((x2 &&& (3689348814741910323 : Int64)) + (((x2.toUInt64 >>> ((2 : Int32).toInt64.toUInt64 &&& Int64.toUInt64 63)).toInt64) &&& (3689348814741910323 : Int64)))) fun x3 =>
  Option.bind (some ((x3 + ((x3.toUInt64 >>> ((4 : Int32).toInt64.toUInt64 &&& Int64.toUInt64 63)).toInt64)) &&& (1085102592571150095 : Int64))) fun x4 =>
  Option.bind (some (x4 + ((x4.toUInt64 >>> ((8 : Int32).toInt64.toUInt64 &&& Int64.toUInt64 63)).toInt64))) fun x5 =>
  Option.bind (some (x5 + ((x5.toUInt64 >>> ((16 : Int32).toInt64.toUInt64 &&& Int64.toUInt64 63)).toInt64))) fun x6 =>
  Option.bind (some (x6 + ((x6.toUInt64 >>> ((32 : Int32).toInt64.toUInt64 &&& Int64.toUInt64 63)).toInt64))) fun x7 =>
  some (x7.toInt32 &&& (127 : Int32))
set_option maxRecDepth 100000 in
theorem ok_J13_bitCount_95d88 {fr : Nat} (hfr : 0 ≤ fr) {ν : hm_N} {r : Int32}  (v0 : Int64)  (μ : hm_M) (hL : hm_LL ν μ) (h : f_J13_bitCount_95d88 v0 = some r) : hm_CC (hm_LL ν) m_J13_bitCount_95d88 fr 0 0 [.long v0] μ (some (.int r)) μ := by
  refine hm_enter (lv := [some (.long v0), none]) (by decide) rfl (Nat.le_of_ble_eq_true rfl) ?_
  unfold f_J13_bitCount_95d88 at h
  refine tr_lload_n (pc' := 1) (show decode cJ13_bitCount_95d88 0 = .ok (.lload_n 0, 1) by decide +kernel) rfl rfl rfl ?_
  refine tr_lload_n (pc' := 2) (show decode cJ13_bitCount_95d88 1 = .ok (.lload_n 0, 1) by decide +kernel) rfl rfl rfl ?_
  refine tr_iconst (pc' := 3) (v := (1 : Int32)) (show decode cJ13_bitCount_95d88 2 = .ok (.iconst 1, 1) by decide +kernel) rfl (by decide) ?_
  refine tr_lushr (pc' := 4) (show decode cJ13_bitCount_95d88 3 = .ok (.lushr, 1) by decide +kernel) rfl ?_
  refine tr_ldc2 (pc' := 7) (v := (6148914691236517205 : Int64)) (show decode cJ13_bitCount_95d88 4 = .ok (.ldc2_w 314, 3) by decide +kernel) rfl kd_java_lang_Long_314 ?_
  refine tr_land (pc' := 8) (show decode cJ13_bitCount_95d88 7 = .ok (.land, 1) by decide +kernel) rfl ?_
  refine tr_lsub (pc' := 9) (show decode cJ13_bitCount_95d88 8 = .ok (.lsub, 1) by decide +kernel) rfl ?_
  obtain ⟨x2, ex2, h⟩ := hm_bs h
  have ex2 := Option.some.inj ex2
  rw [ex2]
  refine tr_lstore_n (pc' := 10) (lv' := [some (.long x2), none]) (show decode cJ13_bitCount_95d88 9 = .ok (.lstore_n 0, 1) by decide +kernel) rfl rfl (Nat.le_of_ble_eq_true rfl) rfl rfl ?_
  refine tr_lload_n (pc' := 11) (show decode cJ13_bitCount_95d88 10 = .ok (.lload_n 0, 1) by decide +kernel) rfl rfl rfl ?_
  refine tr_ldc2 (pc' := 14) (v := (3689348814741910323 : Int64)) (show decode cJ13_bitCount_95d88 11 = .ok (.ldc2_w 316, 3) by decide +kernel) rfl kd_java_lang_Long_316 ?_
  refine tr_land (pc' := 15) (show decode cJ13_bitCount_95d88 14 = .ok (.land, 1) by decide +kernel) rfl ?_
  refine tr_lload_n (pc' := 16) (show decode cJ13_bitCount_95d88 15 = .ok (.lload_n 0, 1) by decide +kernel) rfl rfl rfl ?_
  refine tr_iconst (pc' := 17) (v := (2 : Int32)) (show decode cJ13_bitCount_95d88 16 = .ok (.iconst 2, 1) by decide +kernel) rfl (by decide) ?_
  refine tr_lushr (pc' := 18) (show decode cJ13_bitCount_95d88 17 = .ok (.lushr, 1) by decide +kernel) rfl ?_
  refine tr_ldc2 (pc' := 21) (v := (3689348814741910323 : Int64)) (show decode cJ13_bitCount_95d88 18 = .ok (.ldc2_w 316, 3) by decide +kernel) rfl kd_java_lang_Long_316 ?_
  refine tr_land (pc' := 22) (show decode cJ13_bitCount_95d88 21 = .ok (.land, 1) by decide +kernel) rfl ?_
  refine tr_ladd (pc' := 23) (show decode cJ13_bitCount_95d88 22 = .ok (.ladd, 1) by decide +kernel) rfl ?_
  obtain ⟨x3, ex3, h⟩ := hm_bs h
  have ex3 := Option.some.inj ex3
  rw [ex3]
  refine tr_lstore_n (pc' := 24) (lv' := [some (.long x3), none]) (show decode cJ13_bitCount_95d88 23 = .ok (.lstore_n 0, 1) by decide +kernel) rfl rfl (Nat.le_of_ble_eq_true rfl) rfl rfl ?_
  refine tr_lload_n (pc' := 25) (show decode cJ13_bitCount_95d88 24 = .ok (.lload_n 0, 1) by decide +kernel) rfl rfl rfl ?_
  refine tr_lload_n (pc' := 26) (show decode cJ13_bitCount_95d88 25 = .ok (.lload_n 0, 1) by decide +kernel) rfl rfl rfl ?_
  refine tr_iconst (pc' := 27) (v := (4 : Int32)) (show decode cJ13_bitCount_95d88 26 = .ok (.iconst 4, 1) by decide +kernel) rfl (by decide) ?_
  refine tr_lushr (pc' := 28) (show decode cJ13_bitCount_95d88 27 = .ok (.lushr, 1) by decide +kernel) rfl ?_
  refine tr_ladd (pc' := 29) (show decode cJ13_bitCount_95d88 28 = .ok (.ladd, 1) by decide +kernel) rfl ?_
  refine tr_ldc2 (pc' := 32) (v := (1085102592571150095 : Int64)) (show decode cJ13_bitCount_95d88 29 = .ok (.ldc2_w 318, 3) by decide +kernel) rfl kd_java_lang_Long_318 ?_
  refine tr_land (pc' := 33) (show decode cJ13_bitCount_95d88 32 = .ok (.land, 1) by decide +kernel) rfl ?_
  obtain ⟨x4, ex4, h⟩ := hm_bs h
  have ex4 := Option.some.inj ex4
  rw [ex4]
  refine tr_lstore_n (pc' := 34) (lv' := [some (.long x4), none]) (show decode cJ13_bitCount_95d88 33 = .ok (.lstore_n 0, 1) by decide +kernel) rfl rfl (Nat.le_of_ble_eq_true rfl) rfl rfl ?_
  refine tr_lload_n (pc' := 35) (show decode cJ13_bitCount_95d88 34 = .ok (.lload_n 0, 1) by decide +kernel) rfl rfl rfl ?_
  refine tr_lload_n (pc' := 36) (show decode cJ13_bitCount_95d88 35 = .ok (.lload_n 0, 1) by decide +kernel) rfl rfl rfl ?_
  refine tr_bipush (pc' := 38) (v := (8 : Int32)) (show decode cJ13_bitCount_95d88 36 = .ok (.bipush 8, 2) by decide +kernel) rfl (by decide) ?_
  refine tr_lushr (pc' := 39) (show decode cJ13_bitCount_95d88 38 = .ok (.lushr, 1) by decide +kernel) rfl ?_
  refine tr_ladd (pc' := 40) (show decode cJ13_bitCount_95d88 39 = .ok (.ladd, 1) by decide +kernel) rfl ?_
  obtain ⟨x5, ex5, h⟩ := hm_bs h
  have ex5 := Option.some.inj ex5
  rw [ex5]
  refine tr_lstore_n (pc' := 41) (lv' := [some (.long x5), none]) (show decode cJ13_bitCount_95d88 40 = .ok (.lstore_n 0, 1) by decide +kernel) rfl rfl (Nat.le_of_ble_eq_true rfl) rfl rfl ?_
  refine tr_lload_n (pc' := 42) (show decode cJ13_bitCount_95d88 41 = .ok (.lload_n 0, 1) by decide +kernel) rfl rfl rfl ?_
  refine tr_lload_n (pc' := 43) (show decode cJ13_bitCount_95d88 42 = .ok (.lload_n 0, 1) by decide +kernel) rfl rfl rfl ?_
  refine tr_bipush (pc' := 45) (v := (16 : Int32)) (show decode cJ13_bitCount_95d88 43 = .ok (.bipush 16, 2) by decide +kernel) rfl (by decide) ?_
  refine tr_lushr (pc' := 46) (show decode cJ13_bitCount_95d88 45 = .ok (.lushr, 1) by decide +kernel) rfl ?_
  refine tr_ladd (pc' := 47) (show decode cJ13_bitCount_95d88 46 = .ok (.ladd, 1) by decide +kernel) rfl ?_
  obtain ⟨x6, ex6, h⟩ := hm_bs h
  have ex6 := Option.some.inj ex6
  rw [ex6]
  refine tr_lstore_n (pc' := 48) (lv' := [some (.long x6), none]) (show decode cJ13_bitCount_95d88 47 = .ok (.lstore_n 0, 1) by decide +kernel) rfl rfl (Nat.le_of_ble_eq_true rfl) rfl rfl ?_
  refine tr_lload_n (pc' := 49) (show decode cJ13_bitCount_95d88 48 = .ok (.lload_n 0, 1) by decide +kernel) rfl rfl rfl ?_
  refine tr_lload_n (pc' := 50) (show decode cJ13_bitCount_95d88 49 = .ok (.lload_n 0, 1) by decide +kernel) rfl rfl rfl ?_
  refine tr_bipush (pc' := 52) (v := (32 : Int32)) (show decode cJ13_bitCount_95d88 50 = .ok (.bipush 32, 2) by decide +kernel) rfl (by decide) ?_
  refine tr_lushr (pc' := 53) (show decode cJ13_bitCount_95d88 52 = .ok (.lushr, 1) by decide +kernel) rfl ?_
  refine tr_ladd (pc' := 54) (show decode cJ13_bitCount_95d88 53 = .ok (.ladd, 1) by decide +kernel) rfl ?_
  obtain ⟨x7, ex7, h⟩ := hm_bs h
  have ex7 := Option.some.inj ex7
  rw [ex7]
  refine tr_lstore_n (pc' := 55) (lv' := [some (.long x7), none]) (show decode cJ13_bitCount_95d88 54 = .ok (.lstore_n 0, 1) by decide +kernel) rfl rfl (Nat.le_of_ble_eq_true rfl) rfl rfl ?_
  refine tr_lload_n (pc' := 56) (show decode cJ13_bitCount_95d88 55 = .ok (.lload_n 0, 1) by decide +kernel) rfl rfl rfl ?_
  refine tr_l2i (pc' := 57) (show decode cJ13_bitCount_95d88 56 = .ok (.l2i, 1) by decide +kernel) rfl ?_
  refine tr_bipush (pc' := 59) (v := (127 : Int32)) (show decode cJ13_bitCount_95d88 57 = .ok (.bipush 127, 2) by decide +kernel) rfl (by decide) ?_
  refine tr_iand (pc' := 60) (show decode cJ13_bitCount_95d88 59 = .ok (.iand, 1) by decide +kernel) rfl ?_
  cases h
  exact tr_iret rfl (show decode cJ13_bitCount_95d88 60 = .ok (.ireturn, 1) by decide +kernel) hL
def f_X0_drawSeen_J94 (v1 : Nat) (v2 : Option Nat) (c12 : Int64 → Int32 → hm_M → Option (Int32 × hm_M)) (e100 : Int64 → hm_M → Option (Int32 × hm_M)) (y3 : Int64) (y5 : Int32) (μ1 : hm_M) : Option (Int32 × hm_M) :=
  c12 y3 (y5 + (1 : Int32)) μ1
theorem ok_X0_drawSeen_J94 {fr : Nat} (hfr : 6 ≤ fr) {ν : hm_N} {r : Int32} {μR : hm_M}  (v1 : Nat) (v2 : Option Nat) (c12 : Int64 → Int32 → hm_M → Option (Int32 × hm_M)) (e100 : Int64 → hm_M → Option (Int32 × hm_M)) (hc12 : ∀ (y3 : Int64) (y5 : Int32)  (μ1 : hm_M), hm_LL ν μ1 → c12 y3 y5 μ1 = some (r, μR) → hm_T (hm_LL ν) m_X0_drawSeen fr 0 0 (some (.int r)) μR 12 [some (.ref 145), some (.ref v1), none, some (.long y3), none, some (.int y5), none, none] [] μ1) (he100 : ∀ (y3 : Int64)  (μ1 : hm_M), hm_LL ν μ1 → e100 y3 μ1 = some (r, μR) → hm_T (hm_LL ν) m_X0_drawSeen fr 0 0 (some (.int r)) μR 100 [some (.ref 145), none, none, some (.long y3), none, none, none, none] [] μ1) (hv1 : hm_V v1) (hv2 : ∀ p, v2 = some p → hm_pg ν p) (y3 : Int64) (y5 : Int32) (μ1 : hm_M) (hL : hm_LL ν μ1) (h : f_X0_drawSeen_J94 v1 v2 c12 e100 y3 y5 μ1 = some (r, μR)) : hm_T (hm_LL ν) m_X0_drawSeen fr 0 0 (some (.int r)) μR 94 [some (.ref 145), some (.ref v1), none, some (.long y3), none, some (.int y5), none, none] [] μ1 := by
  unfold f_X0_drawSeen_J94 at h
  refine tr_iinc (pc' := 97) (v := y5 + (1 : Int32)) (lv' := [some (.ref 145), some (.ref v1), none, some (.long y3), none, some (.int (y5 + (1 : Int32))), none, none]) (show decode cX0_drawSeen 94 = .ok (.iinc 5 1, 3) by decide +kernel) rfl rfl rfl (Nat.le_of_ble_eq_true rfl) rfl rfl ?_
  refine tr_goto (tgt := 12) (show decode cX0_drawSeen 97 = .ok (.goto (-85), 3) by decide +kernel) rfl ?_
  exact hc12 y3 (y5 + (1 : Int32)) μ1 hL h
def f_X0_drawSeen_L12 (v1 : Nat) (v2 : Option Nat) (e100 : Int64 → hm_M → Option (Int32 × hm_M)) : Nat → Int64 → Int32 → hm_M → Option (Int32 × hm_M)
  | 0, _, _, _ => none
  | n + 1, y3, y5, μ1 => (if (μ1.1 v1 12) ≤ y5 then
  e100 y3 μ1
  else
  Option.bind (hm_ld μ1 (v1 + 7) 6 y5) fun x4 =>
  Option.bind (hm_ld μ1 (v1 + 8) 6 y5) fun x5 =>
  Option.bind (hm_ld μ1 (v1 + 9) 6 y5) fun x6 =>
  (if x6 = 0 then
  Option.bind (f_X0_setCost x4 x5 (-1 : Int32) μ1) fun μ12 =>
  f_X0_drawSeen_J94 v1 v2 (f_X0_drawSeen_L12 v1 v2 e100 n) e100 y3 y5 μ12
  else
  Option.bind (some (y3 ||| ((1 : Int64) <<< (((x4 * (8 : Int32)) + x5).toInt64 &&& 63)))) fun x7 =>
  Option.bind (f_X0_costBetween x4 x5 μ1) fun x8 =>
  Option.bind (f_X0_setCost x4 x5 (if x8 < (0 : Int32) then x8 else (0 : Int32)) μ1) fun μ10 =>
  f_X0_drawSeen_J94 v1 v2 (f_X0_drawSeen_L12 v1 v2 e100 n) e100 x7 y5 μ10))
theorem ok_X0_drawSeen_L12 {fr : Nat} (hfr : 6 ≤ fr) {ν : hm_N} {r : Int32} {μR : hm_M}  (v1 : Nat) (v2 : Option Nat) (e100 : Int64 → hm_M → Option (Int32 × hm_M))  (he100 : ∀ (y3 : Int64)  (μ1 : hm_M), hm_LL ν μ1 → e100 y3 μ1 = some (r, μR) → hm_T (hm_LL ν) m_X0_drawSeen fr 0 0 (some (.int r)) μR 100 [some (.ref 145), none, none, some (.long y3), none, none, none, none] [] μ1) (hv1 : hm_V v1) (hv2 : ∀ p, v2 = some p → hm_pg ν p) : ∀ (n : Nat) (y3 : Int64) (y5 : Int32)  (μ1 : hm_M), hm_LL ν μ1 → f_X0_drawSeen_L12 v1 v2 e100 n y3 y5 μ1 = some (r, μR) → hm_T (hm_LL ν) m_X0_drawSeen fr 0 0 (some (.int r)) μR 12 [some (.ref 145), some (.ref v1), none, some (.long y3), none, some (.int y5), none, none] [] μ1 := by
  intro n
  induction n with
  | zero =>
    intro y3 y5 μ1 hL h
    unfold f_X0_drawSeen_L12 at h
    cases h
  | succ n ih =>
    intro y3 y5 μ1 hL h
    unfold f_X0_drawSeen_L12 at h
    refine tr_iload (pc' := 14) (show decode cX0_drawSeen 12 = .ok (.iload 5, 2) by decide +kernel) rfl rfl ?_
    refine tr_aload_n (pc' := 15) (show decode cX0_drawSeen 14 = .ok (.aload_n 1, 1) by decide +kernel) rfl rfl rfl ?_
    refine tr_getI (pc' := 18) fl_HandRing_Circle_61 (show decode cX0_drawSeen 15 = .ok (.getfield 61, 3) by decide +kernel) rfl (la_vo hL hv1) ?_
    rcases hm_is h with ⟨hc, h⟩ | ⟨hc, h⟩
    · refine tr_icmp_ge_t (tgt := 100) hc (show decode cX0_drawSeen 18 = .ok (.if_icmp .ge 82, 3) by decide +kernel) (by decide) ?_
      refine hm_fgt [true, false, false, true, false, false, false, false] (lv' := [some (.ref 145), none, none, some (.long y3), none, none, none, none]) rfl ?_
      exact he100 y3 μ1 hL h
    · refine tr_icmp_ge_f (tgt := 100) (pc' := 21) hc (show decode cX0_drawSeen 18 = .ok (.if_icmp .ge 82, 3) by decide +kernel) (by decide) rfl ?_
      refine tr_aload_n (pc' := 22) (show decode cX0_drawSeen 21 = .ok (.aload_n 1, 1) by decide +kernel) rfl rfl rfl ?_
      refine tr_getR (pc' := 25) fl_HandRing_Circle_64 (show decode cX0_drawSeen 22 = .ok (.getfield 64, 3) by decide +kernel) rfl (la_vo hL hv1) (la_v9 hL hv1) ?_
      refine tr_iload (pc' := 27) (show decode cX0_drawSeen 25 = .ok (.iload 5, 2) by decide +kernel) rfl rfl ?_
      obtain ⟨x4, ex4, h⟩ := hm_bs h
      refine tp_ldI (pc' := 28) (show decode cX0_drawSeen 27 = .ok (.iaload, 1) by decide +kernel) rfl (la_va9 hL hv1) ex4 ?_
      refine tr_istore (pc' := 30) (lv' := [some (.ref 145), some (.ref v1), none, some (.long y3), none, some (.int y5), some (.int x4), none]) (show decode cX0_drawSeen 28 = .ok (.istore 6, 2) by decide +kernel) rfl (Nat.le_of_ble_eq_true rfl) rfl rfl ?_
      refine tr_aload_n (pc' := 31) (show decode cX0_drawSeen 30 = .ok (.aload_n 1, 1) by decide +kernel) rfl rfl rfl ?_
      refine tr_getR (pc' := 34) fl_HandRing_Circle_67 (show decode cX0_drawSeen 31 = .ok (.getfield 67, 3) by decide +kernel) rfl (la_vo hL hv1) (la_v10 hL hv1) ?_
      refine tr_iload (pc' := 36) (show decode cX0_drawSeen 34 = .ok (.iload 5, 2) by decide +kernel) rfl rfl ?_
      obtain ⟨x5, ex5, h⟩ := hm_bs h
      refine tp_ldI (pc' := 37) (show decode cX0_drawSeen 36 = .ok (.iaload, 1) by decide +kernel) rfl (la_va10 hL hv1) ex5 ?_
      refine tr_istore (pc' := 39) (lv' := [some (.ref 145), some (.ref v1), none, some (.long y3), none, some (.int y5), some (.int x4), some (.int x5)]) (show decode cX0_drawSeen 37 = .ok (.istore 7, 2) by decide +kernel) rfl (Nat.le_of_ble_eq_true rfl) rfl rfl ?_
      refine tr_aload_n (pc' := 40) (show decode cX0_drawSeen 39 = .ok (.aload_n 1, 1) by decide +kernel) rfl rfl rfl ?_
      refine tr_getR (pc' := 43) fl_HandRing_Circle_70 (show decode cX0_drawSeen 40 = .ok (.getfield 70, 3) by decide +kernel) rfl (la_vo hL hv1) (la_v11 hL hv1) ?_
      refine tr_iload (pc' := 45) (show decode cX0_drawSeen 43 = .ok (.iload 5, 2) by decide +kernel) rfl rfl ?_
      obtain ⟨x6, ex6, h⟩ := hm_bs h
      refine tp_ldI (pc' := 46) (show decode cX0_drawSeen 45 = .ok (.iaload, 1) by decide +kernel) rfl (la_va11 hL hv1) ex6 ?_
      rcases hm_is h with ⟨hc, h⟩ | ⟨hc, h⟩
      · refine tr_if_ne_f (tgt := 61) (pc' := 49) hc (show decode cX0_drawSeen 46 = .ok (.ifCond .ne 15, 3) by decide +kernel) (by decide) rfl ?_
        refine tr_aload_n (pc' := 50) (show decode cX0_drawSeen 49 = .ok (.aload_n 0, 1) by decide +kernel) rfl rfl rfl ?_
        refine tr_iload (pc' := 52) (show decode cX0_drawSeen 50 = .ok (.iload 6, 2) by decide +kernel) rfl rfl ?_
        refine tr_iload (pc' := 54) (show decode cX0_drawSeen 52 = .ok (.iload 7, 2) by decide +kernel) rfl rfl ?_
        refine tr_iconst (pc' := 55) (v := (-1 : Int32)) (show decode cX0_drawSeen 54 = .ok (.iconst (-1), 1) by decide +kernel) rfl (by decide) ?_
        obtain ⟨μ12, ex11, h⟩ := hm_bs h
        have cx11 := ok_X0_setCost (fr := fr - 1) (ν := ν) (by omega) x4 x5 (-1 : Int32) μ1 hL ex11
        refine tp_callV (pc' := 58) (As := [.int x4, .int x5, .int (-1 : Int32)]) (fr1 := fr - 1) (ci := 0) okm_X0_setCost lk_HandRing_Circle_39 (show decode cX0_drawSeen 55 = .ok (.invokevirtual 39, 3) by decide +kernel) rfl rfl rfl (by decide) (la_o hL (by decide) rfl) rfl rfl (Nat.le_of_ble_eq_true rfl) (by omega) cx11 (st' := []) rfl ?_
        replace hL := cx11.1
        refine tr_goto (tgt := 94) (show decode cX0_drawSeen 58 = .ok (.goto 36, 3) by decide +kernel) rfl ?_
        refine hm_fgt [true, true, false, true, false, true, false, false] (lv' := [some (.ref 145), some (.ref v1), none, some (.long y3), none, some (.int y5), none, none]) rfl ?_
        exact ok_X0_drawSeen_J94 hfr _ _ (f_X0_drawSeen_L12 v1 v2 e100 n) e100 ih he100 hv1 hv2 y3 y5 μ12 hL h
      · refine tr_if_ne_t (tgt := 61) hc (show decode cX0_drawSeen 46 = .ok (.ifCond .ne 15, 3) by decide +kernel) (by decide) ?_
        refine tr_lload_n (pc' := 62) (show decode cX0_drawSeen 61 = .ok (.lload_n 3, 1) by decide +kernel) rfl rfl rfl ?_
        refine tr_lconst (pc' := 63) (v := (1 : Int64)) (show decode cX0_drawSeen 62 = .ok (.lconst 1, 1) by decide +kernel) rfl (by decide) ?_
        refine tr_iload (pc' := 65) (show decode cX0_drawSeen 63 = .ok (.iload 6, 2) by decide +kernel) rfl rfl ?_
        refine tr_bipush (pc' := 67) (v := (8 : Int32)) (show decode cX0_drawSeen 65 = .ok (.bipush 8, 2) by decide +kernel) rfl (by decide) ?_
        refine tr_imul (pc' := 68) (show decode cX0_drawSeen 67 = .ok (.imul, 1) by decide +kernel) rfl ?_
        refine tr_iload (pc' := 70) (show decode cX0_drawSeen 68 = .ok (.iload 7, 2) by decide +kernel) rfl rfl ?_
        refine tr_iadd (pc' := 71) (show decode cX0_drawSeen 70 = .ok (.iadd, 1) by decide +kernel) rfl ?_
        refine tr_lshl (pc' := 72) (show decode cX0_drawSeen 71 = .ok (.lshl, 1) by decide +kernel) rfl ?_
        refine tr_lor (pc' := 73) (show decode cX0_drawSeen 72 = .ok (.lor, 1) by decide +kernel) rfl ?_
        obtain ⟨x7, ex7, h⟩ := hm_bs h
        have ex7 := Option.some.inj ex7
        rw [ex7]
        refine tr_lstore_n (pc' := 74) (lv' := [some (.ref 145), some (.ref v1), none, some (.long x7), none, some (.int y5), some (.int x4), some (.int x5)]) (show decode cX0_drawSeen 73 = .ok (.lstore_n 3, 1) by decide +kernel) rfl rfl (Nat.le_of_ble_eq_true rfl) rfl rfl ?_
        refine tr_aload_n (pc' := 75) (show decode cX0_drawSeen 74 = .ok (.aload_n 0, 1) by decide +kernel) rfl rfl rfl ?_
        refine tr_iload (pc' := 77) (show decode cX0_drawSeen 75 = .ok (.iload 6, 2) by decide +kernel) rfl rfl ?_
        refine tr_iload (pc' := 79) (show decode cX0_drawSeen 77 = .ok (.iload 7, 2) by decide +kernel) rfl rfl ?_
        refine tr_iconst (pc' := 80) (v := (0 : Int32)) (show decode cX0_drawSeen 79 = .ok (.iconst 0, 1) by decide +kernel) rfl (by decide) ?_
        refine tr_aload_n (pc' := 81) (show decode cX0_drawSeen 80 = .ok (.aload_n 0, 1) by decide +kernel) rfl rfl rfl ?_
        refine tr_iload (pc' := 83) (show decode cX0_drawSeen 81 = .ok (.iload 6, 2) by decide +kernel) rfl rfl ?_
        refine tr_iload (pc' := 85) (show decode cX0_drawSeen 83 = .ok (.iload 7, 2) by decide +kernel) rfl rfl ?_
        obtain ⟨x8, ex8, h⟩ := hm_bs h
        have cx8 := ok_X0_costBetween (fr := fr - 1) (ν := ν) (by omega) x4 x5 μ1 hL ex8
        refine tp_callV (pc' := 88) (As := [.int x4, .int x5]) (fr1 := fr - 1) (ci := 0) okm_X0_costBetween lk_HandRing_Circle_73 (show decode cX0_drawSeen 85 = .ok (.invokevirtual 73, 3) by decide +kernel) rfl rfl rfl (by decide) (la_o hL (by decide) rfl) rfl rfl (Nat.le_of_ble_eq_true rfl) (by omega) cx8 (st' := [.int x8, .int (0 : Int32), .int x5, .int x4, .ref 145]) rfl ?_
        refine tr_min (pc' := 91) lk_HandRing_Circle_77 kw_min_s kw_Math_i kw_min_c (show decode cX0_drawSeen 88 = .ok (.invokestatic 77, 3) by decide +kernel) rfl (Nat.le_of_ble_eq_true rfl) (by omega) ?_
        obtain ⟨μ10, ex9, h⟩ := hm_bs h
        have cx9 := ok_X0_setCost (fr := fr - 1) (ν := ν) (by omega) x4 x5 (if x8 < (0 : Int32) then x8 else (0 : Int32)) μ1 hL ex9
        refine tp_callV (pc' := 94) (As := [.int x4, .int x5, .int (if x8 < (0 : Int32) then x8 else (0 : Int32))]) (fr1 := fr - 1) (ci := 0) okm_X0_setCost lk_HandRing_Circle_39 (show decode cX0_drawSeen 91 = .ok (.invokevirtual 39, 3) by decide +kernel) rfl rfl rfl (by decide) (la_o hL (by decide) rfl) rfl rfl (Nat.le_of_ble_eq_true rfl) (by omega) cx9 (st' := []) rfl ?_
        replace hL := cx9.1
        refine hm_fgt [true, true, false, true, false, true, false, false] (lv' := [some (.ref 145), some (.ref v1), none, some (.long x7), none, some (.int y5), none, none]) rfl ?_
        exact ok_X0_drawSeen_J94 hfr _ _ (f_X0_drawSeen_L12 v1 v2 e100 n) e100 ih he100 hv1 hv2 x7 y5 μ10 hL h
def f_X0_drawSeen (v1 : Nat) (v2 : Option Nat) (μ : hm_M) : Option (Int32 × hm_M) :=
  Option.bind (f_X0_draw v1 v2 (2 : Int32) μ) fun μ3 =>
  f_X0_drawSeen_L12 v1 v2 (fun z13_3 μz13 => Option.bind (f_J13_bitCount_95d88 z13_3) fun x14 =>
  some ((μz13.1 145 5) - x14, μz13)) hm_fu (0 : Int64) (0 : Int32) μ3
set_option maxRecDepth 100000 in
theorem ok_X0_drawSeen {fr : Nat} (hfr : 6 ≤ fr) {ν : hm_N} {r : Int32} {μR : hm_M}  (v1 : Nat) (v2 : Option Nat) (hv1 : hm_V v1) (hv2 : ∀ p, v2 = some p → hm_pg ν p) (μ : hm_M) (hL : hm_LL ν μ) (h : f_X0_drawSeen v1 v2 μ = some (r, μR)) : hm_CC (hm_LL ν) m_X0_drawSeen fr 0 0 [.ref 145, .ref v1, va_rf v2] μ (some (.int r)) μR := by
  refine hm_enter (lv := [some (.ref 145), some (.ref v1), some (va_rf v2), none, none, none, none, none]) (by decide) (by cases v2 <;> rfl) (by cases v2 <;> exact Nat.le_of_ble_eq_true rfl) ?_
  unfold f_X0_drawSeen at h
  refine tr_aload_n (pc' := 1) (show decode cX0_drawSeen 0 = .ok (.aload_n 0, 1) by decide +kernel) rfl rfl rfl ?_
  refine tr_aload_n (pc' := 2) (show decode cX0_drawSeen 1 = .ok (.aload_n 1, 1) by decide +kernel) rfl rfl rfl ?_
  refine tr_aloadq_n (pc' := 3) (show decode cX0_drawSeen 2 = .ok (.aload_n 2, 1) by decide +kernel) rfl rfl rfl ?_
  refine tr_iconst (pc' := 4) (v := (2 : Int32)) (show decode cX0_drawSeen 3 = .ok (.iconst 2, 1) by decide +kernel) rfl (by decide) ?_
  obtain ⟨μ3, ex2, h⟩ := hm_bs h
  have cx2 := ok_X0_draw (fr := fr - 1) (ν := ν) (by omega) v1 v2 (2 : Int32) hv1 hv2 μ hL ex2
  refine tp_callV (pc' := 7) (As := [.ref v1, va_rf v2, .int (2 : Int32)]) (fr1 := fr - 1) (ci := 0) okm_X0_draw lk_HandRing_Circle_57 (show decode cX0_drawSeen 4 = .ok (.invokevirtual 57, 3) by decide +kernel) rfl rfl rfl (by decide) (la_o hL (by decide) rfl) rfl rfl (Nat.le_of_ble_eq_true rfl) (by omega) cx2 (st' := []) rfl ?_
  replace hL := cx2.1
  refine tr_lconst (pc' := 8) (v := (0 : Int64)) (show decode cX0_drawSeen 7 = .ok (.lconst 0, 1) by decide +kernel) rfl (by decide) ?_
  refine tr_lstore_n (pc' := 9) (lv' := [some (.ref 145), some (.ref v1), some (va_rf v2), some (.long (0 : Int64)), none, none, none, none]) (show decode cX0_drawSeen 8 = .ok (.lstore_n 3, 1) by decide +kernel) rfl rfl (Nat.le_of_ble_eq_true rfl) (by cases v2 <;> rfl) rfl ?_
  refine tr_iconst (pc' := 10) (v := (0 : Int32)) (show decode cX0_drawSeen 9 = .ok (.iconst 0, 1) by decide +kernel) rfl (by decide) ?_
  refine tr_istore (pc' := 12) (lv' := [some (.ref 145), some (.ref v1), some (va_rf v2), some (.long (0 : Int64)), none, some (.int (0 : Int32)), none, none]) (show decode cX0_drawSeen 10 = .ok (.istore 5, 2) by decide +kernel) rfl (Nat.le_of_ble_eq_true rfl) rfl rfl ?_
  refine hm_fgt [true, true, false, true, false, true, false, false] (lv' := [some (.ref 145), some (.ref v1), none, some (.long (0 : Int64)), none, some (.int (0 : Int32)), none, none]) rfl ?_
  refine ok_X0_drawSeen_L12 hfr _ _ _ ?_ hv1 hv2 _ (0 : Int64) (0 : Int32) μ3 hL h
  · intro z13_3 μz13 hL h
    refine tr_aload_n (pc' := 101) (show decode cX0_drawSeen 100 = .ok (.aload_n 0, 1) by decide +kernel) rfl rfl rfl ?_
    refine tr_getI (pc' := 104) fl_HandRing_Circle_28 (show decode cX0_drawSeen 101 = .ok (.getfield 28, 3) by decide +kernel) rfl (la_o hL (by decide) rfl) ?_
    refine tr_lload_n (pc' := 105) (show decode cX0_drawSeen 104 = .ok (.lload_n 3, 1) by decide +kernel) rfl rfl rfl ?_
    obtain ⟨x14, ex14, h⟩ := hm_bs h
    have cx14 := ok_J13_bitCount_95d88 (fr := fr - 1) (ν := ν) (by omega) z13_3 μz13 hL ex14
    refine tp_callS (pc' := 108) (As := [.long z13_3]) (fr1 := fr - 1) okm_J13_bitCount_95d88 lk_HandRing_Circle_82 (show decode cX0_drawSeen 105 = .ok (.invokestatic 82, 3) by decide +kernel) rfl rfl rfl (Nat.le_of_ble_eq_true rfl) (by omega) cx14 (st' := [.int x14, .int (μz13.1 145 5)]) rfl ?_
    refine tr_isub (pc' := 109) (show decode cX0_drawSeen 108 = .ok (.isub, 1) by decide +kernel) rfl ?_
    cases h
    exact tr_iret rfl (show decode cX0_drawSeen 109 = .ok (.ireturn, 1) by decide +kernel) hL
def f_J7_fill_53178_L5 (v0 : Nat) (l0 : Nat) (v1 : Int32) (w5_3 : Int32) (e20 : hm_M → Option hm_M) : Nat → Int32 → hm_M → Option hm_M
  | 0, _, _ => none
  | n + 1, y2, μ1 => (if w5_3 ≤ y2 then
  e20 μ1
  else
  Option.bind (hm_sd μ1 v0 l0 y2 v1) fun μ2 =>
  (f_J7_fill_53178_L5 v0 l0 v1 w5_3 e20 n) (y2 + (1 : Int32)) μ2)
theorem ok_J7_fill_53178_L5 {fr : Nat} (hfr : 0 ≤ fr) {ν : hm_N} {μR : hm_M}  (v0 : Nat) (l0 : Nat) (v1 : Int32) (w5_3 : Int32) (e20 : hm_M → Option hm_M)  (he20 : ∀   (μ1 : hm_M), hm_LL ν μ1 → e20 μ1 = some μR → hm_T (hm_LL ν) m_J7_fill_53178 fr 0 0 none μR 20 [none, none, none, none] [] μ1) (hv0 : hm_arν ν v0 13 l0) : ∀ (n : Nat) (y2 : Int32)  (μ1 : hm_M), hm_LL ν μ1 → f_J7_fill_53178_L5 v0 l0 v1 w5_3 e20 n y2 μ1 = some μR → hm_T (hm_LL ν) m_J7_fill_53178 fr 0 0 none μR 5 [some (.ref v0), some (.int v1), some (.int y2), some (.int w5_3)] [] μ1 := by
  intro n
  induction n with
  | zero =>
    intro y2 μ1 hL h
    unfold f_J7_fill_53178_L5 at h
    cases h
  | succ n ih =>
    intro y2 μ1 hL h
    unfold f_J7_fill_53178_L5 at h
    refine tr_iload_n (pc' := 6) (show decode cJ7_fill_53178 5 = .ok (.iload_n 2, 1) by decide +kernel) rfl rfl rfl ?_
    refine tr_iload_n (pc' := 7) (show decode cJ7_fill_53178 6 = .ok (.iload_n 3, 1) by decide +kernel) rfl rfl rfl ?_
    rcases hm_is h with ⟨hc, h⟩ | ⟨hc, h⟩
    · refine tr_icmp_ge_t (tgt := 20) hc (show decode cJ7_fill_53178 7 = .ok (.if_icmp .ge 13, 3) by decide +kernel) (by decide) ?_
      refine hm_fgt [false, false, false, false] (lv' := [none, none, none, none]) rfl ?_
      exact he20 μ1 hL h
    · refine tr_icmp_ge_f (tgt := 20) (pc' := 10) hc (show decode cJ7_fill_53178 7 = .ok (.if_icmp .ge 13, 3) by decide +kernel) (by decide) rfl ?_
      refine tr_aload_n (pc' := 11) (show decode cJ7_fill_53178 10 = .ok (.aload_n 0, 1) by decide +kernel) rfl rfl rfl ?_
      refine tr_iload_n (pc' := 12) (show decode cJ7_fill_53178 11 = .ok (.iload_n 2, 1) by decide +kernel) rfl rfl rfl ?_
      refine tr_iload_n (pc' := 13) (show decode cJ7_fill_53178 12 = .ok (.iload_n 1, 1) by decide +kernel) rfl rfl rfl ?_
      obtain ⟨μ2, eμ2, h⟩ := hm_bs h
      refine tp_sdI (pc' := 14) (show decode cJ7_fill_53178 13 = .ok (.iastore, 1) by decide +kernel) rfl (la_x hL hv0) eμ2 ?_
      replace hL := hL.same (hm_sd_s eμ2)
      refine tr_iinc (pc' := 17) (v := y2 + (1 : Int32)) (lv' := [some (.ref v0), some (.int v1), some (.int (y2 + (1 : Int32))), some (.int w5_3)]) (show decode cJ7_fill_53178 14 = .ok (.iinc 2 1, 3) by decide +kernel) rfl rfl rfl (Nat.le_of_ble_eq_true rfl) rfl rfl ?_
      refine tr_goto (tgt := 5) (show decode cJ7_fill_53178 17 = .ok (.goto (-12), 3) by decide +kernel) rfl ?_
      exact ih (y2 + (1 : Int32)) μ2 hL h
def f_J7_fill_53178 (v0 : Nat) (l0 : Nat) (v1 : Int32) (μ : hm_M) : Option hm_M :=
  f_J7_fill_53178_L5 v0 l0 v1 (Int32.ofNat l0) (fun μz3 => some μz3) hm_fu (0 : Int32) μ
set_option maxRecDepth 100000 in
theorem ok_J7_fill_53178 {fr : Nat} (hfr : 0 ≤ fr) {ν : hm_N} {μR : hm_M}  (v0 : Nat) (l0 : Nat) (v1 : Int32) (hv0 : hm_arν ν v0 13 l0) (μ : hm_M) (hL : hm_LL ν μ) (h : f_J7_fill_53178 v0 l0 v1 μ = some μR) : hm_CC (hm_LL ν) m_J7_fill_53178 fr 0 0 [.ref v0, .int v1] μ none μR := by
  refine hm_enter (lv := [some (.ref v0), some (.int v1), none, none]) (by decide) rfl (Nat.le_of_ble_eq_true rfl) ?_
  unfold f_J7_fill_53178 at h
  refine tr_iconst (pc' := 1) (v := (0 : Int32)) (show decode cJ7_fill_53178 0 = .ok (.iconst 0, 1) by decide +kernel) rfl (by decide) ?_
  refine tr_istore_n (pc' := 2) (lv' := [some (.ref v0), some (.int v1), some (.int (0 : Int32)), none]) (show decode cJ7_fill_53178 1 = .ok (.istore_n 2, 1) by decide +kernel) rfl rfl (Nat.le_of_ble_eq_true rfl) rfl rfl ?_
  refine tr_aload_n (pc' := 3) (show decode cJ7_fill_53178 2 = .ok (.aload_n 0, 1) by decide +kernel) rfl rfl rfl ?_
  refine tr_alen (pc' := 4) (t0 := 2) (by decide) (fun _ => rfl) (show decode cJ7_fill_53178 3 = .ok (.arraylength, 1) by decide +kernel) rfl (la_x hL hv0) ?_
  refine tr_istore_n (pc' := 5) (lv' := [some (.ref v0), some (.int v1), some (.int (0 : Int32)), some (.int (Int32.ofNat l0))]) (show decode cJ7_fill_53178 4 = .ok (.istore_n 3, 1) by decide +kernel) rfl rfl (Nat.le_of_ble_eq_true rfl) rfl rfl ?_
  refine ok_J7_fill_53178_L5 hfr _ _ _ (Int32.ofNat l0) _ ?_ hv0 _ (0 : Int32) μ hL h
  · intro μz3 hL h
    cases h
    exact tr_vret rfl (show decode cJ7_fill_53178 20 = .ok (.return_, 1) by decide +kernel) hL
def f_X0_offer (v1 : Int32) (v2 : Int32) (v3 : Int32) (v4 : Int32) (μ : hm_M) : Option hm_M :=
  Option.bind (hm_ld μ 147 2048 ((v1 * (8 : Int32)) + v2)) fun x2 =>
  (if x2 ≤ v3 then
  Option.bind (hm_ld μ 147 2048 ((v1 * (8 : Int32)) + v2)) fun x3 =>
  (if v3 = x3 then
  Option.bind (hm_ld μ 148 2048 ((v1 * (8 : Int32)) + v2)) fun x4 =>
  Option.bind (hm_sd μ 148 2048 ((v1 * (8 : Int32)) + v2) (x4 + v4)) fun μ5 =>
  some μ5
  else
  some μ)
  else
  Option.bind (hm_sd μ 147 2048 ((v1 * (8 : Int32)) + v2) v3) fun μ6 =>
  Option.bind (hm_sd μ6 148 2048 ((v1 * (8 : Int32)) + v2) v4) fun μ7 =>
  some μ7)
set_option maxRecDepth 100000 in
theorem ok_X0_offer {fr : Nat} (hfr : 0 ≤ fr) {ν : hm_N} {μR : hm_M}  (v1 : Int32) (v2 : Int32) (v3 : Int32) (v4 : Int32)  (μ : hm_M) (hL : hm_LL ν μ) (h : f_X0_offer v1 v2 v3 v4 μ = some μR) : hm_CC (hm_LL ν) m_X0_offer fr 0 0 [.ref 145, .int v1, .int v2, .int v3, .int v4] μ none μR := by
  refine hm_enter (lv := [some (.ref 145), some (.int v1), some (.int v2), some (.int v3), some (.int v4), none]) (by decide) rfl (Nat.le_of_ble_eq_true rfl) ?_
  unfold f_X0_offer at h
  refine tr_iload_n (pc' := 1) (show decode cX0_offer 0 = .ok (.iload_n 1, 1) by decide +kernel) rfl rfl rfl ?_
  refine tr_bipush (pc' := 3) (v := (8 : Int32)) (show decode cX0_offer 1 = .ok (.bipush 8, 2) by decide +kernel) rfl (by decide) ?_
  refine tr_imul (pc' := 4) (show decode cX0_offer 3 = .ok (.imul, 1) by decide +kernel) rfl ?_
  refine tr_iload_n (pc' := 5) (show decode cX0_offer 4 = .ok (.iload_n 2, 1) by decide +kernel) rfl rfl rfl ?_
  refine tr_iadd (pc' := 6) (show decode cX0_offer 5 = .ok (.iadd, 1) by decide +kernel) rfl ?_
  refine tr_istore (pc' := 8) (lv' := [some (.ref 145), some (.int v1), some (.int v2), some (.int v3), some (.int v4), some (.int ((v1 * (8 : Int32)) + v2))]) (show decode cX0_offer 6 = .ok (.istore 5, 2) by decide +kernel) rfl (Nat.le_of_ble_eq_true rfl) rfl rfl ?_
  refine tr_iload_n (pc' := 9) (show decode cX0_offer 8 = .ok (.iload_n 3, 1) by decide +kernel) rfl rfl rfl ?_
  refine tr_aload_n (pc' := 10) (show decode cX0_offer 9 = .ok (.aload_n 0, 1) by decide +kernel) rfl rfl rfl ?_
  refine tr_getR (pc' := 13) fl_HandRing_Circle_15 (show decode cX0_offer 10 = .ok (.getfield 15, 3) by decide +kernel) rfl (la_o hL (by decide) rfl) (la_r hL 92 rfl) ?_
  refine tr_iload (pc' := 15) (show decode cX0_offer 13 = .ok (.iload 5, 2) by decide +kernel) rfl rfl ?_
  obtain ⟨x2, ex2, h⟩ := hm_bs h
  refine tp_ldI (pc' := 16) (show decode cX0_offer 15 = .ok (.iaload, 1) by decide +kernel) rfl (la_a hL (by decide) rfl) ex2 ?_
  rcases hm_is h with ⟨hc, h⟩ | ⟨hc, h⟩
  · refine tr_icmp_ge_t (tgt := 39) hc (show decode cX0_offer 16 = .ok (.if_icmp .ge 23, 3) by decide +kernel) (by decide) ?_
    refine tr_iload_n (pc' := 40) (show decode cX0_offer 39 = .ok (.iload_n 3, 1) by decide +kernel) rfl rfl rfl ?_
    refine tr_aload_n (pc' := 41) (show decode cX0_offer 40 = .ok (.aload_n 0, 1) by decide +kernel) rfl rfl rfl ?_
    refine tr_getR (pc' := 44) fl_HandRing_Circle_15 (show decode cX0_offer 41 = .ok (.getfield 15, 3) by decide +kernel) rfl (la_o hL (by decide) rfl) (la_r hL 92 rfl) ?_
    refine tr_iload (pc' := 46) (show decode cX0_offer 44 = .ok (.iload 5, 2) by decide +kernel) rfl rfl ?_
    obtain ⟨x3, ex3, h⟩ := hm_bs h
    refine tp_ldI (pc' := 47) (show decode cX0_offer 46 = .ok (.iaload, 1) by decide +kernel) rfl (la_a hL (by decide) rfl) ex3 ?_
    rcases hm_is h with ⟨hc, h⟩ | ⟨hc, h⟩
    · refine tr_icmp_ne_f (tgt := 62) (pc' := 50) hc (show decode cX0_offer 47 = .ok (.if_icmp .ne 15, 3) by decide +kernel) (by decide) rfl ?_
      refine tr_aload_n (pc' := 51) (show decode cX0_offer 50 = .ok (.aload_n 0, 1) by decide +kernel) rfl rfl rfl ?_
      refine tr_getR (pc' := 54) fl_HandRing_Circle_18 (show decode cX0_offer 51 = .ok (.getfield 18, 3) by decide +kernel) rfl (la_o hL (by decide) rfl) (la_r hL 93 rfl) ?_
      refine tr_iload (pc' := 56) (show decode cX0_offer 54 = .ok (.iload 5, 2) by decide +kernel) rfl rfl ?_
      refine tr_dup2 (pc' := 57) (show decode cX0_offer 56 = .ok (.dup2, 1) by decide +kernel) rfl rfl rfl ?_
      obtain ⟨x4, ex4, h⟩ := hm_bs h
      refine tp_ldI (pc' := 58) (show decode cX0_offer 57 = .ok (.iaload, 1) by decide +kernel) rfl (la_a hL (by decide) rfl) ex4 ?_
      refine tr_iload (pc' := 60) (show decode cX0_offer 58 = .ok (.iload 4, 2) by decide +kernel) rfl rfl ?_
      refine tr_iadd (pc' := 61) (show decode cX0_offer 60 = .ok (.iadd, 1) by decide +kernel) rfl ?_
      obtain ⟨μ5, eμ5, h⟩ := hm_bs h
      refine tp_sdI (pc' := 62) (show decode cX0_offer 61 = .ok (.iastore, 1) by decide +kernel) rfl (la_a hL (by decide) rfl) eμ5 ?_
      replace hL := hL.same (hm_sd_s eμ5)
      cases h
      exact tr_vret rfl (show decode cX0_offer 62 = .ok (.return_, 1) by decide +kernel) hL
    · refine tr_icmp_ne_t (tgt := 62) hc (show decode cX0_offer 47 = .ok (.if_icmp .ne 15, 3) by decide +kernel) (by decide) ?_
      cases h
      exact tr_vret rfl (show decode cX0_offer 62 = .ok (.return_, 1) by decide +kernel) hL
  · refine tr_icmp_ge_f (tgt := 39) (pc' := 19) hc (show decode cX0_offer 16 = .ok (.if_icmp .ge 23, 3) by decide +kernel) (by decide) rfl ?_
    refine tr_aload_n (pc' := 20) (show decode cX0_offer 19 = .ok (.aload_n 0, 1) by decide +kernel) rfl rfl rfl ?_
    refine tr_getR (pc' := 23) fl_HandRing_Circle_15 (show decode cX0_offer 20 = .ok (.getfield 15, 3) by decide +kernel) rfl (la_o hL (by decide) rfl) (la_r hL 92 rfl) ?_
    refine tr_iload (pc' := 25) (show decode cX0_offer 23 = .ok (.iload 5, 2) by decide +kernel) rfl rfl ?_
    refine tr_iload_n (pc' := 26) (show decode cX0_offer 25 = .ok (.iload_n 3, 1) by decide +kernel) rfl rfl rfl ?_
    obtain ⟨μ6, eμ6, h⟩ := hm_bs h
    refine tp_sdI (pc' := 27) (show decode cX0_offer 26 = .ok (.iastore, 1) by decide +kernel) rfl (la_a hL (by decide) rfl) eμ6 ?_
    replace hL := hL.same (hm_sd_s eμ6)
    refine tr_aload_n (pc' := 28) (show decode cX0_offer 27 = .ok (.aload_n 0, 1) by decide +kernel) rfl rfl rfl ?_
    refine tr_getR (pc' := 31) fl_HandRing_Circle_18 (show decode cX0_offer 28 = .ok (.getfield 18, 3) by decide +kernel) rfl (la_o hL (by decide) rfl) (la_r hL 93 rfl) ?_
    refine tr_iload (pc' := 33) (show decode cX0_offer 31 = .ok (.iload 5, 2) by decide +kernel) rfl rfl ?_
    refine tr_iload (pc' := 35) (show decode cX0_offer 33 = .ok (.iload 4, 2) by decide +kernel) rfl rfl ?_
    obtain ⟨μ7, eμ7, h⟩ := hm_bs h
    refine tp_sdI (pc' := 36) (show decode cX0_offer 35 = .ok (.iastore, 1) by decide +kernel) rfl (la_a hL (by decide) rfl) eμ7 ?_
    replace hL := hL.same (hm_sd_s eμ7)
    refine tr_goto (tgt := 62) (show decode cX0_offer 36 = .ok (.goto 26, 3) by decide +kernel) rfl ?_
    cases h
    exact tr_vret rfl (show decode cX0_offer 62 = .ok (.return_, 1) by decide +kernel) hL
def f_J6_numberOfTrailingZeros_0f7a4_J62 (v0 : Int32) (y0 : Int32) (y1 : Int32) : Option Int32 :=
  (if y0 ≤ (4 : Int32) then
  some (y1 + ((y0.toUInt32 >>> ((1 : Int32).toUInt32 &&& Int32.toUInt32 31)).toInt32))
  else
  Option.bind (some ((y0.toUInt32 >>> ((2 : Int32).toUInt32 &&& Int32.toUInt32 31)).toInt32)) fun x3 =>
  some ((y1 + (2 : Int32)) + ((x3.toUInt32 >>> ((1 : Int32).toUInt32 &&& Int32.toUInt32 31)).toInt32)))
theorem ok_J6_numberOfTrailingZeros_0f7a4_J62 {fr : Nat} (hfr : 0 ≤ fr) {ν : hm_N} {r : Int32}  (v0 : Int32)    (y0 : Int32) (y1 : Int32) (μ1 : hm_M) (hL : hm_LL ν μ1) (h : f_J6_numberOfTrailingZeros_0f7a4_J62 v0 y0 y1 = some r) : hm_T (hm_LL ν) m_J6_numberOfTrailingZeros_0f7a4 fr 0 0 (some (.int r)) μ1 62 [some (.int y0), some (.int y1)] [] μ1 := by
  unfold f_J6_numberOfTrailingZeros_0f7a4_J62 at h
  refine tr_iload_n (pc' := 63) (show decode cJ6_numberOfTrailingZeros_0f7a4 62 = .ok (.iload_n 0, 1) by decide +kernel) rfl rfl rfl ?_
  refine tr_iconst (pc' := 64) (v := (4 : Int32)) (show decode cJ6_numberOfTrailingZeros_0f7a4 63 = .ok (.iconst 4, 1) by decide +kernel) rfl (by decide) ?_
  rcases hm_is h with ⟨hc, h⟩ | ⟨hc, h⟩
  · refine tr_icmp_le_t (tgt := 74) hc (show decode cJ6_numberOfTrailingZeros_0f7a4 64 = .ok (.if_icmp .le 10, 3) by decide +kernel) (by decide) ?_
    refine tr_iload_n (pc' := 75) (show decode cJ6_numberOfTrailingZeros_0f7a4 74 = .ok (.iload_n 1, 1) by decide +kernel) rfl rfl rfl ?_
    refine tr_iload_n (pc' := 76) (show decode cJ6_numberOfTrailingZeros_0f7a4 75 = .ok (.iload_n 0, 1) by decide +kernel) rfl rfl rfl ?_
    refine tr_iconst (pc' := 77) (v := (1 : Int32)) (show decode cJ6_numberOfTrailingZeros_0f7a4 76 = .ok (.iconst 1, 1) by decide +kernel) rfl (by decide) ?_
    refine tr_iushr (pc' := 78) (show decode cJ6_numberOfTrailingZeros_0f7a4 77 = .ok (.iushr, 1) by decide +kernel) rfl ?_
    refine tr_iadd (pc' := 79) (show decode cJ6_numberOfTrailingZeros_0f7a4 78 = .ok (.iadd, 1) by decide +kernel) rfl ?_
    cases h
    exact tr_iret rfl (show decode cJ6_numberOfTrailingZeros_0f7a4 79 = .ok (.ireturn, 1) by decide +kernel) hL
  · refine tr_icmp_le_f (tgt := 74) (pc' := 67) hc (show decode cJ6_numberOfTrailingZeros_0f7a4 64 = .ok (.if_icmp .le 10, 3) by decide +kernel) (by decide) rfl ?_
    refine tr_iinc (pc' := 70) (v := y1 + (2 : Int32)) (lv' := [some (.int y0), some (.int (y1 + (2 : Int32)))]) (show decode cJ6_numberOfTrailingZeros_0f7a4 67 = .ok (.iinc 1 2, 3) by decide +kernel) rfl rfl rfl (Nat.le_of_ble_eq_true rfl) rfl rfl ?_
    refine tr_iload_n (pc' := 71) (show decode cJ6_numberOfTrailingZeros_0f7a4 70 = .ok (.iload_n 0, 1) by decide +kernel) rfl rfl rfl ?_
    refine tr_iconst (pc' := 72) (v := (2 : Int32)) (show decode cJ6_numberOfTrailingZeros_0f7a4 71 = .ok (.iconst 2, 1) by decide +kernel) rfl (by decide) ?_
    refine tr_iushr (pc' := 73) (show decode cJ6_numberOfTrailingZeros_0f7a4 72 = .ok (.iushr, 1) by decide +kernel) rfl ?_
    obtain ⟨x3, ex3, h⟩ := hm_bs h
    have ex3 := Option.some.inj ex3
    rw [ex3]
    refine tr_istore_n (pc' := 74) (lv' := [some (.int x3), some (.int (y1 + (2 : Int32)))]) (show decode cJ6_numberOfTrailingZeros_0f7a4 73 = .ok (.istore_n 0, 1) by decide +kernel) rfl rfl (Nat.le_of_ble_eq_true rfl) rfl rfl ?_
    refine tr_iload_n (pc' := 75) (show decode cJ6_numberOfTrailingZeros_0f7a4 74 = .ok (.iload_n 1, 1) by decide +kernel) rfl rfl rfl ?_
    refine tr_iload_n (pc' := 76) (show decode cJ6_numberOfTrailingZeros_0f7a4 75 = .ok (.iload_n 0, 1) by decide +kernel) rfl rfl rfl ?_
    refine tr_iconst (pc' := 77) (v := (1 : Int32)) (show decode cJ6_numberOfTrailingZeros_0f7a4 76 = .ok (.iconst 1, 1) by decide +kernel) rfl (by decide) ?_
    refine tr_iushr (pc' := 78) (show decode cJ6_numberOfTrailingZeros_0f7a4 77 = .ok (.iushr, 1) by decide +kernel) rfl ?_
    refine tr_iadd (pc' := 79) (show decode cJ6_numberOfTrailingZeros_0f7a4 78 = .ok (.iadd, 1) by decide +kernel) rfl ?_
    cases h
    exact tr_iret rfl (show decode cJ6_numberOfTrailingZeros_0f7a4 79 = .ok (.ireturn, 1) by decide +kernel) hL
def f_J6_numberOfTrailingZeros_0f7a4_J49 (v0 : Int32) (y0 : Int32) (y1 : Int32) : Option Int32 :=
  (if y0 ≤ (16 : Int32) then
  f_J6_numberOfTrailingZeros_0f7a4_J62 v0 y0 y1
  else
  Option.bind (some ((y0.toUInt32 >>> ((4 : Int32).toUInt32 &&& Int32.toUInt32 31)).toInt32)) fun x4 =>
  f_J6_numberOfTrailingZeros_0f7a4_J62 v0 x4 (y1 + (4 : Int32)))
theorem ok_J6_numberOfTrailingZeros_0f7a4_J49 {fr : Nat} (hfr : 0 ≤ fr) {ν : hm_N} {r : Int32}  (v0 : Int32)    (y0 : Int32) (y1 : Int32) (μ1 : hm_M) (hL : hm_LL ν μ1) (h : f_J6_numberOfTrailingZeros_0f7a4_J49 v0 y0 y1 = some r) : hm_T (hm_LL ν) m_J6_numberOfTrailingZeros_0f7a4 fr 0 0 (some (.int r)) μ1 49 [some (.int y0), some (.int y1)] [] μ1 := by
  unfold f_J6_numberOfTrailingZeros_0f7a4_J49 at h
  refine tr_iload_n (pc' := 50) (show decode cJ6_numberOfTrailingZeros_0f7a4 49 = .ok (.iload_n 0, 1) by decide +kernel) rfl rfl rfl ?_
  refine tr_bipush (pc' := 52) (v := (16 : Int32)) (show decode cJ6_numberOfTrailingZeros_0f7a4 50 = .ok (.bipush 16, 2) by decide +kernel) rfl (by decide) ?_
  rcases hm_is h with ⟨hc, h⟩ | ⟨hc, h⟩
  · refine tr_icmp_le_t (tgt := 62) hc (show decode cJ6_numberOfTrailingZeros_0f7a4 52 = .ok (.if_icmp .le 10, 3) by decide +kernel) (by decide) ?_
    exact ok_J6_numberOfTrailingZeros_0f7a4_J62 hfr _ y0 y1 μ1 hL h
  · refine tr_icmp_le_f (tgt := 62) (pc' := 55) hc (show decode cJ6_numberOfTrailingZeros_0f7a4 52 = .ok (.if_icmp .le 10, 3) by decide +kernel) (by decide) rfl ?_
    refine tr_iinc (pc' := 58) (v := y1 + (4 : Int32)) (lv' := [some (.int y0), some (.int (y1 + (4 : Int32)))]) (show decode cJ6_numberOfTrailingZeros_0f7a4 55 = .ok (.iinc 1 4, 3) by decide +kernel) rfl rfl rfl (Nat.le_of_ble_eq_true rfl) rfl rfl ?_
    refine tr_iload_n (pc' := 59) (show decode cJ6_numberOfTrailingZeros_0f7a4 58 = .ok (.iload_n 0, 1) by decide +kernel) rfl rfl rfl ?_
    refine tr_iconst (pc' := 60) (v := (4 : Int32)) (show decode cJ6_numberOfTrailingZeros_0f7a4 59 = .ok (.iconst 4, 1) by decide +kernel) rfl (by decide) ?_
    refine tr_iushr (pc' := 61) (show decode cJ6_numberOfTrailingZeros_0f7a4 60 = .ok (.iushr, 1) by decide +kernel) rfl ?_
    obtain ⟨x4, ex4, h⟩ := hm_bs h
    have ex4 := Option.some.inj ex4
    rw [ex4]
    refine tr_istore_n (pc' := 62) (lv' := [some (.int x4), some (.int (y1 + (4 : Int32)))]) (show decode cJ6_numberOfTrailingZeros_0f7a4 61 = .ok (.istore_n 0, 1) by decide +kernel) rfl rfl (Nat.le_of_ble_eq_true rfl) rfl rfl ?_
    exact ok_J6_numberOfTrailingZeros_0f7a4_J62 hfr _ x4 (y1 + (4 : Int32)) μ1 hL h
def f_J6_numberOfTrailingZeros_0f7a4_J34 (v0 : Int32) (y0 : Int32) (y1 : Int32) : Option Int32 :=
  (if y0 ≤ (256 : Int32) then
  f_J6_numberOfTrailingZeros_0f7a4_J49 v0 y0 y1
  else
  Option.bind (some ((y0.toUInt32 >>> ((8 : Int32).toUInt32 &&& Int32.toUInt32 31)).toInt32)) fun x5 =>
  f_J6_numberOfTrailingZeros_0f7a4_J49 v0 x5 (y1 + (8 : Int32)))
theorem ok_J6_numberOfTrailingZeros_0f7a4_J34 {fr : Nat} (hfr : 0 ≤ fr) {ν : hm_N} {r : Int32}  (v0 : Int32)    (y0 : Int32) (y1 : Int32) (μ1 : hm_M) (hL : hm_LL ν μ1) (h : f_J6_numberOfTrailingZeros_0f7a4_J34 v0 y0 y1 = some r) : hm_T (hm_LL ν) m_J6_numberOfTrailingZeros_0f7a4 fr 0 0 (some (.int r)) μ1 34 [some (.int y0), some (.int y1)] [] μ1 := by
  unfold f_J6_numberOfTrailingZeros_0f7a4_J34 at h
  refine tr_iload_n (pc' := 35) (show decode cJ6_numberOfTrailingZeros_0f7a4 34 = .ok (.iload_n 0, 1) by decide +kernel) rfl rfl rfl ?_
  refine tr_sipush (pc' := 38) (v := (256 : Int32)) (show decode cJ6_numberOfTrailingZeros_0f7a4 35 = .ok (.sipush 256, 3) by decide +kernel) rfl (by decide) ?_
  rcases hm_is h with ⟨hc, h⟩ | ⟨hc, h⟩
  · refine tr_icmp_le_t (tgt := 49) hc (show decode cJ6_numberOfTrailingZeros_0f7a4 38 = .ok (.if_icmp .le 11, 3) by decide +kernel) (by decide) ?_
    exact ok_J6_numberOfTrailingZeros_0f7a4_J49 hfr _ y0 y1 μ1 hL h
  · refine tr_icmp_le_f (tgt := 49) (pc' := 41) hc (show decode cJ6_numberOfTrailingZeros_0f7a4 38 = .ok (.if_icmp .le 11, 3) by decide +kernel) (by decide) rfl ?_
    refine tr_iinc (pc' := 44) (v := y1 + (8 : Int32)) (lv' := [some (.int y0), some (.int (y1 + (8 : Int32)))]) (show decode cJ6_numberOfTrailingZeros_0f7a4 41 = .ok (.iinc 1 8, 3) by decide +kernel) rfl rfl rfl (Nat.le_of_ble_eq_true rfl) rfl rfl ?_
    refine tr_iload_n (pc' := 45) (show decode cJ6_numberOfTrailingZeros_0f7a4 44 = .ok (.iload_n 0, 1) by decide +kernel) rfl rfl rfl ?_
    refine tr_bipush (pc' := 47) (v := (8 : Int32)) (show decode cJ6_numberOfTrailingZeros_0f7a4 45 = .ok (.bipush 8, 2) by decide +kernel) rfl (by decide) ?_
    refine tr_iushr (pc' := 48) (show decode cJ6_numberOfTrailingZeros_0f7a4 47 = .ok (.iushr, 1) by decide +kernel) rfl ?_
    obtain ⟨x5, ex5, h⟩ := hm_bs h
    have ex5 := Option.some.inj ex5
    rw [ex5]
    refine tr_istore_n (pc' := 49) (lv' := [some (.int x5), some (.int (y1 + (8 : Int32)))]) (show decode cJ6_numberOfTrailingZeros_0f7a4 48 = .ok (.istore_n 0, 1) by decide +kernel) rfl rfl (Nat.le_of_ble_eq_true rfl) rfl rfl ?_
    exact ok_J6_numberOfTrailingZeros_0f7a4_J49 hfr _ x5 (y1 + (8 : Int32)) μ1 hL h
def f_J6_numberOfTrailingZeros_0f7a4 (v0 : Int32) : Option Int32 :=
  Option.bind (some ((v0 ^^^ (-1 : Int32)) &&& (v0 - (1 : Int32)))) fun x2 =>
  (if 0 < x2 then
  (if x2 ≤ (65536 : Int32) then
  f_J6_numberOfTrailingZeros_0f7a4_J34 v0 x2 (1 : Int32)
  else
  Option.bind (some ((x2.toUInt32 >>> ((16 : Int32).toUInt32 &&& Int32.toUInt32 31)).toInt32)) fun x6 =>
  f_J6_numberOfTrailingZeros_0f7a4_J34 v0 x6 ((1 : Int32) + (16 : Int32)))
  else
  some (x2 &&& (32 : Int32)))
set_option maxRecDepth 100000 in
theorem ok_J6_numberOfTrailingZeros_0f7a4 {fr : Nat} (hfr : 0 ≤ fr) {ν : hm_N} {r : Int32}  (v0 : Int32)  (μ : hm_M) (hL : hm_LL ν μ) (h : f_J6_numberOfTrailingZeros_0f7a4 v0 = some r) : hm_CC (hm_LL ν) m_J6_numberOfTrailingZeros_0f7a4 fr 0 0 [.int v0] μ (some (.int r)) μ := by
  refine hm_enter (lv := [some (.int v0), none]) (by decide) rfl (Nat.le_of_ble_eq_true rfl) ?_
  unfold f_J6_numberOfTrailingZeros_0f7a4 at h
  refine tr_iload_n (pc' := 1) (show decode cJ6_numberOfTrailingZeros_0f7a4 0 = .ok (.iload_n 0, 1) by decide +kernel) rfl rfl rfl ?_
  refine tr_iconst (pc' := 2) (v := (-1 : Int32)) (show decode cJ6_numberOfTrailingZeros_0f7a4 1 = .ok (.iconst (-1), 1) by decide +kernel) rfl (by decide) ?_
  refine tr_ixor (pc' := 3) (show decode cJ6_numberOfTrailingZeros_0f7a4 2 = .ok (.ixor, 1) by decide +kernel) rfl ?_
  refine tr_iload_n (pc' := 4) (show decode cJ6_numberOfTrailingZeros_0f7a4 3 = .ok (.iload_n 0, 1) by decide +kernel) rfl rfl rfl ?_
  refine tr_iconst (pc' := 5) (v := (1 : Int32)) (show decode cJ6_numberOfTrailingZeros_0f7a4 4 = .ok (.iconst 1, 1) by decide +kernel) rfl (by decide) ?_
  refine tr_isub (pc' := 6) (show decode cJ6_numberOfTrailingZeros_0f7a4 5 = .ok (.isub, 1) by decide +kernel) rfl ?_
  refine tr_iand (pc' := 7) (show decode cJ6_numberOfTrailingZeros_0f7a4 6 = .ok (.iand, 1) by decide +kernel) rfl ?_
  obtain ⟨x2, ex2, h⟩ := hm_bs h
  have ex2 := Option.some.inj ex2
  rw [ex2]
  refine tr_istore_n (pc' := 8) (lv' := [some (.int x2), none]) (show decode cJ6_numberOfTrailingZeros_0f7a4 7 = .ok (.istore_n 0, 1) by decide +kernel) rfl rfl (Nat.le_of_ble_eq_true rfl) rfl rfl ?_
  refine tr_iload_n (pc' := 9) (show decode cJ6_numberOfTrailingZeros_0f7a4 8 = .ok (.iload_n 0, 1) by decide +kernel) rfl rfl rfl ?_
  rcases hm_is h with ⟨hc, h⟩ | ⟨hc, h⟩
  · refine tr_if_gt_t (tgt := 17) hc (show decode cJ6_numberOfTrailingZeros_0f7a4 9 = .ok (.ifCond .gt 8, 3) by decide +kernel) (by decide) ?_
    refine tr_iconst (pc' := 18) (v := (1 : Int32)) (show decode cJ6_numberOfTrailingZeros_0f7a4 17 = .ok (.iconst 1, 1) by decide +kernel) rfl (by decide) ?_
    refine tr_istore_n (pc' := 19) (lv' := [some (.int x2), some (.int (1 : Int32))]) (show decode cJ6_numberOfTrailingZeros_0f7a4 18 = .ok (.istore_n 1, 1) by decide +kernel) rfl rfl (Nat.le_of_ble_eq_true rfl) rfl rfl ?_
    refine tr_iload_n (pc' := 20) (show decode cJ6_numberOfTrailingZeros_0f7a4 19 = .ok (.iload_n 0, 1) by decide +kernel) rfl rfl rfl ?_
    refine tr_ldcw (pc' := 23) (v := (65536 : Int32)) (show decode cJ6_numberOfTrailingZeros_0f7a4 20 = .ok (.ldc_w 264, 3) by decide +kernel) rfl kc_java_lang_Integer_264 ?_
    rcases hm_is h with ⟨hc, h⟩ | ⟨hc, h⟩
    · refine tr_icmp_le_t (tgt := 34) hc (show decode cJ6_numberOfTrailingZeros_0f7a4 23 = .ok (.if_icmp .le 11, 3) by decide +kernel) (by decide) ?_
      exact ok_J6_numberOfTrailingZeros_0f7a4_J34 hfr _ x2 (1 : Int32) μ hL h
    · refine tr_icmp_le_f (tgt := 34) (pc' := 26) hc (show decode cJ6_numberOfTrailingZeros_0f7a4 23 = .ok (.if_icmp .le 11, 3) by decide +kernel) (by decide) rfl ?_
      refine tr_iinc (pc' := 29) (v := (1 : Int32) + (16 : Int32)) (lv' := [some (.int x2), some (.int ((1 : Int32) + (16 : Int32)))]) (show decode cJ6_numberOfTrailingZeros_0f7a4 26 = .ok (.iinc 1 16, 3) by decide +kernel) rfl rfl rfl (Nat.le_of_ble_eq_true rfl) rfl rfl ?_
      refine tr_iload_n (pc' := 30) (show decode cJ6_numberOfTrailingZeros_0f7a4 29 = .ok (.iload_n 0, 1) by decide +kernel) rfl rfl rfl ?_
      refine tr_bipush (pc' := 32) (v := (16 : Int32)) (show decode cJ6_numberOfTrailingZeros_0f7a4 30 = .ok (.bipush 16, 2) by decide +kernel) rfl (by decide) ?_
      refine tr_iushr (pc' := 33) (show decode cJ6_numberOfTrailingZeros_0f7a4 32 = .ok (.iushr, 1) by decide +kernel) rfl ?_
      obtain ⟨x6, ex6, h⟩ := hm_bs h
      have ex6 := Option.some.inj ex6
      rw [ex6]
      refine tr_istore_n (pc' := 34) (lv' := [some (.int x6), some (.int ((1 : Int32) + (16 : Int32)))]) (show decode cJ6_numberOfTrailingZeros_0f7a4 33 = .ok (.istore_n 0, 1) by decide +kernel) rfl rfl (Nat.le_of_ble_eq_true rfl) rfl rfl ?_
      exact ok_J6_numberOfTrailingZeros_0f7a4_J34 hfr _ x6 ((1 : Int32) + (16 : Int32)) μ hL h
  · refine tr_if_gt_f (tgt := 17) (pc' := 12) hc (show decode cJ6_numberOfTrailingZeros_0f7a4 9 = .ok (.ifCond .gt 8, 3) by decide +kernel) (by decide) rfl ?_
    refine tr_iload_n (pc' := 13) (show decode cJ6_numberOfTrailingZeros_0f7a4 12 = .ok (.iload_n 0, 1) by decide +kernel) rfl rfl rfl ?_
    refine tr_bipush (pc' := 15) (v := (32 : Int32)) (show decode cJ6_numberOfTrailingZeros_0f7a4 13 = .ok (.bipush 32, 2) by decide +kernel) rfl (by decide) ?_
    refine tr_iand (pc' := 16) (show decode cJ6_numberOfTrailingZeros_0f7a4 15 = .ok (.iand, 1) by decide +kernel) rfl ?_
    cases h
    exact tr_iret rfl (show decode cJ6_numberOfTrailingZeros_0f7a4 16 = .ok (.ireturn, 1) by decide +kernel) hL
def f_X0_leastTo (v1 : Int32) (v2 : Int32) (μ : hm_M) : Option Int32 :=
  Option.bind (hm_ld μ 147 2048 ((v1 * (8 : Int32)) + v2)) fun x2 =>
  some x2
set_option maxRecDepth 100000 in
theorem ok_X0_leastTo {fr : Nat} (hfr : 0 ≤ fr) {ν : hm_N} {r : Int32}  (v1 : Int32) (v2 : Int32)  (μ : hm_M) (hL : hm_LL ν μ) (h : f_X0_leastTo v1 v2 μ = some r) : hm_CC (hm_LL ν) m_X0_leastTo fr 0 0 [.ref 145, .int v1, .int v2] μ (some (.int r)) μ := by
  refine hm_enter (lv := [some (.ref 145), some (.int v1), some (.int v2)]) (by decide) rfl (Nat.le_of_ble_eq_true rfl) ?_
  unfold f_X0_leastTo at h
  refine tr_aload_n (pc' := 1) (show decode cX0_leastTo 0 = .ok (.aload_n 0, 1) by decide +kernel) rfl rfl rfl ?_
  refine tr_getR (pc' := 4) fl_HandRing_Circle_15 (show decode cX0_leastTo 1 = .ok (.getfield 15, 3) by decide +kernel) rfl (la_o hL (by decide) rfl) (la_r hL 92 rfl) ?_
  refine tr_iload_n (pc' := 5) (show decode cX0_leastTo 4 = .ok (.iload_n 1, 1) by decide +kernel) rfl rfl rfl ?_
  refine tr_bipush (pc' := 7) (v := (8 : Int32)) (show decode cX0_leastTo 5 = .ok (.bipush 8, 2) by decide +kernel) rfl (by decide) ?_
  refine tr_imul (pc' := 8) (show decode cX0_leastTo 7 = .ok (.imul, 1) by decide +kernel) rfl ?_
  refine tr_iload_n (pc' := 9) (show decode cX0_leastTo 8 = .ok (.iload_n 2, 1) by decide +kernel) rfl rfl rfl ?_
  refine tr_iadd (pc' := 10) (show decode cX0_leastTo 9 = .ok (.iadd, 1) by decide +kernel) rfl ?_
  obtain ⟨x2, ex2, h⟩ := hm_bs h
  refine tp_ldI (pc' := 11) (show decode cX0_leastTo 10 = .ok (.iaload, 1) by decide +kernel) rfl (la_a hL (by decide) rfl) ex2 ?_
  cases h
  exact tr_iret rfl (show decode cX0_leastTo 11 = .ok (.ireturn, 1) by decide +kernel) hL
def f_X0_together (v1 : Int32) (v2 : Int32) (μ : hm_M) : Option Int32 :=
  (if (μ.1 145 6) = 0 then
  some (v1 + v2)
  else
  some (if v1 < v2 then v2 else v1))
set_option maxRecDepth 100000 in
theorem ok_X0_together {fr : Nat} (hfr : 1 ≤ fr) {ν : hm_N} {r : Int32}  (v1 : Int32) (v2 : Int32)  (μ : hm_M) (hL : hm_LL ν μ) (h : f_X0_together v1 v2 μ = some r) : hm_CC (hm_LL ν) m_X0_together fr 0 0 [.ref 145, .int v1, .int v2] μ (some (.int r)) μ := by
  refine hm_enter (lv := [some (.ref 145), some (.int v1), some (.int v2)]) (by decide) rfl (Nat.le_of_ble_eq_true rfl) ?_
  unfold f_X0_together at h
  refine tr_aload_n (pc' := 1) (show decode cX0_together 0 = .ok (.aload_n 0, 1) by decide +kernel) rfl rfl rfl ?_
  refine tr_getI (pc' := 4) fl_HandRing_Circle_88 (show decode cX0_together 1 = .ok (.getfield 88, 3) by decide +kernel) rfl (la_o hL (by decide) rfl) ?_
  rcases hm_is h with ⟨hc, h⟩ | ⟨hc, h⟩
  · refine tr_if_eq_t (tgt := 15) hc (show decode cX0_together 4 = .ok (.ifCond .eq 11, 3) by decide +kernel) (by decide) ?_
    refine tr_iload_n (pc' := 16) (show decode cX0_together 15 = .ok (.iload_n 1, 1) by decide +kernel) rfl rfl rfl ?_
    refine tr_iload_n (pc' := 17) (show decode cX0_together 16 = .ok (.iload_n 2, 1) by decide +kernel) rfl rfl rfl ?_
    refine tr_iadd (pc' := 18) (show decode cX0_together 17 = .ok (.iadd, 1) by decide +kernel) rfl ?_
    cases h
    exact tr_iret rfl (show decode cX0_together 18 = .ok (.ireturn, 1) by decide +kernel) hL
  · refine tr_if_eq_f (tgt := 15) (pc' := 7) hc (show decode cX0_together 4 = .ok (.ifCond .eq 11, 3) by decide +kernel) (by decide) rfl ?_
    refine tr_iload_n (pc' := 8) (show decode cX0_together 7 = .ok (.iload_n 1, 1) by decide +kernel) rfl rfl rfl ?_
    refine tr_iload_n (pc' := 9) (show decode cX0_together 8 = .ok (.iload_n 2, 1) by decide +kernel) rfl rfl rfl ?_
    refine tr_max (pc' := 12) lk_HandRing_Circle_157 kw_max_s kw_Math_i kw_max_c (show decode cX0_together 9 = .ok (.invokestatic 157, 3) by decide +kernel) rfl (Nat.le_of_ble_eq_true rfl) (by omega) ?_
    refine tr_goto (tgt := 18) (show decode cX0_together 12 = .ok (.goto 6, 3) by decide +kernel) rfl ?_
    cases h
    exact tr_iret rfl (show decode cX0_together 18 = .ok (.ireturn, 1) by decide +kernel) hL
def f_X0_goFurther_J81 (v1 : Int32) (v2 : Int32) (v3 : Int32) (w26_4 : Int32) (w26_5 : Int32) (c26 : Int32 → hm_M → Option hm_M) (e87 : hm_M → Option hm_M) (y6 : Int32) (μ1 : hm_M) : Option hm_M :=
  c26 (y6 + (1 : Int32)) μ1
theorem ok_X0_goFurther_J81 {fr : Nat} (hfr : 2 ≤ fr) {ν : hm_N} {μR : hm_M}  (v1 : Int32) (v2 : Int32) (v3 : Int32) (w26_4 : Int32) (w26_5 : Int32) (c26 : Int32 → hm_M → Option hm_M) (e87 : hm_M → Option hm_M) (hc26 : ∀ (y6 : Int32)  (μ1 : hm_M), hm_LL ν μ1 → c26 y6 μ1 = some μR → hm_T (hm_LL ν) m_X0_goFurther fr 0 0 none μR 26 [some (.ref 145), some (.int v1), none, some (.int v3), some (.int w26_4), some (.int w26_5), some (.int y6), none] [] μ1) (he87 : ∀   (μ1 : hm_M), hm_LL ν μ1 → e87 μ1 = some μR → hm_T (hm_LL ν) m_X0_goFurther fr 0 0 none μR 87 [none, none, none, none, none, none, none, none] [] μ1)  (y6 : Int32) (μ1 : hm_M) (hL : hm_LL ν μ1) (h : f_X0_goFurther_J81 v1 v2 v3 w26_4 w26_5 c26 e87 y6 μ1 = some μR) : hm_T (hm_LL ν) m_X0_goFurther fr 0 0 none μR 81 [some (.ref 145), some (.int v1), none, some (.int v3), some (.int w26_4), some (.int w26_5), some (.int y6), none] [] μ1 := by
  unfold f_X0_goFurther_J81 at h
  refine tr_iinc (pc' := 84) (v := y6 + (1 : Int32)) (lv' := [some (.ref 145), some (.int v1), none, some (.int v3), some (.int w26_4), some (.int w26_5), some (.int (y6 + (1 : Int32))), none]) (show decode cX0_goFurther 81 = .ok (.iinc 6 1, 3) by decide +kernel) rfl rfl rfl (Nat.le_of_ble_eq_true rfl) rfl rfl ?_
  refine tr_goto (tgt := 26) (show decode cX0_goFurther 84 = .ok (.goto (-58), 3) by decide +kernel) rfl ?_
  exact hc26 (y6 + (1 : Int32)) μ1 hL h
def f_X0_goFurther_L26 (v1 : Int32) (v2 : Int32) (v3 : Int32) (w26_4 : Int32) (w26_5 : Int32) (e87 : hm_M → Option hm_M) : Nat → Int32 → hm_M → Option hm_M
  | 0, _, _ => none
  | n + 1, y6, μ1 => (if (μ1.1 145 5) ≤ y6 then
  e87 μ1
  else
  Option.bind (f_X0_costBetween v3 y6 μ1) fun x4 =>
  (if ((v1 >>> (y6 &&& 31)) &&& (1 : Int32)) = 0 then
  (if x4 = (-1 : Int32) then
  f_X0_goFurther_J81 v1 v2 v3 w26_4 w26_5 (f_X0_goFurther_L26 v1 v2 v3 w26_4 w26_5 e87 n) e87 y6 μ1
  else
  Option.bind (f_X0_together w26_4 x4 μ1) fun x5 =>
  Option.bind (f_X0_offer (v1 ||| ((1 : Int32) <<< (y6 &&& 31))) y6 x5 w26_5 μ1) fun μ7 =>
  f_X0_goFurther_J81 v1 v2 v3 w26_4 w26_5 (f_X0_goFurther_L26 v1 v2 v3 w26_4 w26_5 e87 n) e87 y6 μ7)
  else
  f_X0_goFurther_J81 v1 v2 v3 w26_4 w26_5 (f_X0_goFurther_L26 v1 v2 v3 w26_4 w26_5 e87 n) e87 y6 μ1))
theorem ok_X0_goFurther_L26 {fr : Nat} (hfr : 2 ≤ fr) {ν : hm_N} {μR : hm_M}  (v1 : Int32) (v2 : Int32) (v3 : Int32) (w26_4 : Int32) (w26_5 : Int32) (e87 : hm_M → Option hm_M)  (he87 : ∀   (μ1 : hm_M), hm_LL ν μ1 → e87 μ1 = some μR → hm_T (hm_LL ν) m_X0_goFurther fr 0 0 none μR 87 [none, none, none, none, none, none, none, none] [] μ1)  : ∀ (n : Nat) (y6 : Int32)  (μ1 : hm_M), hm_LL ν μ1 → f_X0_goFurther_L26 v1 v2 v3 w26_4 w26_5 e87 n y6 μ1 = some μR → hm_T (hm_LL ν) m_X0_goFurther fr 0 0 none μR 26 [some (.ref 145), some (.int v1), none, some (.int v3), some (.int w26_4), some (.int w26_5), some (.int y6), none] [] μ1 := by
  intro n
  induction n with
  | zero =>
    intro y6 μ1 hL h
    unfold f_X0_goFurther_L26 at h
    cases h
  | succ n ih =>
    intro y6 μ1 hL h
    unfold f_X0_goFurther_L26 at h
    refine tr_iload (pc' := 28) (show decode cX0_goFurther 26 = .ok (.iload 6, 2) by decide +kernel) rfl rfl ?_
    refine tr_aload_n (pc' := 29) (show decode cX0_goFurther 28 = .ok (.aload_n 0, 1) by decide +kernel) rfl rfl rfl ?_
    refine tr_getI (pc' := 32) fl_HandRing_Circle_28 (show decode cX0_goFurther 29 = .ok (.getfield 28, 3) by decide +kernel) rfl (la_o hL (by decide) rfl) ?_
    rcases hm_is h with ⟨hc, h⟩ | ⟨hc, h⟩
    · refine tr_icmp_ge_t (tgt := 87) hc (show decode cX0_goFurther 32 = .ok (.if_icmp .ge 55, 3) by decide +kernel) (by decide) ?_
      refine hm_fgt [false, false, false, false, false, false, false, false] (lv' := [none, none, none, none, none, none, none, none]) rfl ?_
      exact he87 μ1 hL h
    · refine tr_icmp_ge_f (tgt := 87) (pc' := 35) hc (show decode cX0_goFurther 32 = .ok (.if_icmp .ge 55, 3) by decide +kernel) (by decide) rfl ?_
      refine tr_aload_n (pc' := 36) (show decode cX0_goFurther 35 = .ok (.aload_n 0, 1) by decide +kernel) rfl rfl rfl ?_
      refine tr_iload_n (pc' := 37) (show decode cX0_goFurther 36 = .ok (.iload_n 3, 1) by decide +kernel) rfl rfl rfl ?_
      refine tr_iload (pc' := 39) (show decode cX0_goFurther 37 = .ok (.iload 6, 2) by decide +kernel) rfl rfl ?_
      obtain ⟨x4, ex4, h⟩ := hm_bs h
      have cx4 := ok_X0_costBetween (fr := fr - 1) (ν := ν) (by omega) v3 y6 μ1 hL ex4
      refine tp_callV (pc' := 42) (As := [.int v3, .int y6]) (fr1 := fr - 1) (ci := 0) okm_X0_costBetween lk_HandRing_Circle_73 (show decode cX0_goFurther 39 = .ok (.invokevirtual 73, 3) by decide +kernel) rfl rfl rfl (by decide) (la_o hL (by decide) rfl) rfl rfl (Nat.le_of_ble_eq_true rfl) (by omega) cx4 (st' := [.int x4]) rfl ?_
      refine tr_istore (pc' := 44) (lv' := [some (.ref 145), some (.int v1), none, some (.int v3), some (.int w26_4), some (.int w26_5), some (.int y6), some (.int x4)]) (show decode cX0_goFurther 42 = .ok (.istore 7, 2) by decide +kernel) rfl (Nat.le_of_ble_eq_true rfl) rfl rfl ?_
      refine tr_iload_n (pc' := 45) (show decode cX0_goFurther 44 = .ok (.iload_n 1, 1) by decide +kernel) rfl rfl rfl ?_
      refine tr_iload (pc' := 47) (show decode cX0_goFurther 45 = .ok (.iload 6, 2) by decide +kernel) rfl rfl ?_
      refine tr_ishr (pc' := 48) (show decode cX0_goFurther 47 = .ok (.ishr, 1) by decide +kernel) rfl ?_
      refine tr_iconst (pc' := 49) (v := (1 : Int32)) (show decode cX0_goFurther 48 = .ok (.iconst 1, 1) by decide +kernel) rfl (by decide) ?_
      refine tr_iand (pc' := 50) (show decode cX0_goFurther 49 = .ok (.iand, 1) by decide +kernel) rfl ?_
      rcases hm_is h with ⟨hc, h⟩ | ⟨hc, h⟩
      · refine tr_if_ne_f (tgt := 81) (pc' := 53) hc (show decode cX0_goFurther 50 = .ok (.ifCond .ne 31, 3) by decide +kernel) (by decide) rfl ?_
        refine tr_iload (pc' := 55) (show decode cX0_goFurther 53 = .ok (.iload 7, 2) by decide +kernel) rfl rfl ?_
        refine tr_iconst (pc' := 56) (v := (-1 : Int32)) (show decode cX0_goFurther 55 = .ok (.iconst (-1), 1) by decide +kernel) rfl (by decide) ?_
        rcases hm_is h with ⟨hc, h⟩ | ⟨hc, h⟩
        · refine tr_icmp_eq_t (tgt := 81) hc (show decode cX0_goFurther 56 = .ok (.if_icmp .eq 25, 3) by decide +kernel) (by decide) ?_
          refine hm_fgt [true, true, false, true, true, true, true, false] (lv' := [some (.ref 145), some (.int v1), none, some (.int v3), some (.int w26_4), some (.int w26_5), some (.int y6), none]) rfl ?_
          exact ok_X0_goFurther_J81 hfr _ _ _ w26_4 w26_5 (f_X0_goFurther_L26 v1 v2 v3 w26_4 w26_5 e87 n) e87 ih he87 y6 μ1 hL h
        · refine tr_icmp_eq_f (tgt := 81) (pc' := 59) hc (show decode cX0_goFurther 56 = .ok (.if_icmp .eq 25, 3) by decide +kernel) (by decide) rfl ?_
          refine tr_aload_n (pc' := 60) (show decode cX0_goFurther 59 = .ok (.aload_n 0, 1) by decide +kernel) rfl rfl rfl ?_
          refine tr_iload_n (pc' := 61) (show decode cX0_goFurther 60 = .ok (.iload_n 1, 1) by decide +kernel) rfl rfl rfl ?_
          refine tr_iconst (pc' := 62) (v := (1 : Int32)) (show decode cX0_goFurther 61 = .ok (.iconst 1, 1) by decide +kernel) rfl (by decide) ?_
          refine tr_iload (pc' := 64) (show decode cX0_goFurther 62 = .ok (.iload 6, 2) by decide +kernel) rfl rfl ?_
          refine tr_ishl (pc' := 65) (show decode cX0_goFurther 64 = .ok (.ishl, 1) by decide +kernel) rfl ?_
          refine tr_ior (pc' := 66) (show decode cX0_goFurther 65 = .ok (.ior, 1) by decide +kernel) rfl ?_
          refine tr_iload (pc' := 68) (show decode cX0_goFurther 66 = .ok (.iload 6, 2) by decide +kernel) rfl rfl ?_
          refine tr_aload_n (pc' := 69) (show decode cX0_goFurther 68 = .ok (.aload_n 0, 1) by decide +kernel) rfl rfl rfl ?_
          refine tr_iload (pc' := 71) (show decode cX0_goFurther 69 = .ok (.iload 4, 2) by decide +kernel) rfl rfl ?_
          refine tr_iload (pc' := 73) (show decode cX0_goFurther 71 = .ok (.iload 7, 2) by decide +kernel) rfl rfl ?_
          obtain ⟨x5, ex5, h⟩ := hm_bs h
          have cx5 := ok_X0_together (fr := fr - 1) (ν := ν) (by omega) w26_4 x4 μ1 hL ex5
          refine tp_callV (pc' := 76) (As := [.int w26_4, .int x4]) (fr1 := fr - 1) (ci := 0) okm_X0_together lk_HandRing_Circle_115 (show decode cX0_goFurther 73 = .ok (.invokevirtual 115, 3) by decide +kernel) rfl rfl rfl (by decide) (la_o hL (by decide) rfl) rfl rfl (Nat.le_of_ble_eq_true rfl) (by omega) cx5 (st' := [.int x5, .int y6, .int (v1 ||| ((1 : Int32) <<< (y6 &&& 31))), .ref 145]) rfl ?_
          refine tr_iload (pc' := 78) (show decode cX0_goFurther 76 = .ok (.iload 5, 2) by decide +kernel) rfl rfl ?_
          obtain ⟨μ7, ex6, h⟩ := hm_bs h
          have cx6 := ok_X0_offer (fr := fr - 1) (ν := ν) (by omega) (v1 ||| ((1 : Int32) <<< (y6 &&& 31))) y6 x5 w26_5 μ1 hL ex6
          refine tp_callV (pc' := 81) (As := [.int (v1 ||| ((1 : Int32) <<< (y6 &&& 31))), .int y6, .int x5, .int w26_5]) (fr1 := fr - 1) (ci := 0) okm_X0_offer lk_HandRing_Circle_99 (show decode cX0_goFurther 78 = .ok (.invokevirtual 99, 3) by decide +kernel) rfl rfl rfl (by decide) (la_o hL (by decide) rfl) rfl rfl (Nat.le_of_ble_eq_true rfl) (by omega) cx6 (st' := []) rfl ?_
          replace hL := cx6.1
          refine hm_fgt [true, true, false, true, true, true, true, false] (lv' := [some (.ref 145), some (.int v1), none, some (.int v3), some (.int w26_4), some (.int w26_5), some (.int y6), none]) rfl ?_
          exact ok_X0_goFurther_J81 hfr _ _ _ w26_4 w26_5 (f_X0_goFurther_L26 v1 v2 v3 w26_4 w26_5 e87 n) e87 ih he87 y6 μ7 hL h
      · refine tr_if_ne_t (tgt := 81) hc (show decode cX0_goFurther 50 = .ok (.ifCond .ne 31, 3) by decide +kernel) (by decide) ?_
        refine hm_fgt [true, true, false, true, true, true, true, false] (lv' := [some (.ref 145), some (.int v1), none, some (.int v3), some (.int w26_4), some (.int w26_5), some (.int y6), none]) rfl ?_
        exact ok_X0_goFurther_J81 hfr _ _ _ w26_4 w26_5 (f_X0_goFurther_L26 v1 v2 v3 w26_4 w26_5 e87 n) e87 ih he87 y6 μ1 hL h
def f_X0_goFurther (v1 : Int32) (v2 : Int32) (v3 : Int32) (μ : hm_M) : Option hm_M :=
  Option.bind (f_X0_leastTo v1 v3 μ) fun x2 =>
  Option.bind (hm_ld μ 148 2048 ((v1 * (8 : Int32)) + v3)) fun x3 =>
  f_X0_goFurther_L26 v1 v2 v3 x2 x3 (fun μz8 => some μz8) hm_fu (v2 + (1 : Int32)) μ
set_option maxRecDepth 100000 in
theorem ok_X0_goFurther {fr : Nat} (hfr : 2 ≤ fr) {ν : hm_N} {μR : hm_M}  (v1 : Int32) (v2 : Int32) (v3 : Int32)  (μ : hm_M) (hL : hm_LL ν μ) (h : f_X0_goFurther v1 v2 v3 μ = some μR) : hm_CC (hm_LL ν) m_X0_goFurther fr 0 0 [.ref 145, .int v1, .int v2, .int v3] μ none μR := by
  refine hm_enter (lv := [some (.ref 145), some (.int v1), some (.int v2), some (.int v3), none, none, none, none]) (by decide) rfl (Nat.le_of_ble_eq_true rfl) ?_
  unfold f_X0_goFurther at h
  refine tr_aload_n (pc' := 1) (show decode cX0_goFurther 0 = .ok (.aload_n 0, 1) by decide +kernel) rfl rfl rfl ?_
  refine tr_iload_n (pc' := 2) (show decode cX0_goFurther 1 = .ok (.iload_n 1, 1) by decide +kernel) rfl rfl rfl ?_
  refine tr_iload_n (pc' := 3) (show decode cX0_goFurther 2 = .ok (.iload_n 3, 1) by decide +kernel) rfl rfl rfl ?_
  obtain ⟨x2, ex2, h⟩ := hm_bs h
  have cx2 := ok_X0_leastTo (fr := fr - 1) (ν := ν) (by omega) v1 v3 μ hL ex2
  refine tp_callV (pc' := 6) (As := [.int v1, .int v3]) (fr1 := fr - 1) (ci := 0) okm_X0_leastTo lk_HandRing_Circle_109 (show decode cX0_goFurther 3 = .ok (.invokevirtual 109, 3) by decide +kernel) rfl rfl rfl (by decide) (la_o hL (by decide) rfl) rfl rfl (Nat.le_of_ble_eq_true rfl) (by omega) cx2 (st' := [.int x2]) rfl ?_
  refine tr_istore (pc' := 8) (lv' := [some (.ref 145), some (.int v1), some (.int v2), some (.int v3), some (.int x2), none, none, none]) (show decode cX0_goFurther 6 = .ok (.istore 4, 2) by decide +kernel) rfl (Nat.le_of_ble_eq_true rfl) rfl rfl ?_
  refine tr_aload_n (pc' := 9) (show decode cX0_goFurther 8 = .ok (.aload_n 0, 1) by decide +kernel) rfl rfl rfl ?_
  refine tr_getR (pc' := 12) fl_HandRing_Circle_18 (show decode cX0_goFurther 9 = .ok (.getfield 18, 3) by decide +kernel) rfl (la_o hL (by decide) rfl) (la_r hL 93 rfl) ?_
  refine tr_iload_n (pc' := 13) (show decode cX0_goFurther 12 = .ok (.iload_n 1, 1) by decide +kernel) rfl rfl rfl ?_
  refine tr_bipush (pc' := 15) (v := (8 : Int32)) (show decode cX0_goFurther 13 = .ok (.bipush 8, 2) by decide +kernel) rfl (by decide) ?_
  refine tr_imul (pc' := 16) (show decode cX0_goFurther 15 = .ok (.imul, 1) by decide +kernel) rfl ?_
  refine tr_iload_n (pc' := 17) (show decode cX0_goFurther 16 = .ok (.iload_n 3, 1) by decide +kernel) rfl rfl rfl ?_
  refine tr_iadd (pc' := 18) (show decode cX0_goFurther 17 = .ok (.iadd, 1) by decide +kernel) rfl ?_
  obtain ⟨x3, ex3, h⟩ := hm_bs h
  refine tp_ldI (pc' := 19) (show decode cX0_goFurther 18 = .ok (.iaload, 1) by decide +kernel) rfl (la_a hL (by decide) rfl) ex3 ?_
  refine tr_istore (pc' := 21) (lv' := [some (.ref 145), some (.int v1), some (.int v2), some (.int v3), some (.int x2), some (.int x3), none, none]) (show decode cX0_goFurther 19 = .ok (.istore 5, 2) by decide +kernel) rfl (Nat.le_of_ble_eq_true rfl) rfl rfl ?_
  refine tr_iload_n (pc' := 22) (show decode cX0_goFurther 21 = .ok (.iload_n 2, 1) by decide +kernel) rfl rfl rfl ?_
  refine tr_iconst (pc' := 23) (v := (1 : Int32)) (show decode cX0_goFurther 22 = .ok (.iconst 1, 1) by decide +kernel) rfl (by decide) ?_
  refine tr_iadd (pc' := 24) (show decode cX0_goFurther 23 = .ok (.iadd, 1) by decide +kernel) rfl ?_
  refine tr_istore (pc' := 26) (lv' := [some (.ref 145), some (.int v1), some (.int v2), some (.int v3), some (.int x2), some (.int x3), some (.int (v2 + (1 : Int32))), none]) (show decode cX0_goFurther 24 = .ok (.istore 6, 2) by decide +kernel) rfl (Nat.le_of_ble_eq_true rfl) rfl rfl ?_
  refine hm_fgt [true, true, false, true, true, true, true, false] (lv' := [some (.ref 145), some (.int v1), none, some (.int v3), some (.int x2), some (.int x3), some (.int (v2 + (1 : Int32))), none]) rfl ?_
  refine ok_X0_goFurther_L26 hfr _ _ _ x2 x3 _ ?_ _ (v2 + (1 : Int32)) μ hL h
  · intro μz8 hL h
    cases h
    exact tr_vret rfl (show decode cX0_goFurther 87 = .ok (.return_, 1) by decide +kernel) hL
def f_X0_solve_L31 (v1 : Int32) (w31_2 : Int32) (e55 : hm_M → Option hm_M) : Nat → Int32 → hm_M → Option hm_M
  | 0, _, _ => none
  | n + 1, y3, μ1 => (if (μ1.1 145 5) ≤ y3 then
  e55 μ1
  else
  Option.bind (f_X0_offer ((1 : Int32) <<< (y3 &&& 31)) y3 (0 : Int32) (1 : Int32) μ1) fun μ9 =>
  (f_X0_solve_L31 v1 w31_2 e55 n) (y3 + (1 : Int32)) μ9)
theorem ok_X0_solve_L31 {fr : Nat} (hfr : 3 ≤ fr) {ν : hm_N} {μR : hm_M}  (v1 : Int32) (w31_2 : Int32) (e55 : hm_M → Option hm_M)  (he55 : ∀   (μ1 : hm_M), hm_LL ν μ1 → e55 μ1 = some μR → hm_T (hm_LL ν) m_X0_solve fr 0 0 none μR 55 [some (.ref 145), none, some (.int w31_2), none, none, none] [] μ1)  : ∀ (n : Nat) (y3 : Int32)  (μ1 : hm_M), hm_LL ν μ1 → f_X0_solve_L31 v1 w31_2 e55 n y3 μ1 = some μR → hm_T (hm_LL ν) m_X0_solve fr 0 0 none μR 31 [some (.ref 145), none, some (.int w31_2), some (.int y3), none, none] [] μ1 := by
  intro n
  induction n with
  | zero =>
    intro y3 μ1 hL h
    unfold f_X0_solve_L31 at h
    cases h
  | succ n ih =>
    intro y3 μ1 hL h
    unfold f_X0_solve_L31 at h
    refine tr_iload_n (pc' := 32) (show decode cX0_solve 31 = .ok (.iload_n 3, 1) by decide +kernel) rfl rfl rfl ?_
    refine tr_aload_n (pc' := 33) (show decode cX0_solve 32 = .ok (.aload_n 0, 1) by decide +kernel) rfl rfl rfl ?_
    refine tr_getI (pc' := 36) fl_HandRing_Circle_28 (show decode cX0_solve 33 = .ok (.getfield 28, 3) by decide +kernel) rfl (la_o hL (by decide) rfl) ?_
    rcases hm_is h with ⟨hc, h⟩ | ⟨hc, h⟩
    · refine tr_icmp_ge_t (tgt := 55) hc (show decode cX0_solve 36 = .ok (.if_icmp .ge 19, 3) by decide +kernel) (by decide) ?_
      refine hm_fgt [true, false, true, false, false, false] (lv' := [some (.ref 145), none, some (.int w31_2), none, none, none]) rfl ?_
      exact he55 μ1 hL h
    · refine tr_icmp_ge_f (tgt := 55) (pc' := 39) hc (show decode cX0_solve 36 = .ok (.if_icmp .ge 19, 3) by decide +kernel) (by decide) rfl ?_
      refine tr_aload_n (pc' := 40) (show decode cX0_solve 39 = .ok (.aload_n 0, 1) by decide +kernel) rfl rfl rfl ?_
      refine tr_iconst (pc' := 41) (v := (1 : Int32)) (show decode cX0_solve 40 = .ok (.iconst 1, 1) by decide +kernel) rfl (by decide) ?_
      refine tr_iload_n (pc' := 42) (show decode cX0_solve 41 = .ok (.iload_n 3, 1) by decide +kernel) rfl rfl rfl ?_
      refine tr_ishl (pc' := 43) (show decode cX0_solve 42 = .ok (.ishl, 1) by decide +kernel) rfl ?_
      refine tr_iload_n (pc' := 44) (show decode cX0_solve 43 = .ok (.iload_n 3, 1) by decide +kernel) rfl rfl rfl ?_
      refine tr_iconst (pc' := 45) (v := (0 : Int32)) (show decode cX0_solve 44 = .ok (.iconst 0, 1) by decide +kernel) rfl (by decide) ?_
      refine tr_iconst (pc' := 46) (v := (1 : Int32)) (show decode cX0_solve 45 = .ok (.iconst 1, 1) by decide +kernel) rfl (by decide) ?_
      obtain ⟨μ9, ex8, h⟩ := hm_bs h
      have cx8 := ok_X0_offer (fr := fr - 1) (ν := ν) (by omega) ((1 : Int32) <<< (y3 &&& 31)) y3 (0 : Int32) (1 : Int32) μ1 hL ex8
      refine tp_callV (pc' := 49) (As := [.int ((1 : Int32) <<< (y3 &&& 31)), .int y3, .int (0 : Int32), .int (1 : Int32)]) (fr1 := fr - 1) (ci := 0) okm_X0_offer lk_HandRing_Circle_99 (show decode cX0_solve 46 = .ok (.invokevirtual 99, 3) by decide +kernel) rfl rfl rfl (by decide) (la_o hL (by decide) rfl) rfl rfl (Nat.le_of_ble_eq_true rfl) (by omega) cx8 (st' := []) rfl ?_
      replace hL := cx8.1
      refine tr_iinc (pc' := 52) (v := y3 + (1 : Int32)) (lv' := [some (.ref 145), none, some (.int w31_2), some (.int (y3 + (1 : Int32))), none, none]) (show decode cX0_solve 49 = .ok (.iinc 3 1, 3) by decide +kernel) rfl rfl rfl (Nat.le_of_ble_eq_true rfl) rfl rfl ?_
      refine tr_goto (tgt := 31) (show decode cX0_solve 52 = .ok (.goto (-21), 3) by decide +kernel) rfl ?_
      exact ih (y3 + (1 : Int32)) μ9 hL h
def f_X0_solve_J102 (v1 : Int32) (w57_2 : Int32) (w72_3 : Int32) (w72_4 : Int32) (c57 : Int32 → hm_M → Option hm_M) (e114 : hm_M → Option hm_M) (c72 : Int32 → hm_M → Option hm_M) (e108 : hm_M → Option hm_M) (y5 : Int32) (μ1 : hm_M) : Option hm_M :=
  c72 (y5 + (1 : Int32)) μ1
theorem ok_X0_solve_J102 {fr : Nat} (hfr : 3 ≤ fr) {ν : hm_N} {μR : hm_M}  (v1 : Int32) (w57_2 : Int32) (w72_3 : Int32) (w72_4 : Int32) (c57 : Int32 → hm_M → Option hm_M) (e114 : hm_M → Option hm_M) (c72 : Int32 → hm_M → Option hm_M) (e108 : hm_M → Option hm_M) (hc57 : ∀ (y3 : Int32)  (μ1 : hm_M), hm_LL ν μ1 → c57 y3 μ1 = some μR → hm_T (hm_LL ν) m_X0_solve fr 0 0 none μR 57 [some (.ref 145), none, some (.int w57_2), some (.int y3), none, none] [] μ1) (he114 : ∀   (μ1 : hm_M), hm_LL ν μ1 → e114 μ1 = some μR → hm_T (hm_LL ν) m_X0_solve fr 0 0 none μR 114 [none, none, none, none, none, none] [] μ1) (hc72 : ∀ (y5 : Int32)  (μ1 : hm_M), hm_LL ν μ1 → c72 y5 μ1 = some μR → hm_T (hm_LL ν) m_X0_solve fr 0 0 none μR 72 [some (.ref 145), none, some (.int w57_2), some (.int w72_3), some (.int w72_4), some (.int y5)] [] μ1) (he108 : ∀   (μ1 : hm_M), hm_LL ν μ1 → e108 μ1 = some μR → hm_T (hm_LL ν) m_X0_solve fr 0 0 none μR 108 [some (.ref 145), none, some (.int w57_2), some (.int w72_3), none, none] [] μ1)  (y5 : Int32) (μ1 : hm_M) (hL : hm_LL ν μ1) (h : f_X0_solve_J102 v1 w57_2 w72_3 w72_4 c57 e114 c72 e108 y5 μ1 = some μR) : hm_T (hm_LL ν) m_X0_solve fr 0 0 none μR 102 [some (.ref 145), none, some (.int w57_2), some (.int w72_3), some (.int w72_4), some (.int y5)] [] μ1 := by
  unfold f_X0_solve_J102 at h
  refine tr_iinc (pc' := 105) (v := y5 + (1 : Int32)) (lv' := [some (.ref 145), none, some (.int w57_2), some (.int w72_3), some (.int w72_4), some (.int (y5 + (1 : Int32)))]) (show decode cX0_solve 102 = .ok (.iinc 5 1, 3) by decide +kernel) rfl rfl rfl (Nat.le_of_ble_eq_true rfl) rfl rfl ?_
  refine tr_goto (tgt := 72) (show decode cX0_solve 105 = .ok (.goto (-33), 3) by decide +kernel) rfl ?_
  exact hc72 (y5 + (1 : Int32)) μ1 hL h
def f_X0_solve_L72 (v1 : Int32) (w57_2 : Int32) (w72_3 : Int32) (w72_4 : Int32) (c57 : Int32 → hm_M → Option hm_M) (e114 : hm_M → Option hm_M) (e108 : hm_M → Option hm_M) : Nat → Int32 → hm_M → Option hm_M
  | 0, _, _ => none
  | n + 1, y5, μ1 => (if (μ1.1 145 5) ≤ y5 then
  e108 μ1
  else
  Option.bind (f_X0_leastTo w72_3 y5 μ1) fun x12 =>
  (if (1000000 : Int32) ≤ x12 then
  f_X0_solve_J102 v1 w57_2 w72_3 w72_4 c57 e114 (f_X0_solve_L72 v1 w57_2 w72_3 w72_4 c57 e114 e108 n) e108 y5 μ1
  else
  Option.bind (f_X0_goFurther w72_3 w72_4 y5 μ1) fun μ14 =>
  f_X0_solve_J102 v1 w57_2 w72_3 w72_4 c57 e114 (f_X0_solve_L72 v1 w57_2 w72_3 w72_4 c57 e114 e108 n) e108 y5 μ14))
theorem ok_X0_solve_L72 {fr : Nat} (hfr : 3 ≤ fr) {ν : hm_N} {μR : hm_M}  (v1 : Int32) (w57_2 : Int32) (w72_3 : Int32) (w72_4 : Int32) (c57 : Int32 → hm_M → Option hm_M) (e114 : hm_M → Option hm_M) (e108 : hm_M → Option hm_M) (hc57 : ∀ (y3 : Int32)  (μ1 : hm_M), hm_LL ν μ1 → c57 y3 μ1 = some μR → hm_T (hm_LL ν) m_X0_solve fr 0 0 none μR 57 [some (.ref 145), none, some (.int w57_2), some (.int y3), none, none] [] μ1) (he114 : ∀   (μ1 : hm_M), hm_LL ν μ1 → e114 μ1 = some μR → hm_T (hm_LL ν) m_X0_solve fr 0 0 none μR 114 [none, none, none, none, none, none] [] μ1) (he108 : ∀   (μ1 : hm_M), hm_LL ν μ1 → e108 μ1 = some μR → hm_T (hm_LL ν) m_X0_solve fr 0 0 none μR 108 [some (.ref 145), none, some (.int w57_2), some (.int w72_3), none, none] [] μ1)  : ∀ (n : Nat) (y5 : Int32)  (μ1 : hm_M), hm_LL ν μ1 → f_X0_solve_L72 v1 w57_2 w72_3 w72_4 c57 e114 e108 n y5 μ1 = some μR → hm_T (hm_LL ν) m_X0_solve fr 0 0 none μR 72 [some (.ref 145), none, some (.int w57_2), some (.int w72_3), some (.int w72_4), some (.int y5)] [] μ1 := by
  intro n
  induction n with
  | zero =>
    intro y5 μ1 hL h
    unfold f_X0_solve_L72 at h
    cases h
  | succ n ih =>
    intro y5 μ1 hL h
    unfold f_X0_solve_L72 at h
    refine tr_iload (pc' := 74) (show decode cX0_solve 72 = .ok (.iload 5, 2) by decide +kernel) rfl rfl ?_
    refine tr_aload_n (pc' := 75) (show decode cX0_solve 74 = .ok (.aload_n 0, 1) by decide +kernel) rfl rfl rfl ?_
    refine tr_getI (pc' := 78) fl_HandRing_Circle_28 (show decode cX0_solve 75 = .ok (.getfield 28, 3) by decide +kernel) rfl (la_o hL (by decide) rfl) ?_
    rcases hm_is h with ⟨hc, h⟩ | ⟨hc, h⟩
    · refine tr_icmp_ge_t (tgt := 108) hc (show decode cX0_solve 78 = .ok (.if_icmp .ge 30, 3) by decide +kernel) (by decide) ?_
      refine hm_fgt [true, false, true, true, false, false] (lv' := [some (.ref 145), none, some (.int w57_2), some (.int w72_3), none, none]) rfl ?_
      exact he108 μ1 hL h
    · refine tr_icmp_ge_f (tgt := 108) (pc' := 81) hc (show decode cX0_solve 78 = .ok (.if_icmp .ge 30, 3) by decide +kernel) (by decide) rfl ?_
      refine tr_aload_n (pc' := 82) (show decode cX0_solve 81 = .ok (.aload_n 0, 1) by decide +kernel) rfl rfl rfl ?_
      refine tr_iload_n (pc' := 83) (show decode cX0_solve 82 = .ok (.iload_n 3, 1) by decide +kernel) rfl rfl rfl ?_
      refine tr_iload (pc' := 85) (show decode cX0_solve 83 = .ok (.iload 5, 2) by decide +kernel) rfl rfl ?_
      obtain ⟨x12, ex12, h⟩ := hm_bs h
      have cx12 := ok_X0_leastTo (fr := fr - 1) (ν := ν) (by omega) w72_3 y5 μ1 hL ex12
      refine tp_callV (pc' := 88) (As := [.int w72_3, .int y5]) (fr1 := fr - 1) (ci := 0) okm_X0_leastTo lk_HandRing_Circle_109 (show decode cX0_solve 85 = .ok (.invokevirtual 109, 3) by decide +kernel) rfl rfl rfl (by decide) (la_o hL (by decide) rfl) rfl rfl (Nat.le_of_ble_eq_true rfl) (by omega) cx12 (st' := [.int x12]) rfl ?_
      refine tr_ldc (pc' := 90) (v := (1000000 : Int32)) (show decode cX0_solve 88 = .ok (.ldc 92, 2) by decide +kernel) rfl kc_HandRing_Circle_92 ?_
      rcases hm_is h with ⟨hc, h⟩ | ⟨hc, h⟩
      · refine tr_icmp_ge_t (tgt := 102) hc (show decode cX0_solve 90 = .ok (.if_icmp .ge 12, 3) by decide +kernel) (by decide) ?_
        exact ok_X0_solve_J102 hfr _ w57_2 w72_3 w72_4 c57 e114 (f_X0_solve_L72 v1 w57_2 w72_3 w72_4 c57 e114 e108 n) e108 hc57 he114 ih he108 y5 μ1 hL h
      · refine tr_icmp_ge_f (tgt := 102) (pc' := 93) hc (show decode cX0_solve 90 = .ok (.if_icmp .ge 12, 3) by decide +kernel) (by decide) rfl ?_
        refine tr_aload_n (pc' := 94) (show decode cX0_solve 93 = .ok (.aload_n 0, 1) by decide +kernel) rfl rfl rfl ?_
        refine tr_iload_n (pc' := 95) (show decode cX0_solve 94 = .ok (.iload_n 3, 1) by decide +kernel) rfl rfl rfl ?_
        refine tr_iload (pc' := 97) (show decode cX0_solve 95 = .ok (.iload 4, 2) by decide +kernel) rfl rfl ?_
        refine tr_iload (pc' := 99) (show decode cX0_solve 97 = .ok (.iload 5, 2) by decide +kernel) rfl rfl ?_
        obtain ⟨μ14, ex13, h⟩ := hm_bs h
        have cx13 := ok_X0_goFurther (fr := fr - 1) (ν := ν) (by omega) w72_3 w72_4 y5 μ1 hL ex13
        refine tp_callV (pc' := 102) (As := [.int w72_3, .int w72_4, .int y5]) (fr1 := fr - 1) (ci := 0) okm_X0_goFurther lk_HandRing_Circle_112 (show decode cX0_solve 99 = .ok (.invokevirtual 112, 3) by decide +kernel) rfl rfl rfl (by decide) (la_o hL (by decide) rfl) rfl rfl (Nat.le_of_ble_eq_true rfl) (by omega) cx13 (st' := []) rfl ?_
        replace hL := cx13.1
        exact ok_X0_solve_J102 hfr _ w57_2 w72_3 w72_4 c57 e114 (f_X0_solve_L72 v1 w57_2 w72_3 w72_4 c57 e114 e108 n) e108 hc57 he114 ih he108 y5 μ14 hL h
def f_X0_solve_L57 (v1 : Int32) (w57_2 : Int32) (e114 : hm_M → Option hm_M) : Nat → Int32 → hm_M → Option hm_M
  | 0, _, _ => none
  | n + 1, y3, μ1 => (if w57_2 ≤ y3 then
  e114 μ1
  else
  Option.bind (f_J6_numberOfTrailingZeros_0f7a4 y3) fun x11 =>
  f_X0_solve_L72 v1 w57_2 y3 x11 (f_X0_solve_L57 v1 w57_2 e114 n) e114 (fun μz15 => (f_X0_solve_L57 v1 w57_2 e114 n) (y3 + (1 : Int32)) μz15) hm_fu x11 μ1)
theorem ok_X0_solve_L57 {fr : Nat} (hfr : 3 ≤ fr) {ν : hm_N} {μR : hm_M}  (v1 : Int32) (w57_2 : Int32) (e114 : hm_M → Option hm_M)  (he114 : ∀   (μ1 : hm_M), hm_LL ν μ1 → e114 μ1 = some μR → hm_T (hm_LL ν) m_X0_solve fr 0 0 none μR 114 [none, none, none, none, none, none] [] μ1)  : ∀ (n : Nat) (y3 : Int32)  (μ1 : hm_M), hm_LL ν μ1 → f_X0_solve_L57 v1 w57_2 e114 n y3 μ1 = some μR → hm_T (hm_LL ν) m_X0_solve fr 0 0 none μR 57 [some (.ref 145), none, some (.int w57_2), some (.int y3), none, none] [] μ1 := by
  intro n
  induction n with
  | zero =>
    intro y3 μ1 hL h
    unfold f_X0_solve_L57 at h
    cases h
  | succ n ih =>
    intro y3 μ1 hL h
    unfold f_X0_solve_L57 at h
    refine tr_iload_n (pc' := 58) (show decode cX0_solve 57 = .ok (.iload_n 3, 1) by decide +kernel) rfl rfl rfl ?_
    refine tr_iload_n (pc' := 59) (show decode cX0_solve 58 = .ok (.iload_n 2, 1) by decide +kernel) rfl rfl rfl ?_
    rcases hm_is h with ⟨hc, h⟩ | ⟨hc, h⟩
    · refine tr_icmp_ge_t (tgt := 114) hc (show decode cX0_solve 59 = .ok (.if_icmp .ge 55, 3) by decide +kernel) (by decide) ?_
      refine hm_fgt [false, false, false, false, false, false] (lv' := [none, none, none, none, none, none]) rfl ?_
      exact he114 μ1 hL h
    · refine tr_icmp_ge_f (tgt := 114) (pc' := 62) hc (show decode cX0_solve 59 = .ok (.if_icmp .ge 55, 3) by decide +kernel) (by decide) rfl ?_
      refine tr_iload_n (pc' := 63) (show decode cX0_solve 62 = .ok (.iload_n 3, 1) by decide +kernel) rfl rfl rfl ?_
      obtain ⟨x11, ex11, h⟩ := hm_bs h
      have cx11 := ok_J6_numberOfTrailingZeros_0f7a4 (fr := fr - 1) (ν := ν) (by omega) y3 μ1 hL ex11
      refine tp_callS (pc' := 66) (As := [.int y3]) (fr1 := fr - 1) okm_J6_numberOfTrailingZeros_0f7a4 lk_HandRing_Circle_103 (show decode cX0_solve 63 = .ok (.invokestatic 103, 3) by decide +kernel) rfl rfl rfl (Nat.le_of_ble_eq_true rfl) (by omega) cx11 (st' := [.int x11]) rfl ?_
      refine tr_istore (pc' := 68) (lv' := [some (.ref 145), none, some (.int w57_2), some (.int y3), some (.int x11), none]) (show decode cX0_solve 66 = .ok (.istore 4, 2) by decide +kernel) rfl (Nat.le_of_ble_eq_true rfl) rfl rfl ?_
      refine tr_iload (pc' := 70) (show decode cX0_solve 68 = .ok (.iload 4, 2) by decide +kernel) rfl rfl ?_
      refine tr_istore (pc' := 72) (lv' := [some (.ref 145), none, some (.int w57_2), some (.int y3), some (.int x11), some (.int x11)]) (show decode cX0_solve 70 = .ok (.istore 5, 2) by decide +kernel) rfl (Nat.le_of_ble_eq_true rfl) rfl rfl ?_
      refine ok_X0_solve_L72 hfr _ w57_2 y3 x11 (f_X0_solve_L57 v1 w57_2 e114 n) e114 _ ih he114 ?_ _ x11 μ1 hL h
      · intro μz15 hL h
        refine tr_iinc (pc' := 111) (v := y3 + (1 : Int32)) (lv' := [some (.ref 145), none, some (.int w57_2), some (.int (y3 + (1 : Int32))), none, none]) (show decode cX0_solve 108 = .ok (.iinc 3 1, 3) by decide +kernel) rfl rfl rfl (Nat.le_of_ble_eq_true rfl) rfl rfl ?_
        refine tr_goto (tgt := 57) (show decode cX0_solve 111 = .ok (.goto (-54), 3) by decide +kernel) rfl ?_
        exact ih (y3 + (1 : Int32)) μz15 hL h
def f_X0_solve (v1 : Int32) (μ : hm_M) : Option hm_M :=
  Option.bind (hm_pZ μ 145 6 v1) fun μ2 =>
  Option.bind (some ((1 : Int32) <<< ((μ2.1 145 5) &&& 31))) fun x3 =>
  Option.bind (f_J7_fill_53178 147 2048 (1000000 : Int32) μ2) fun μ5 =>
  Option.bind (f_J7_fill_53178 148 2048 (0 : Int32) μ5) fun μ7 =>
  f_X0_solve_L31 v1 x3 (fun μz10 => f_X0_solve_L57 v1 x3 (fun μz16 => some μz16) hm_fu (1 : Int32) μz10) hm_fu (0 : Int32) μ7
set_option maxRecDepth 100000 in
theorem ok_X0_solve {fr : Nat} (hfr : 3 ≤ fr) {ν : hm_N} {μR : hm_M}  (v1 : Int32)  (μ : hm_M) (hL : hm_LL ν μ) (h : f_X0_solve v1 μ = some μR) : hm_CC (hm_LL ν) m_X0_solve fr 0 0 [.ref 145, .int v1] μ none μR := by
  refine hm_enter (lv := [some (.ref 145), some (.int v1), none, none, none, none]) (by decide) rfl (Nat.le_of_ble_eq_true rfl) ?_
  unfold f_X0_solve at h
  refine tr_aload_n (pc' := 1) (show decode cX0_solve 0 = .ok (.aload_n 0, 1) by decide +kernel) rfl rfl rfl ?_
  refine tr_iload_n (pc' := 2) (show decode cX0_solve 1 = .ok (.iload_n 1, 1) by decide +kernel) rfl rfl rfl ?_
  obtain ⟨μ2, eμ2, h⟩ := hm_bs h
  refine tp_pZ (pc' := 5) fl_HandRing_Circle_88 (show decode cX0_solve 2 = .ok (.putfield 88, 3) by decide +kernel) rfl (la_o hL (by decide) rfl) eμ2 ?_
  replace hL := hL.same (hm_pZ_s eμ2)
  refine tr_iconst (pc' := 6) (v := (1 : Int32)) (show decode cX0_solve 5 = .ok (.iconst 1, 1) by decide +kernel) rfl (by decide) ?_
  refine tr_aload_n (pc' := 7) (show decode cX0_solve 6 = .ok (.aload_n 0, 1) by decide +kernel) rfl rfl rfl ?_
  refine tr_getI (pc' := 10) fl_HandRing_Circle_28 (show decode cX0_solve 7 = .ok (.getfield 28, 3) by decide +kernel) rfl (la_o hL (by decide) rfl) ?_
  refine tr_ishl (pc' := 11) (show decode cX0_solve 10 = .ok (.ishl, 1) by decide +kernel) rfl ?_
  obtain ⟨x3, ex3, h⟩ := hm_bs h
  have ex3 := Option.some.inj ex3
  rw [ex3]
  refine tr_istore_n (pc' := 12) (lv' := [some (.ref 145), some (.int v1), some (.int x3), none, none, none]) (show decode cX0_solve 11 = .ok (.istore_n 2, 1) by decide +kernel) rfl rfl (Nat.le_of_ble_eq_true rfl) rfl rfl ?_
  refine tr_aload_n (pc' := 13) (show decode cX0_solve 12 = .ok (.aload_n 0, 1) by decide +kernel) rfl rfl rfl ?_
  refine tr_getR (pc' := 16) fl_HandRing_Circle_15 (show decode cX0_solve 13 = .ok (.getfield 15, 3) by decide +kernel) rfl (la_o hL (by decide) rfl) (la_r hL 92 rfl) ?_
  refine tr_ldc (pc' := 18) (v := (1000000 : Int32)) (show decode cX0_solve 16 = .ok (.ldc 92, 2) by decide +kernel) rfl kc_HandRing_Circle_92 ?_
  obtain ⟨μ5, ex4, h⟩ := hm_bs h
  have cx4 := ok_J7_fill_53178 (fr := fr - 1) (ν := ν) (by omega) 147 2048 (1000000 : Int32) (la_n hL (la_a hL (by decide) rfl)) μ2 hL ex4
  refine tp_callS (pc' := 21) (As := [.ref 147, .int (1000000 : Int32)]) (fr1 := fr - 1) okm_J7_fill_53178 lk_HandRing_Circle_93 (show decode cX0_solve 18 = .ok (.invokestatic 93, 3) by decide +kernel) rfl rfl rfl (Nat.le_of_ble_eq_true rfl) (by omega) cx4 (st' := []) rfl ?_
  replace hL := cx4.1
  refine tr_aload_n (pc' := 22) (show decode cX0_solve 21 = .ok (.aload_n 0, 1) by decide +kernel) rfl rfl rfl ?_
  refine tr_getR (pc' := 25) fl_HandRing_Circle_18 (show decode cX0_solve 22 = .ok (.getfield 18, 3) by decide +kernel) rfl (la_o hL (by decide) rfl) (la_r hL 93 rfl) ?_
  refine tr_iconst (pc' := 26) (v := (0 : Int32)) (show decode cX0_solve 25 = .ok (.iconst 0, 1) by decide +kernel) rfl (by decide) ?_
  obtain ⟨μ7, ex6, h⟩ := hm_bs h
  have cx6 := ok_J7_fill_53178 (fr := fr - 1) (ν := ν) (by omega) 148 2048 (0 : Int32) (la_n hL (la_a hL (by decide) rfl)) μ5 hL ex6
  refine tp_callS (pc' := 29) (As := [.ref 148, .int (0 : Int32)]) (fr1 := fr - 1) okm_J7_fill_53178 lk_HandRing_Circle_93 (show decode cX0_solve 26 = .ok (.invokestatic 93, 3) by decide +kernel) rfl rfl rfl (Nat.le_of_ble_eq_true rfl) (by omega) cx6 (st' := []) rfl ?_
  replace hL := cx6.1
  refine tr_iconst (pc' := 30) (v := (0 : Int32)) (show decode cX0_solve 29 = .ok (.iconst 0, 1) by decide +kernel) rfl (by decide) ?_
  refine tr_istore_n (pc' := 31) (lv' := [some (.ref 145), some (.int v1), some (.int x3), some (.int (0 : Int32)), none, none]) (show decode cX0_solve 30 = .ok (.istore_n 3, 1) by decide +kernel) rfl rfl (Nat.le_of_ble_eq_true rfl) rfl rfl ?_
  refine hm_fgt [true, false, true, true, false, false] (lv' := [some (.ref 145), none, some (.int x3), some (.int (0 : Int32)), none, none]) rfl ?_
  refine ok_X0_solve_L31 hfr _ x3 _ ?_ _ (0 : Int32) μ7 hL h
  · intro μz10 hL h
    refine tr_iconst (pc' := 56) (v := (1 : Int32)) (show decode cX0_solve 55 = .ok (.iconst 1, 1) by decide +kernel) rfl (by decide) ?_
    refine tr_istore_n (pc' := 57) (lv' := [some (.ref 145), none, some (.int x3), some (.int (1 : Int32)), none, none]) (show decode cX0_solve 56 = .ok (.istore_n 3, 1) by decide +kernel) rfl rfl (Nat.le_of_ble_eq_true rfl) rfl rfl ?_
    refine ok_X0_solve_L57 hfr _ x3 _ ?_ _ (1 : Int32) μz10 hL h
    · intro μz16 hL h
      cases h
      exact tr_vret rfl (show decode cX0_solve 114 = .ok (.return_, 1) by decide +kernel) hL
def f_J6_bitCount_0f7a4 (v0 : Int32) : Option Int32 :=
  Option.bind (some (v0 - (((v0.toUInt32 >>> ((1 : Int32).toUInt32 &&& Int32.toUInt32 31)).toInt32) &&& (1431655765 : Int32)))) fun x2 =>
  Option.bind (some ((x2 &&& (858993459 : Int32)) + (((x2.toUInt32 >>> ((2 : Int32).toUInt32 &&& Int32.toUInt32 31)).toInt32) &&& (858993459 : Int32)))) fun x3 =>
  Option.bind (some ((x3 + ((x3.toUInt32 >>> ((4 : Int32).toUInt32 &&& Int32.toUInt32 31)).toInt32)) &&& (252645135 : Int32))) fun x4 =>
  Option.bind (some (x4 + ((x4.toUInt32 >>> ((8 : Int32).toUInt32 &&& Int32.toUInt32 31)).toInt32))) fun x5 =>
  Option.bind (some (x5 + ((x5.toUInt32 >>> ((16 : Int32).toUInt32 &&& Int32.toUInt32 31)).toInt32))) fun x6 =>
  some (x6 &&& (63 : Int32))
set_option maxRecDepth 100000 in
theorem ok_J6_bitCount_0f7a4 {fr : Nat} (hfr : 0 ≤ fr) {ν : hm_N} {r : Int32}  (v0 : Int32)  (μ : hm_M) (hL : hm_LL ν μ) (h : f_J6_bitCount_0f7a4 v0 = some r) : hm_CC (hm_LL ν) m_J6_bitCount_0f7a4 fr 0 0 [.int v0] μ (some (.int r)) μ := by
  refine hm_enter (lv := [some (.int v0)]) (by decide) rfl (Nat.le_of_ble_eq_true rfl) ?_
  unfold f_J6_bitCount_0f7a4 at h
  refine tr_iload_n (pc' := 1) (show decode cJ6_bitCount_0f7a4 0 = .ok (.iload_n 0, 1) by decide +kernel) rfl rfl rfl ?_
  refine tr_iload_n (pc' := 2) (show decode cJ6_bitCount_0f7a4 1 = .ok (.iload_n 0, 1) by decide +kernel) rfl rfl rfl ?_
  refine tr_iconst (pc' := 3) (v := (1 : Int32)) (show decode cJ6_bitCount_0f7a4 2 = .ok (.iconst 1, 1) by decide +kernel) rfl (by decide) ?_
  refine tr_iushr (pc' := 4) (show decode cJ6_bitCount_0f7a4 3 = .ok (.iushr, 1) by decide +kernel) rfl ?_
  refine tr_ldcw (pc' := 7) (v := (1431655765 : Int32)) (show decode cJ6_bitCount_0f7a4 4 = .ok (.ldc_w 265, 3) by decide +kernel) rfl kc_java_lang_Integer_265 ?_
  refine tr_iand (pc' := 8) (show decode cJ6_bitCount_0f7a4 7 = .ok (.iand, 1) by decide +kernel) rfl ?_
  refine tr_isub (pc' := 9) (show decode cJ6_bitCount_0f7a4 8 = .ok (.isub, 1) by decide +kernel) rfl ?_
  obtain ⟨x2, ex2, h⟩ := hm_bs h
  have ex2 := Option.some.inj ex2
  rw [ex2]
  refine tr_istore_n (pc' := 10) (lv' := [some (.int x2)]) (show decode cJ6_bitCount_0f7a4 9 = .ok (.istore_n 0, 1) by decide +kernel) rfl rfl (Nat.le_of_ble_eq_true rfl) rfl rfl ?_
  refine tr_iload_n (pc' := 11) (show decode cJ6_bitCount_0f7a4 10 = .ok (.iload_n 0, 1) by decide +kernel) rfl rfl rfl ?_
  refine tr_ldcw (pc' := 14) (v := (858993459 : Int32)) (show decode cJ6_bitCount_0f7a4 11 = .ok (.ldc_w 266, 3) by decide +kernel) rfl kc_java_lang_Integer_266 ?_
  refine tr_iand (pc' := 15) (show decode cJ6_bitCount_0f7a4 14 = .ok (.iand, 1) by decide +kernel) rfl ?_
  refine tr_iload_n (pc' := 16) (show decode cJ6_bitCount_0f7a4 15 = .ok (.iload_n 0, 1) by decide +kernel) rfl rfl rfl ?_
  refine tr_iconst (pc' := 17) (v := (2 : Int32)) (show decode cJ6_bitCount_0f7a4 16 = .ok (.iconst 2, 1) by decide +kernel) rfl (by decide) ?_
  refine tr_iushr (pc' := 18) (show decode cJ6_bitCount_0f7a4 17 = .ok (.iushr, 1) by decide +kernel) rfl ?_
  refine tr_ldcw (pc' := 21) (v := (858993459 : Int32)) (show decode cJ6_bitCount_0f7a4 18 = .ok (.ldc_w 266, 3) by decide +kernel) rfl kc_java_lang_Integer_266 ?_
  refine tr_iand (pc' := 22) (show decode cJ6_bitCount_0f7a4 21 = .ok (.iand, 1) by decide +kernel) rfl ?_
  refine tr_iadd (pc' := 23) (show decode cJ6_bitCount_0f7a4 22 = .ok (.iadd, 1) by decide +kernel) rfl ?_
  obtain ⟨x3, ex3, h⟩ := hm_bs h
  have ex3 := Option.some.inj ex3
  rw [ex3]
  refine tr_istore_n (pc' := 24) (lv' := [some (.int x3)]) (show decode cJ6_bitCount_0f7a4 23 = .ok (.istore_n 0, 1) by decide +kernel) rfl rfl (Nat.le_of_ble_eq_true rfl) rfl rfl ?_
  refine tr_iload_n (pc' := 25) (show decode cJ6_bitCount_0f7a4 24 = .ok (.iload_n 0, 1) by decide +kernel) rfl rfl rfl ?_
  refine tr_iload_n (pc' := 26) (show decode cJ6_bitCount_0f7a4 25 = .ok (.iload_n 0, 1) by decide +kernel) rfl rfl rfl ?_
  refine tr_iconst (pc' := 27) (v := (4 : Int32)) (show decode cJ6_bitCount_0f7a4 26 = .ok (.iconst 4, 1) by decide +kernel) rfl (by decide) ?_
  refine tr_iushr (pc' := 28) (show decode cJ6_bitCount_0f7a4 27 = .ok (.iushr, 1) by decide +kernel) rfl ?_
  refine tr_iadd (pc' := 29) (show decode cJ6_bitCount_0f7a4 28 = .ok (.iadd, 1) by decide +kernel) rfl ?_
  refine tr_ldcw (pc' := 32) (v := (252645135 : Int32)) (show decode cJ6_bitCount_0f7a4 29 = .ok (.ldc_w 267, 3) by decide +kernel) rfl kc_java_lang_Integer_267 ?_
  refine tr_iand (pc' := 33) (show decode cJ6_bitCount_0f7a4 32 = .ok (.iand, 1) by decide +kernel) rfl ?_
  obtain ⟨x4, ex4, h⟩ := hm_bs h
  have ex4 := Option.some.inj ex4
  rw [ex4]
  refine tr_istore_n (pc' := 34) (lv' := [some (.int x4)]) (show decode cJ6_bitCount_0f7a4 33 = .ok (.istore_n 0, 1) by decide +kernel) rfl rfl (Nat.le_of_ble_eq_true rfl) rfl rfl ?_
  refine tr_iload_n (pc' := 35) (show decode cJ6_bitCount_0f7a4 34 = .ok (.iload_n 0, 1) by decide +kernel) rfl rfl rfl ?_
  refine tr_iload_n (pc' := 36) (show decode cJ6_bitCount_0f7a4 35 = .ok (.iload_n 0, 1) by decide +kernel) rfl rfl rfl ?_
  refine tr_bipush (pc' := 38) (v := (8 : Int32)) (show decode cJ6_bitCount_0f7a4 36 = .ok (.bipush 8, 2) by decide +kernel) rfl (by decide) ?_
  refine tr_iushr (pc' := 39) (show decode cJ6_bitCount_0f7a4 38 = .ok (.iushr, 1) by decide +kernel) rfl ?_
  refine tr_iadd (pc' := 40) (show decode cJ6_bitCount_0f7a4 39 = .ok (.iadd, 1) by decide +kernel) rfl ?_
  obtain ⟨x5, ex5, h⟩ := hm_bs h
  have ex5 := Option.some.inj ex5
  rw [ex5]
  refine tr_istore_n (pc' := 41) (lv' := [some (.int x5)]) (show decode cJ6_bitCount_0f7a4 40 = .ok (.istore_n 0, 1) by decide +kernel) rfl rfl (Nat.le_of_ble_eq_true rfl) rfl rfl ?_
  refine tr_iload_n (pc' := 42) (show decode cJ6_bitCount_0f7a4 41 = .ok (.iload_n 0, 1) by decide +kernel) rfl rfl rfl ?_
  refine tr_iload_n (pc' := 43) (show decode cJ6_bitCount_0f7a4 42 = .ok (.iload_n 0, 1) by decide +kernel) rfl rfl rfl ?_
  refine tr_bipush (pc' := 45) (v := (16 : Int32)) (show decode cJ6_bitCount_0f7a4 43 = .ok (.bipush 16, 2) by decide +kernel) rfl (by decide) ?_
  refine tr_iushr (pc' := 46) (show decode cJ6_bitCount_0f7a4 45 = .ok (.iushr, 1) by decide +kernel) rfl ?_
  refine tr_iadd (pc' := 47) (show decode cJ6_bitCount_0f7a4 46 = .ok (.iadd, 1) by decide +kernel) rfl ?_
  obtain ⟨x6, ex6, h⟩ := hm_bs h
  have ex6 := Option.some.inj ex6
  rw [ex6]
  refine tr_istore_n (pc' := 48) (lv' := [some (.int x6)]) (show decode cJ6_bitCount_0f7a4 47 = .ok (.istore_n 0, 1) by decide +kernel) rfl rfl (Nat.le_of_ble_eq_true rfl) rfl rfl ?_
  refine tr_iload_n (pc' := 49) (show decode cJ6_bitCount_0f7a4 48 = .ok (.iload_n 0, 1) by decide +kernel) rfl rfl rfl ?_
  refine tr_bipush (pc' := 51) (v := (63 : Int32)) (show decode cJ6_bitCount_0f7a4 49 = .ok (.bipush 63, 2) by decide +kernel) rfl (by decide) ?_
  refine tr_iand (pc' := 52) (show decode cJ6_bitCount_0f7a4 51 = .ok (.iand, 1) by decide +kernel) rfl ?_
  cases h
  exact tr_iret rfl (show decode cJ6_bitCount_0f7a4 52 = .ok (.ireturn, 1) by decide +kernel) hL
def f_X0_leastClosed (v1 : Int32) (v2 : Int32) (v3 : Int32) (μ : hm_M) : Option Int32 :=
  Option.bind (f_X0_costBetween v3 v2 μ) fun x2 =>
  (if x2 = (-1 : Int32) then
  some (1000000 : Int32)
  else
  Option.bind (f_X0_leastTo v1 v3 μ) fun x3 =>
  Option.bind (f_X0_together x3 x2 μ) fun x4 =>
  some x4)
set_option maxRecDepth 100000 in
theorem ok_X0_leastClosed {fr : Nat} (hfr : 2 ≤ fr) {ν : hm_N} {r : Int32}  (v1 : Int32) (v2 : Int32) (v3 : Int32)  (μ : hm_M) (hL : hm_LL ν μ) (h : f_X0_leastClosed v1 v2 v3 μ = some r) : hm_CC (hm_LL ν) m_X0_leastClosed fr 0 0 [.ref 145, .int v1, .int v2, .int v3] μ (some (.int r)) μ := by
  refine hm_enter (lv := [some (.ref 145), some (.int v1), some (.int v2), some (.int v3), none]) (by decide) rfl (Nat.le_of_ble_eq_true rfl) ?_
  unfold f_X0_leastClosed at h
  refine tr_aload_n (pc' := 1) (show decode cX0_leastClosed 0 = .ok (.aload_n 0, 1) by decide +kernel) rfl rfl rfl ?_
  refine tr_iload_n (pc' := 2) (show decode cX0_leastClosed 1 = .ok (.iload_n 3, 1) by decide +kernel) rfl rfl rfl ?_
  refine tr_iload_n (pc' := 3) (show decode cX0_leastClosed 2 = .ok (.iload_n 2, 1) by decide +kernel) rfl rfl rfl ?_
  obtain ⟨x2, ex2, h⟩ := hm_bs h
  have cx2 := ok_X0_costBetween (fr := fr - 1) (ν := ν) (by omega) v3 v2 μ hL ex2
  refine tp_callV (pc' := 6) (As := [.int v3, .int v2]) (fr1 := fr - 1) (ci := 0) okm_X0_costBetween lk_HandRing_Circle_73 (show decode cX0_leastClosed 3 = .ok (.invokevirtual 73, 3) by decide +kernel) rfl rfl rfl (by decide) (la_o hL (by decide) rfl) rfl rfl (Nat.le_of_ble_eq_true rfl) (by omega) cx2 (st' := [.int x2]) rfl ?_
  refine tr_istore (pc' := 8) (lv' := [some (.ref 145), some (.int v1), some (.int v2), some (.int v3), some (.int x2)]) (show decode cX0_leastClosed 6 = .ok (.istore 4, 2) by decide +kernel) rfl (Nat.le_of_ble_eq_true rfl) rfl rfl ?_
  refine tr_iload (pc' := 10) (show decode cX0_leastClosed 8 = .ok (.iload 4, 2) by decide +kernel) rfl rfl ?_
  refine tr_iconst (pc' := 11) (v := (-1 : Int32)) (show decode cX0_leastClosed 10 = .ok (.iconst (-1), 1) by decide +kernel) rfl (by decide) ?_
  rcases hm_is h with ⟨hc, h⟩ | ⟨hc, h⟩
  · refine tr_icmp_ne_f (tgt := 19) (pc' := 14) hc (show decode cX0_leastClosed 11 = .ok (.if_icmp .ne 8, 3) by decide +kernel) (by decide) rfl ?_
    refine tr_ldc (pc' := 16) (v := (1000000 : Int32)) (show decode cX0_leastClosed 14 = .ok (.ldc 92, 2) by decide +kernel) rfl kc_HandRing_Circle_92 ?_
    refine tr_goto (tgt := 31) (show decode cX0_leastClosed 16 = .ok (.goto 15, 3) by decide +kernel) rfl ?_
    cases h
    exact tr_iret rfl (show decode cX0_leastClosed 31 = .ok (.ireturn, 1) by decide +kernel) hL
  · refine tr_icmp_ne_t (tgt := 19) hc (show decode cX0_leastClosed 11 = .ok (.if_icmp .ne 8, 3) by decide +kernel) (by decide) ?_
    refine tr_aload_n (pc' := 20) (show decode cX0_leastClosed 19 = .ok (.aload_n 0, 1) by decide +kernel) rfl rfl rfl ?_
    refine tr_aload_n (pc' := 21) (show decode cX0_leastClosed 20 = .ok (.aload_n 0, 1) by decide +kernel) rfl rfl rfl ?_
    refine tr_iload_n (pc' := 22) (show decode cX0_leastClosed 21 = .ok (.iload_n 1, 1) by decide +kernel) rfl rfl rfl ?_
    refine tr_iload_n (pc' := 23) (show decode cX0_leastClosed 22 = .ok (.iload_n 3, 1) by decide +kernel) rfl rfl rfl ?_
    obtain ⟨x3, ex3, h⟩ := hm_bs h
    have cx3 := ok_X0_leastTo (fr := fr - 1) (ν := ν) (by omega) v1 v3 μ hL ex3
    refine tp_callV (pc' := 26) (As := [.int v1, .int v3]) (fr1 := fr - 1) (ci := 0) okm_X0_leastTo lk_HandRing_Circle_109 (show decode cX0_leastClosed 23 = .ok (.invokevirtual 109, 3) by decide +kernel) rfl rfl rfl (by decide) (la_o hL (by decide) rfl) rfl rfl (Nat.le_of_ble_eq_true rfl) (by omega) cx3 (st' := [.int x3, .ref 145]) rfl ?_
    refine tr_iload (pc' := 28) (show decode cX0_leastClosed 26 = .ok (.iload 4, 2) by decide +kernel) rfl rfl ?_
    obtain ⟨x4, ex4, h⟩ := hm_bs h
    have cx4 := ok_X0_together (fr := fr - 1) (ν := ν) (by omega) x3 x2 μ hL ex4
    refine tp_callV (pc' := 31) (As := [.int x3, .int x2]) (fr1 := fr - 1) (ci := 0) okm_X0_together lk_HandRing_Circle_115 (show decode cX0_leastClosed 28 = .ok (.invokevirtual 115, 3) by decide +kernel) rfl rfl rfl (by decide) (la_o hL (by decide) rfl) rfl rfl (Nat.le_of_ble_eq_true rfl) (by omega) cx4 (st' := [.int x4]) rfl ?_
    cases h
    exact tr_iret rfl (show decode cX0_leastClosed 31 = .ok (.ireturn, 1) by decide +kernel) hL
def f_X0_leastRound_L23 (v1 : Int32) (w23_2 : Int32) (e51 : Int32 → hm_M → Option Int32) : Nat → Int32 → Int32 → hm_M → Option Int32
  | 0, _, _, _ => none
  | n + 1, y3, y4, μ1 => (if (μ1.1 145 5) ≤ y4 then
  e51 y3 μ1
  else
  Option.bind (f_X0_leastClosed v1 w23_2 y4 μ1) fun x4 =>
  Option.bind (some (if x4 < y3 then x4 else y3)) fun x5 =>
  (f_X0_leastRound_L23 v1 w23_2 e51 n) x5 (y4 + (1 : Int32)) μ1)
theorem ok_X0_leastRound_L23 {fr : Nat} (hfr : 3 ≤ fr) {ν : hm_N} {r : Int32}  (v1 : Int32) (w23_2 : Int32) (e51 : Int32 → hm_M → Option Int32)  (he51 : ∀ (y3 : Int32)  (μ1 : hm_M), hm_LL ν μ1 → e51 y3 μ1 = some r → hm_T (hm_LL ν) m_X0_leastRound fr 0 0 (some (.int r)) μ1 51 [none, none, none, some (.int y3), none] [] μ1)  : ∀ (n : Nat) (y3 : Int32) (y4 : Int32)  (μ1 : hm_M), hm_LL ν μ1 → f_X0_leastRound_L23 v1 w23_2 e51 n y3 y4 μ1 = some r → hm_T (hm_LL ν) m_X0_leastRound fr 0 0 (some (.int r)) μ1 23 [some (.ref 145), some (.int v1), some (.int w23_2), some (.int y3), some (.int y4)] [] μ1 := by
  intro n
  induction n with
  | zero =>
    intro y3 y4 μ1 hL h
    unfold f_X0_leastRound_L23 at h
    cases h
  | succ n ih =>
    intro y3 y4 μ1 hL h
    unfold f_X0_leastRound_L23 at h
    refine tr_iload (pc' := 25) (show decode cX0_leastRound 23 = .ok (.iload 4, 2) by decide +kernel) rfl rfl ?_
    refine tr_aload_n (pc' := 26) (show decode cX0_leastRound 25 = .ok (.aload_n 0, 1) by decide +kernel) rfl rfl rfl ?_
    refine tr_getI (pc' := 29) fl_HandRing_Circle_28 (show decode cX0_leastRound 26 = .ok (.getfield 28, 3) by decide +kernel) rfl (la_o hL (by decide) rfl) ?_
    rcases hm_is h with ⟨hc, h⟩ | ⟨hc, h⟩
    · refine tr_icmp_ge_t (tgt := 51) hc (show decode cX0_leastRound 29 = .ok (.if_icmp .ge 22, 3) by decide +kernel) (by decide) ?_
      refine hm_fgt [false, false, false, true, false] (lv' := [none, none, none, some (.int y3), none]) rfl ?_
      exact he51 y3 μ1 hL h
    · refine tr_icmp_ge_f (tgt := 51) (pc' := 32) hc (show decode cX0_leastRound 29 = .ok (.if_icmp .ge 22, 3) by decide +kernel) (by decide) rfl ?_
      refine tr_iload_n (pc' := 33) (show decode cX0_leastRound 32 = .ok (.iload_n 3, 1) by decide +kernel) rfl rfl rfl ?_
      refine tr_aload_n (pc' := 34) (show decode cX0_leastRound 33 = .ok (.aload_n 0, 1) by decide +kernel) rfl rfl rfl ?_
      refine tr_iload_n (pc' := 35) (show decode cX0_leastRound 34 = .ok (.iload_n 1, 1) by decide +kernel) rfl rfl rfl ?_
      refine tr_iload_n (pc' := 36) (show decode cX0_leastRound 35 = .ok (.iload_n 2, 1) by decide +kernel) rfl rfl rfl ?_
      refine tr_iload (pc' := 38) (show decode cX0_leastRound 36 = .ok (.iload 4, 2) by decide +kernel) rfl rfl ?_
      obtain ⟨x4, ex4, h⟩ := hm_bs h
      have cx4 := ok_X0_leastClosed (fr := fr - 1) (ν := ν) (by omega) v1 w23_2 y4 μ1 hL ex4
      refine tp_callV (pc' := 41) (As := [.int v1, .int w23_2, .int y4]) (fr1 := fr - 1) (ci := 0) okm_X0_leastClosed lk_HandRing_Circle_120 (show decode cX0_leastRound 38 = .ok (.invokevirtual 120, 3) by decide +kernel) rfl rfl rfl (by decide) (la_o hL (by decide) rfl) rfl rfl (Nat.le_of_ble_eq_true rfl) (by omega) cx4 (st' := [.int x4, .int y3]) rfl ?_
      refine tr_min (pc' := 44) lk_HandRing_Circle_77 kw_min_s kw_Math_i kw_min_c (show decode cX0_leastRound 41 = .ok (.invokestatic 77, 3) by decide +kernel) rfl (Nat.le_of_ble_eq_true rfl) (by omega) ?_
      obtain ⟨x5, ex5, h⟩ := hm_bs h
      have ex5 := Option.some.inj ex5
      rw [ex5]
      refine tr_istore_n (pc' := 45) (lv' := [some (.ref 145), some (.int v1), some (.int w23_2), some (.int x5), some (.int y4)]) (show decode cX0_leastRound 44 = .ok (.istore_n 3, 1) by decide +kernel) rfl rfl (Nat.le_of_ble_eq_true rfl) rfl rfl ?_
      refine tr_iinc (pc' := 48) (v := y4 + (1 : Int32)) (lv' := [some (.ref 145), some (.int v1), some (.int w23_2), some (.int x5), some (.int (y4 + (1 : Int32)))]) (show decode cX0_leastRound 45 = .ok (.iinc 4 1, 3) by decide +kernel) rfl rfl rfl (Nat.le_of_ble_eq_true rfl) rfl rfl ?_
      refine tr_goto (tgt := 23) (show decode cX0_leastRound 48 = .ok (.goto (-25), 3) by decide +kernel) rfl ?_
      exact ih x5 (y4 + (1 : Int32)) μ1 hL h
def f_X0_leastRound (v1 : Int32) (μ : hm_M) : Option Int32 :=
  Option.bind (f_J6_bitCount_0f7a4 v1) fun x2 =>
  (if (3 : Int32) ≤ x2 then
  Option.bind (f_J6_numberOfTrailingZeros_0f7a4 v1) fun x3 =>
  f_X0_leastRound_L23 v1 x3 (fun z6_3 μz6 => (if (1000000 : Int32) ≤ z6_3 then
  some (-1 : Int32)
  else
  some z6_3)) hm_fu (1000000 : Int32) (x3 + (1 : Int32)) μ
  else
  some (-1 : Int32))
set_option maxRecDepth 100000 in
theorem ok_X0_leastRound {fr : Nat} (hfr : 3 ≤ fr) {ν : hm_N} {r : Int32}  (v1 : Int32)  (μ : hm_M) (hL : hm_LL ν μ) (h : f_X0_leastRound v1 μ = some r) : hm_CC (hm_LL ν) m_X0_leastRound fr 0 0 [.ref 145, .int v1] μ (some (.int r)) μ := by
  refine hm_enter (lv := [some (.ref 145), some (.int v1), none, none, none]) (by decide) rfl (Nat.le_of_ble_eq_true rfl) ?_
  unfold f_X0_leastRound at h
  refine tr_iload_n (pc' := 1) (show decode cX0_leastRound 0 = .ok (.iload_n 1, 1) by decide +kernel) rfl rfl rfl ?_
  obtain ⟨x2, ex2, h⟩ := hm_bs h
  have cx2 := ok_J6_bitCount_0f7a4 (fr := fr - 1) (ν := ν) (by omega) v1 μ hL ex2
  refine tp_callS (pc' := 4) (As := [.int v1]) (fr1 := fr - 1) okm_J6_bitCount_0f7a4 lk_HandRing_Circle_118 (show decode cX0_leastRound 1 = .ok (.invokestatic 118, 3) by decide +kernel) rfl rfl rfl (Nat.le_of_ble_eq_true rfl) (by omega) cx2 (st' := [.int x2]) rfl ?_
  refine tr_iconst (pc' := 5) (v := (3 : Int32)) (show decode cX0_leastRound 4 = .ok (.iconst 3, 1) by decide +kernel) rfl (by decide) ?_
  rcases hm_is h with ⟨hc, h⟩ | ⟨hc, h⟩
  · refine tr_icmp_ge_t (tgt := 10) hc (show decode cX0_leastRound 5 = .ok (.if_icmp .ge 5, 3) by decide +kernel) (by decide) ?_
    refine tr_iload_n (pc' := 11) (show decode cX0_leastRound 10 = .ok (.iload_n 1, 1) by decide +kernel) rfl rfl rfl ?_
    obtain ⟨x3, ex3, h⟩ := hm_bs h
    have cx3 := ok_J6_numberOfTrailingZeros_0f7a4 (fr := fr - 1) (ν := ν) (by omega) v1 μ hL ex3
    refine tp_callS (pc' := 14) (As := [.int v1]) (fr1 := fr - 1) okm_J6_numberOfTrailingZeros_0f7a4 lk_HandRing_Circle_103 (show decode cX0_leastRound 11 = .ok (.invokestatic 103, 3) by decide +kernel) rfl rfl rfl (Nat.le_of_ble_eq_true rfl) (by omega) cx3 (st' := [.int x3]) rfl ?_
    refine tr_istore_n (pc' := 15) (lv' := [some (.ref 145), some (.int v1), some (.int x3), none, none]) (show decode cX0_leastRound 14 = .ok (.istore_n 2, 1) by decide +kernel) rfl rfl (Nat.le_of_ble_eq_true rfl) rfl rfl ?_
    refine tr_ldc (pc' := 17) (v := (1000000 : Int32)) (show decode cX0_leastRound 15 = .ok (.ldc 92, 2) by decide +kernel) rfl kc_HandRing_Circle_92 ?_
    refine tr_istore_n (pc' := 18) (lv' := [some (.ref 145), some (.int v1), some (.int x3), some (.int (1000000 : Int32)), none]) (show decode cX0_leastRound 17 = .ok (.istore_n 3, 1) by decide +kernel) rfl rfl (Nat.le_of_ble_eq_true rfl) rfl rfl ?_
    refine tr_iload_n (pc' := 19) (show decode cX0_leastRound 18 = .ok (.iload_n 2, 1) by decide +kernel) rfl rfl rfl ?_
    refine tr_iconst (pc' := 20) (v := (1 : Int32)) (show decode cX0_leastRound 19 = .ok (.iconst 1, 1) by decide +kernel) rfl (by decide) ?_
    refine tr_iadd (pc' := 21) (show decode cX0_leastRound 20 = .ok (.iadd, 1) by decide +kernel) rfl ?_
    refine tr_istore (pc' := 23) (lv' := [some (.ref 145), some (.int v1), some (.int x3), some (.int (1000000 : Int32)), some (.int (x3 + (1 : Int32)))]) (show decode cX0_leastRound 21 = .ok (.istore 4, 2) by decide +kernel) rfl (Nat.le_of_ble_eq_true rfl) rfl rfl ?_
    refine ok_X0_leastRound_L23 hfr _ x3 _ ?_ _ (1000000 : Int32) (x3 + (1 : Int32)) μ hL h
    · intro z6_3 μz6 hL h
      refine tr_iload_n (pc' := 52) (show decode cX0_leastRound 51 = .ok (.iload_n 3, 1) by decide +kernel) rfl rfl rfl ?_
      refine tr_ldc (pc' := 54) (v := (1000000 : Int32)) (show decode cX0_leastRound 52 = .ok (.ldc 92, 2) by decide +kernel) rfl kc_HandRing_Circle_92 ?_
      rcases hm_is h with ⟨hc, h⟩ | ⟨hc, h⟩
      · refine tr_icmp_ge_t (tgt := 61) hc (show decode cX0_leastRound 54 = .ok (.if_icmp .ge 7, 3) by decide +kernel) (by decide) ?_
        refine tr_iconst (pc' := 62) (v := (-1 : Int32)) (show decode cX0_leastRound 61 = .ok (.iconst (-1), 1) by decide +kernel) rfl (by decide) ?_
        cases h
        exact tr_iret rfl (show decode cX0_leastRound 62 = .ok (.ireturn, 1) by decide +kernel) hL
      · refine tr_icmp_ge_f (tgt := 61) (pc' := 57) hc (show decode cX0_leastRound 54 = .ok (.if_icmp .ge 7, 3) by decide +kernel) (by decide) rfl ?_
        refine tr_iload_n (pc' := 58) (show decode cX0_leastRound 57 = .ok (.iload_n 3, 1) by decide +kernel) rfl rfl rfl ?_
        refine tr_goto (tgt := 62) (show decode cX0_leastRound 58 = .ok (.goto 4, 3) by decide +kernel) rfl ?_
        cases h
        exact tr_iret rfl (show decode cX0_leastRound 62 = .ok (.ireturn, 1) by decide +kernel) hL
  · refine tr_icmp_ge_f (tgt := 10) (pc' := 8) hc (show decode cX0_leastRound 5 = .ok (.if_icmp .ge 5, 3) by decide +kernel) (by decide) rfl ?_
    refine tr_iconst (pc' := 9) (v := (-1 : Int32)) (show decode cX0_leastRound 8 = .ok (.iconst (-1), 1) by decide +kernel) rfl (by decide) ?_
    cases h
    exact tr_iret rfl (show decode cX0_leastRound 9 = .ok (.ireturn, 1) by decide +kernel) hL
def f_X0_hasRound (v1 : Int32) (μ : hm_M) : Option Int32 :=
  (if v1 < 0 then
  some (0 : Int32)
  else
  Option.bind (f_X0_everybody μ) fun x2 =>
  Option.bind (f_X0_leastRound x2 μ) fun x3 =>
  (if x3 = v1 then
  some (1 : Int32)
  else
  some (0 : Int32)))
set_option maxRecDepth 100000 in
theorem ok_X0_hasRound {fr : Nat} (hfr : 4 ≤ fr) {ν : hm_N} {r : Int32}  (v1 : Int32)  (μ : hm_M) (hL : hm_LL ν μ) (h : f_X0_hasRound v1 μ = some r) : hm_CC (hm_LL ν) m_X0_hasRound fr 0 0 [.ref 145, .int v1] μ (some (.int r)) μ := by
  refine hm_enter (lv := [some (.ref 145), some (.int v1)]) (by decide) rfl (Nat.le_of_ble_eq_true rfl) ?_
  unfold f_X0_hasRound at h
  refine tr_iload_n (pc' := 1) (show decode cX0_hasRound 0 = .ok (.iload_n 1, 1) by decide +kernel) rfl rfl rfl ?_
  rcases hm_is h with ⟨hc, h⟩ | ⟨hc, h⟩
  · refine tr_if_lt_t (tgt := 20) hc (show decode cX0_hasRound 1 = .ok (.ifCond .lt 19, 3) by decide +kernel) (by decide) ?_
    refine tr_iconst (pc' := 21) (v := (0 : Int32)) (show decode cX0_hasRound 20 = .ok (.iconst 0, 1) by decide +kernel) rfl (by decide) ?_
    cases h
    exact tr_zret rfl (by decide) (show decode cX0_hasRound 21 = .ok (.ireturn, 1) by decide +kernel) hL
  · refine tr_if_lt_f (tgt := 20) (pc' := 4) hc (show decode cX0_hasRound 1 = .ok (.ifCond .lt 19, 3) by decide +kernel) (by decide) rfl ?_
    refine tr_aload_n (pc' := 5) (show decode cX0_hasRound 4 = .ok (.aload_n 0, 1) by decide +kernel) rfl rfl rfl ?_
    refine tr_aload_n (pc' := 6) (show decode cX0_hasRound 5 = .ok (.aload_n 0, 1) by decide +kernel) rfl rfl rfl ?_
    obtain ⟨x2, ex2, h⟩ := hm_bs h
    have cx2 := ok_X0_everybody (fr := fr - 1) (ν := ν) (by omega) μ hL ex2
    refine tp_callV (pc' := 9) (As := []) (fr1 := fr - 1) (ci := 0) okm_X0_everybody lk_HandRing_Circle_124 (show decode cX0_hasRound 6 = .ok (.invokevirtual 124, 3) by decide +kernel) rfl rfl rfl (by decide) (la_o hL (by decide) rfl) rfl rfl (Nat.le_of_ble_eq_true rfl) (by omega) cx2 (st' := [.int x2, .ref 145]) rfl ?_
    obtain ⟨x3, ex3, h⟩ := hm_bs h
    have cx3 := ok_X0_leastRound (fr := fr - 1) (ν := ν) (by omega) x2 μ hL ex3
    refine tp_callV (pc' := 12) (As := [.int x2]) (fr1 := fr - 1) (ci := 0) okm_X0_leastRound lk_HandRing_Circle_128 (show decode cX0_hasRound 9 = .ok (.invokevirtual 128, 3) by decide +kernel) rfl rfl rfl (by decide) (la_o hL (by decide) rfl) rfl rfl (Nat.le_of_ble_eq_true rfl) (by omega) cx3 (st' := [.int x3]) rfl ?_
    refine tr_iload_n (pc' := 13) (show decode cX0_hasRound 12 = .ok (.iload_n 1, 1) by decide +kernel) rfl rfl rfl ?_
    rcases hm_is h with ⟨hc, h⟩ | ⟨hc, h⟩
    · refine tr_icmp_ne_f (tgt := 20) (pc' := 16) hc (show decode cX0_hasRound 13 = .ok (.if_icmp .ne 7, 3) by decide +kernel) (by decide) rfl ?_
      refine tr_iconst (pc' := 17) (v := (1 : Int32)) (show decode cX0_hasRound 16 = .ok (.iconst 1, 1) by decide +kernel) rfl (by decide) ?_
      refine tr_goto (tgt := 21) (show decode cX0_hasRound 17 = .ok (.goto 4, 3) by decide +kernel) rfl ?_
      cases h
      exact tr_zret rfl (by decide) (show decode cX0_hasRound 21 = .ok (.ireturn, 1) by decide +kernel) hL
    · refine tr_icmp_ne_t (tgt := 20) hc (show decode cX0_hasRound 13 = .ok (.if_icmp .ne 7, 3) by decide +kernel) (by decide) ?_
      refine tr_iconst (pc' := 21) (v := (0 : Int32)) (show decode cX0_hasRound 20 = .ok (.iconst 0, 1) by decide +kernel) rfl (by decide) ?_
      cases h
      exact tr_zret rfl (by decide) (show decode cX0_hasRound 21 = .ok (.ireturn, 1) by decide +kernel) hL
