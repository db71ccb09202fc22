def f_X6_passJoin_J15 (v1 : Int32) (s0 : Int32) (μ1 : hm_M) : Option (Int32 × hm_M) :=
  (if s0 = 0 then
  Option.bind (hm_rz s0) fun x3 => some (x3, μ1)
  else
  Option.bind (f_X6_goOn μ1) fun μ5 =>
  Option.bind (hm_rz s0) fun x6 => some (x6, μ5))
theorem ok_X6_passJoin_J15 {fr : Nat} (hfr : 8 ≤ fr) {ν : hm_N} {r : Int32} {μR : hm_M}  (v1 : Int32)   (hT : ν.1 = some 156) (s0 : Int32) (μ1 : hm_M) (hL : hm_LL ν μ1) (h : f_X6_passJoin_J15 v1 s0 μ1 = some (r, μR)) : hm_T (hm_LL ν) m_X6_passJoin fr 0 0 (some (.int r)) μR 15 [some (.ref 150), none, none] [.int s0] μ1 := by
  unfold f_X6_passJoin_J15 at h
  refine tr_istore_n (pc' := 16) (lv' := [some (.ref 150), none, some (.int s0)]) (show decode cX6_passJoin 15 = .ok (.istore_n 2, 1) by decide +kernel) rfl rfl (Nat.le_of_ble_eq_true rfl) rfl rfl ?_
  refine tr_iload_n (pc' := 17) (show decode cX6_passJoin 16 = .ok (.iload_n 2, 1) by decide +kernel) rfl rfl rfl ?_
  rcases hm_is h with ⟨hc, h⟩ | ⟨hc, h⟩
  · refine tr_if_eq_t (tgt := 24) hc (show decode cX6_passJoin 17 = .ok (.ifCond .eq 7, 3) by decide +kernel) (by decide) ?_
    refine tr_iload_n (pc' := 25) (show decode cX6_passJoin 24 = .ok (.iload_n 2, 1) by decide +kernel) rfl rfl rfl ?_
    obtain ⟨x3, ex3, h⟩ := hm_bs h
    cases h
    exact tp_zret rfl (show decode cX6_passJoin 25 = .ok (.ireturn, 1) by decide +kernel) ex3 hL
  · refine tr_if_eq_f (tgt := 24) (pc' := 20) hc (show decode cX6_passJoin 17 = .ok (.ifCond .eq 7, 3) by decide +kernel) (by decide) rfl ?_
    refine tr_aload_n (pc' := 21) (show decode cX6_passJoin 20 = .ok (.aload_n 0, 1) by decide +kernel) rfl rfl rfl ?_
    obtain ⟨μ5, ex4, h⟩ := hm_bs h
    have cx4 := ok_X6_goOn (fr := fr - 1) (ν := ν) (by omega) hT μ1 hL ex4
    refine tp_callV (pc' := 24) (As := []) (fr1 := fr - 1) (ci := 6) okm_X6_goOn lk_HandRing_Reader_50 (show decode cX6_passJoin 21 = .ok (.invokevirtual 50, 3) by decide +kernel) rfl rfl rfl (by decide) (la_o hL (by decide) rfl) rfl rfl (Nat.le_of_ble_eq_true rfl) (by omega) cx4 (st' := []) rfl ?_
    replace hL := cx4.1
    refine tr_iload_n (pc' := 25) (show decode cX6_passJoin 24 = .ok (.iload_n 2, 1) by decide +kernel) rfl rfl rfl ?_
    obtain ⟨x6, ex6, h⟩ := hm_bs h
    cases h
    exact tp_zret rfl (show decode cX6_passJoin 25 = .ok (.ireturn, 1) by decide +kernel) ex6 hL
def f_X6_passJoin (v1 : Int32) (μ : hm_M) : Option (Int32 × hm_M) :=
  Option.bind (f_X6_placeIn 2 μ) fun x2 =>
  (if x2 = v1 then
  f_X6_passJoin_J15 v1 (1 : Int32) μ
  else
  f_X6_passJoin_J15 v1 (0 : Int32) μ)
set_option maxRecDepth 100000 in
theorem ok_X6_passJoin {fr : Nat} (hfr : 8 ≤ fr) {ν : hm_N} {r : Int32} {μR : hm_M}  (v1 : Int32) (hT : ν.1 = some 156) (μ : hm_M) (hL : hm_LL ν μ) (h : f_X6_passJoin v1 μ = some (r, μR)) : hm_CC (hm_LL ν) m_X6_passJoin fr 0 0 [.ref 150, .int v1] μ (some (.int r)) μR := by
  refine hm_enter (lv := [some (.ref 150), some (.int v1), none]) (by decide) rfl (Nat.le_of_ble_eq_true rfl) ?_
  unfold f_X6_passJoin at h
  refine tr_aload_n (pc' := 1) (show decode cX6_passJoin 0 = .ok (.aload_n 0, 1) by decide +kernel) rfl rfl rfl ?_
  refine tr_ldcS (pc' := 3) (i := 2) rfl rfl (show decode cX6_passJoin 1 = .ok (.ldc 161, 2) by decide +kernel) rfl ?_
  obtain ⟨x2, ex2, h⟩ := hm_bs h
  have cx2 := ok_X6_placeIn (fr := fr - 1) (ν := ν) (by omega) 2 (by decide) hT μ hL ex2
  refine tp_callV (pc' := 6) (As := [.ref (4 + 2)]) (fr1 := fr - 1) (ci := 6) okm_X6_placeIn lk_HandRing_Reader_71 (show decode cX6_passJoin 3 = .ok (.invokevirtual 71, 3) by decide +kernel) rfl rfl rfl (by decide) (la_o hL (by decide) rfl) rfl rfl (Nat.le_of_ble_eq_true rfl) (by omega) cx2 (st' := [.int x2]) rfl ?_
  refine tr_iload_n (pc' := 7) (show decode cX6_passJoin 6 = .ok (.iload_n 1, 1) by decide +kernel) rfl rfl rfl ?_
  rcases hm_is h with ⟨hc, h⟩ | ⟨hc, h⟩
  · refine tr_icmp_ne_f (tgt := 14) (pc' := 10) hc (show decode cX6_passJoin 7 = .ok (.if_icmp .ne 7, 3) by decide +kernel) (by decide) rfl ?_
    refine tr_iconst (pc' := 11) (v := (1 : Int32)) (show decode cX6_passJoin 10 = .ok (.iconst 1, 1) by decide +kernel) rfl (by decide) ?_
    refine tr_goto (tgt := 15) (show decode cX6_passJoin 11 = .ok (.goto 4, 3) by decide +kernel) rfl ?_
    refine hm_fgt [true, false, false] (lv' := [some (.ref 150), none, none]) rfl ?_
    exact ok_X6_passJoin_J15 hfr _ hT (1 : Int32) μ hL h
  · refine tr_icmp_ne_t (tgt := 14) hc (show decode cX6_passJoin 7 = .ok (.if_icmp .ne 7, 3) by decide +kernel) (by decide) ?_
    refine tr_iconst (pc' := 15) (v := (0 : Int32)) (show decode cX6_passJoin 14 = .ok (.iconst 0, 1) by decide +kernel) rfl (by decide) ?_
    refine hm_fgt [true, false, false] (lv' := [some (.ref 150), none, none]) rfl ?_
    exact ok_X6_passJoin_J15 hfr _ hT (0 : Int32) μ hL h
def f_X6_passWord_J13 (v1 : Nat) (s0 : Int32) (μ1 : hm_M) : Option (Int32 × hm_M) :=
  (if s0 = 0 then
  Option.bind (hm_rz s0) fun x3 => some (x3, μ1)
  else
  Option.bind (f_X6_goOn μ1) fun μ5 =>
  Option.bind (hm_rz s0) fun x6 => some (x6, μ5))
theorem ok_X6_passWord_J13 {fr : Nat} (hfr : 8 ≤ fr) {ν : hm_N} {r : Int32} {μR : hm_M}  (v1 : Nat)   (hv1 : v1 < 10) (hT : ν.1 = some 156) (s0 : Int32) (μ1 : hm_M) (hL : hm_LL ν μ1) (h : f_X6_passWord_J13 v1 s0 μ1 = some (r, μR)) : hm_T (hm_LL ν) m_X6_passWord fr 0 0 (some (.int r)) μR 13 [some (.ref 150), none, none] [.int s0] μ1 := by
  unfold f_X6_passWord_J13 at h
  refine tr_istore_n (pc' := 14) (lv' := [some (.ref 150), none, some (.int s0)]) (show decode cX6_passWord 13 = .ok (.istore_n 2, 1) by decide +kernel) rfl rfl (Nat.le_of_ble_eq_true rfl) rfl rfl ?_
  refine tr_iload_n (pc' := 15) (show decode cX6_passWord 14 = .ok (.iload_n 2, 1) by decide +kernel) rfl rfl rfl ?_
  rcases hm_is h with ⟨hc, h⟩ | ⟨hc, h⟩
  · refine tr_if_eq_t (tgt := 22) hc (show decode cX6_passWord 15 = .ok (.ifCond .eq 7, 3) by decide +kernel) (by decide) ?_
    refine tr_iload_n (pc' := 23) (show decode cX6_passWord 22 = .ok (.iload_n 2, 1) by decide +kernel) rfl rfl rfl ?_
    obtain ⟨x3, ex3, h⟩ := hm_bs h
    cases h
    exact tp_zret rfl (show decode cX6_passWord 23 = .ok (.ireturn, 1) by decide +kernel) ex3 hL
  · refine tr_if_eq_f (tgt := 22) (pc' := 18) hc (show decode cX6_passWord 15 = .ok (.ifCond .eq 7, 3) by decide +kernel) (by decide) rfl ?_
    refine tr_aload_n (pc' := 19) (show decode cX6_passWord 18 = .ok (.aload_n 0, 1) by decide +kernel) rfl rfl rfl ?_
    obtain ⟨μ5, ex4, h⟩ := hm_bs h
    have cx4 := ok_X6_goOn (fr := fr - 1) (ν := ν) (by omega) hT μ1 hL ex4
    refine tp_callV (pc' := 22) (As := []) (fr1 := fr - 1) (ci := 6) okm_X6_goOn lk_HandRing_Reader_50 (show decode cX6_passWord 19 = .ok (.invokevirtual 50, 3) by decide +kernel) rfl rfl rfl (by decide) (la_o hL (by decide) rfl) rfl rfl (Nat.le_of_ble_eq_true rfl) (by omega) cx4 (st' := []) rfl ?_
    replace hL := cx4.1
    refine tr_iload_n (pc' := 23) (show decode cX6_passWord 22 = .ok (.iload_n 2, 1) by decide +kernel) rfl rfl rfl ?_
    obtain ⟨x6, ex6, h⟩ := hm_bs h
    cases h
    exact tp_zret rfl (show decode cX6_passWord 23 = .ok (.ireturn, 1) by decide +kernel) ex6 hL
def f_X6_passWord (v1 : Nat) (μ : hm_M) : Option (Int32 × hm_M) :=
  Option.bind (f_X6_placeIn v1 μ) fun x2 =>
  (if x2 = 0 then
  f_X6_passWord_J13 v1 (1 : Int32) μ
  else
  f_X6_passWord_J13 v1 (0 : Int32) μ)
set_option maxRecDepth 100000 in
theorem ok_X6_passWord {fr : Nat} (hfr : 8 ≤ fr) {ν : hm_N} {r : Int32} {μR : hm_M}  (v1 : Nat) (hv1 : v1 < 10) (hT : ν.1 = some 156) (μ : hm_M) (hL : hm_LL ν μ) (h : f_X6_passWord v1 μ = some (r, μR)) : hm_CC (hm_LL ν) m_X6_passWord fr 0 0 [.ref 150, .ref (4 + v1)] μ (some (.int r)) μR := by
  refine hm_enter (lv := [some (.ref 150), some (.ref (4 + v1)), none]) (by decide) rfl (Nat.le_of_ble_eq_true rfl) ?_
  unfold f_X6_passWord at h
  refine tr_aload_n (pc' := 1) (show decode cX6_passWord 0 = .ok (.aload_n 0, 1) by decide +kernel) rfl rfl rfl ?_
  refine tr_aload_n (pc' := 2) (show decode cX6_passWord 1 = .ok (.aload_n 1, 1) by decide +kernel) rfl rfl rfl ?_
  obtain ⟨x2, ex2, h⟩ := hm_bs h
  have cx2 := ok_X6_placeIn (fr := fr - 1) (ν := ν) (by omega) v1 hv1 hT μ hL ex2
  refine tp_callV (pc' := 5) (As := [.ref (4 + v1)]) (fr1 := fr - 1) (ci := 6) okm_X6_placeIn lk_HandRing_Reader_71 (show decode cX6_passWord 2 = .ok (.invokevirtual 71, 3) by decide +kernel) rfl rfl rfl (by decide) (la_o hL (by decide) rfl) rfl rfl (Nat.le_of_ble_eq_true rfl) (by omega) cx2 (st' := [.int x2]) rfl ?_
  rcases hm_is h with ⟨hc, h⟩ | ⟨hc, h⟩
  · refine tr_if_ne_f (tgt := 12) (pc' := 8) hc (show decode cX6_passWord 5 = .ok (.ifCond .ne 7, 3) by decide +kernel) (by decide) rfl ?_
    refine tr_iconst (pc' := 9) (v := (1 : Int32)) (show decode cX6_passWord 8 = .ok (.iconst 1, 1) by decide +kernel) rfl (by decide) ?_
    refine tr_goto (tgt := 13) (show decode cX6_passWord 9 = .ok (.goto 4, 3) by decide +kernel) rfl ?_
    refine hm_fgt [true, false, false] (lv' := [some (.ref 150), none, none]) rfl ?_
    exact ok_X6_passWord_J13 hfr _ hv1 hT (1 : Int32) μ hL h
  · refine tr_if_ne_t (tgt := 12) hc (show decode cX6_passWord 5 = .ok (.ifCond .ne 7, 3) by decide +kernel) (by decide) ?_
    refine tr_iconst (pc' := 13) (v := (0 : Int32)) (show decode cX6_passWord 12 = .ok (.iconst 0, 1) by decide +kernel) rfl (by decide) ?_
    refine hm_fgt [true, false, false] (lv' := [some (.ref 150), none, none]) rfl ?_
    exact ok_X6_passWord_J13 hfr _ hv1 hT (0 : Int32) μ hL h
def f_X6_readTimes (μ : hm_M) : Option (Int32 × hm_M) :=
  hm_b2 (f_X6_passWord 6 μ) fun x2 μ3 =>
  (if x2 = 0 then
  some ((1 : Int32), μ3)
  else
  Option.bind (f_X6_isNumber (1 : Int32) (20 : Int32) μ3) fun x4 =>
  (if x4 = 0 then
  some ((0 : Int32), μ3)
  else
  Option.bind (f_X5_setPart 151 (5 : Int32) (μ3.1 150 7) μ3) fun μ6 =>
  Option.bind (f_X6_goOn μ6) fun μ8 =>
  some ((1 : Int32), μ8)))
set_option maxRecDepth 100000 in
theorem ok_X6_readTimes {fr : Nat} (hfr : 9 ≤ fr) {ν : hm_N} {r : Int32} {μR : hm_M}   (hT : ν.1 = some 156) (μ : hm_M) (hL : hm_LL ν μ) (h : f_X6_readTimes μ = some (r, μR)) : hm_CC (hm_LL ν) m_X6_readTimes fr 0 0 [.ref 150] μ (some (.int r)) μR := by
  refine hm_enter (lv := [some (.ref 150)]) (by decide) rfl (Nat.le_of_ble_eq_true rfl) ?_
  unfold f_X6_readTimes at h
  refine tr_aload_n (pc' := 1) (show decode cX6_readTimes 0 = .ok (.aload_n 0, 1) by decide +kernel) rfl rfl rfl ?_
  refine tr_ldcS (pc' := 3) (i := 6) rfl rfl (show decode cX6_readTimes 1 = .ok (.ldc 105, 2) by decide +kernel) rfl ?_
  obtain ⟨x2, μ3, ex2, h⟩ := hm_b2s h
  have cx2 := ok_X6_passWord (fr := fr - 1) (ν := ν) (by omega) 6 (by decide) hT μ hL ex2
  refine tp_callV (pc' := 6) (As := [.ref (4 + 6)]) (fr1 := fr - 1) (ci := 6) okm_X6_passWord lk_HandRing_Reader_95 (show decode cX6_readTimes 3 = .ok (.invokevirtual 95, 3) by decide +kernel) rfl rfl rfl (by decide) (la_o hL (by decide) rfl) rfl rfl (Nat.le_of_ble_eq_true rfl) (by omega) cx2 (st' := [.int x2]) rfl ?_
  replace hL := cx2.1
  rcases hm_is h with ⟨hc, h⟩ | ⟨hc, h⟩
  · refine tr_if_ne_f (tgt := 11) (pc' := 9) hc (show decode cX6_readTimes 6 = .ok (.ifCond .ne 5, 3) by decide +kernel) (by decide) rfl ?_
    refine tr_iconst (pc' := 10) (v := (1 : Int32)) (show decode cX6_readTimes 9 = .ok (.iconst 1, 1) by decide +kernel) rfl (by decide) ?_
    cases h
    exact tr_zret rfl (by decide) (show decode cX6_readTimes 10 = .ok (.ireturn, 1) by decide +kernel) hL
  · refine tr_if_ne_t (tgt := 11) hc (show decode cX6_readTimes 6 = .ok (.ifCond .ne 5, 3) by decide +kernel) (by decide) ?_
    refine tr_aload_n (pc' := 12) (show decode cX6_readTimes 11 = .ok (.aload_n 0, 1) by decide +kernel) rfl rfl rfl ?_
    refine tr_iconst (pc' := 13) (v := (1 : Int32)) (show decode cX6_readTimes 12 = .ok (.iconst 1, 1) by decide +kernel) rfl (by decide) ?_
    refine tr_bipush (pc' := 15) (v := (20 : Int32)) (show decode cX6_readTimes 13 = .ok (.bipush 20, 2) by decide +kernel) rfl (by decide) ?_
    obtain ⟨x4, ex4, h⟩ := hm_bs h
    have cx4 := ok_X6_isNumber (fr := fr - 1) (ν := ν) (by omega) (1 : Int32) (20 : Int32) hT μ3 hL ex4
    refine tp_callV (pc' := 18) (As := [.int (1 : Int32), .int (20 : Int32)]) (fr1 := fr - 1) (ci := 6) okm_X6_isNumber lk_HandRing_Reader_107 (show decode cX6_readTimes 15 = .ok (.invokevirtual 107, 3) by decide +kernel) rfl rfl rfl (by decide) (la_o hL (by decide) rfl) rfl rfl (Nat.le_of_ble_eq_true rfl) (by omega) cx4 (st' := [.int x4]) rfl ?_
    rcases hm_is h with ⟨hc, h⟩ | ⟨hc, h⟩
    · refine tr_if_ne_f (tgt := 23) (pc' := 21) hc (show decode cX6_readTimes 18 = .ok (.ifCond .ne 5, 3) by decide +kernel) (by decide) rfl ?_
      refine tr_iconst (pc' := 22) (v := (0 : Int32)) (show decode cX6_readTimes 21 = .ok (.iconst 0, 1) by decide +kernel) rfl (by decide) ?_
      cases h
      exact tr_zret rfl (by decide) (show decode cX6_readTimes 22 = .ok (.ireturn, 1) by decide +kernel) hL
    · refine tr_if_ne_t (tgt := 23) hc (show decode cX6_readTimes 18 = .ok (.ifCond .ne 5, 3) by decide +kernel) (by decide) ?_
      refine tr_aload_n (pc' := 24) (show decode cX6_readTimes 23 = .ok (.aload_n 0, 1) by decide +kernel) rfl rfl rfl ?_
      refine tr_getR (pc' := 27) fl_HandRing_Reader_14 (show decode cX6_readTimes 24 = .ok (.getfield 14, 3) by decide +kernel) rfl (la_o hL (by decide) rfl) (la_r hL 95 rfl) ?_
      refine tr_iconst (pc' := 28) (v := (5 : Int32)) (show decode cX6_readTimes 27 = .ok (.iconst 5, 1) by decide +kernel) rfl (by decide) ?_
      refine tr_aload_n (pc' := 29) (show decode cX6_readTimes 28 = .ok (.aload_n 0, 1) by decide +kernel) rfl rfl rfl ?_
      refine tr_getI (pc' := 32) fl_HandRing_Reader_111 (show decode cX6_readTimes 29 = .ok (.getfield 111, 3) by decide +kernel) rfl (la_o hL (by decide) rfl) ?_
      obtain ⟨μ6, ex5, h⟩ := hm_bs h
      have cx5 := ok_X5_setPart (fr := fr - 1) (ν := ν) (by omega) 151 (5 : Int32) (μ3.1 150 7) (la_pg151 hL) μ3 hL ex5
      refine tp_callV (pc' := 35) (As := [.int (5 : Int32), .int (μ3.1 150 7)]) (fr1 := fr - 1) (ci := 5) okm_X5_setPart lk_HandRing_Reader_77 (show decode cX6_readTimes 32 = .ok (.invokevirtual 77, 3) by decide +kernel) rfl rfl rfl (by decide) (la_o hL (by decide) rfl) rfl rfl (Nat.le_of_ble_eq_true rfl) (by omega) cx5 (st' := []) rfl ?_
      replace hL := cx5.1
      refine tr_aload_n (pc' := 36) (show decode cX6_readTimes 35 = .ok (.aload_n 0, 1) by decide +kernel) rfl rfl rfl ?_
      obtain ⟨μ8, ex7, h⟩ := hm_bs h
      have cx7 := ok_X6_goOn (fr := fr - 1) (ν := ν) (by omega) hT μ6 hL ex7
      refine tp_callV (pc' := 39) (As := []) (fr1 := fr - 1) (ci := 6) okm_X6_goOn lk_HandRing_Reader_50 (show decode cX6_readTimes 36 = .ok (.invokevirtual 50, 3) by decide +kernel) rfl rfl rfl (by decide) (la_o hL (by decide) rfl) rfl rfl (Nat.le_of_ble_eq_true rfl) (by omega) cx7 (st' := []) rfl ?_
      replace hL := cx7.1
      refine tr_iconst (pc' := 40) (v := (1 : Int32)) (show decode cX6_readTimes 39 = .ok (.iconst 1, 1) by decide +kernel) rfl (by decide) ?_
      cases h
      exact tr_zret rfl (by decide) (show decode cX6_readTimes 40 = .ok (.ireturn, 1) by decide +kernel) hL
def f_X6_comparisonHere (μ : hm_M) : Option Int32 :=
  Option.bind (f_X6_isSign (60 : Int32) μ) fun x2 =>
  (if x2 = 0 then
  Option.bind (f_X6_isSign (62 : Int32) μ) fun x3 =>
  (if x3 = 0 then
  Option.bind (f_X6_isSign (61 : Int32) μ) fun x4 =>
  (if x4 = 0 then
  some (-1 : Int32)
  else
  some (9 : Int32))
  else
  some (8 : Int32))
  else
  some (7 : Int32))
set_option maxRecDepth 100000 in
theorem ok_X6_comparisonHere {fr : Nat} (hfr : 1 ≤ fr) {ν : hm_N} {r : Int32}   (hT : ν.1 = some 156) (μ : hm_M) (hL : hm_LL ν μ) (h : f_X6_comparisonHere μ = some r) : hm_CC (hm_LL ν) m_X6_comparisonHere fr 0 0 [.ref 150] μ (some (.int r)) μ := by
  refine hm_enter (lv := [some (.ref 150)]) (by decide) rfl (Nat.le_of_ble_eq_true rfl) ?_
  unfold f_X6_comparisonHere at h
  refine tr_aload_n (pc' := 1) (show decode cX6_comparisonHere 0 = .ok (.aload_n 0, 1) by decide +kernel) rfl rfl rfl ?_
  refine tr_bipush (pc' := 3) (v := (60 : Int32)) (show decode cX6_comparisonHere 1 = .ok (.bipush 60, 2) by decide +kernel) rfl (by decide) ?_
  obtain ⟨x2, ex2, h⟩ := hm_bs h
  have cx2 := ok_X6_isSign (fr := fr - 1) (ν := ν) (by omega) (60 : Int32) hT μ hL ex2
  refine tp_callV (pc' := 6) (As := [.int (60 : Int32)]) (fr1 := fr - 1) (ci := 6) okm_X6_isSign lk_HandRing_Reader_63 (show decode cX6_comparisonHere 3 = .ok (.invokevirtual 63, 3) by decide +kernel) rfl rfl rfl (by decide) (la_o hL (by decide) rfl) rfl rfl (Nat.le_of_ble_eq_true rfl) (by omega) cx2 (st' := [.int x2]) rfl ?_
  rcases hm_is h with ⟨hc, h⟩ | ⟨hc, h⟩
  · refine tr_if_eq_t (tgt := 14) hc (show decode cX6_comparisonHere 6 = .ok (.ifCond .eq 8, 3) by decide +kernel) (by decide) ?_
    refine tr_aload_n (pc' := 15) (show decode cX6_comparisonHere 14 = .ok (.aload_n 0, 1) by decide +kernel) rfl rfl rfl ?_
    refine tr_bipush (pc' := 17) (v := (62 : Int32)) (show decode cX6_comparisonHere 15 = .ok (.bipush 62, 2) by decide +kernel) rfl (by decide) ?_
    obtain ⟨x3, ex3, h⟩ := hm_bs h
    have cx3 := ok_X6_isSign (fr := fr - 1) (ν := ν) (by omega) (62 : Int32) hT μ hL ex3
    refine tp_callV (pc' := 20) (As := [.int (62 : Int32)]) (fr1 := fr - 1) (ci := 6) okm_X6_isSign lk_HandRing_Reader_63 (show decode cX6_comparisonHere 17 = .ok (.invokevirtual 63, 3) by decide +kernel) rfl rfl rfl (by decide) (la_o hL (by decide) rfl) rfl rfl (Nat.le_of_ble_eq_true rfl) (by omega) cx3 (st' := [.int x3]) rfl ?_
    rcases hm_is h with ⟨hc, h⟩ | ⟨hc, h⟩
    · refine tr_if_eq_t (tgt := 28) hc (show decode cX6_comparisonHere 20 = .ok (.ifCond .eq 8, 3) by decide +kernel) (by decide) ?_
      refine tr_aload_n (pc' := 29) (show decode cX6_comparisonHere 28 = .ok (.aload_n 0, 1) by decide +kernel) rfl rfl rfl ?_
      refine tr_bipush (pc' := 31) (v := (61 : Int32)) (show decode cX6_comparisonHere 29 = .ok (.bipush 61, 2) by decide +kernel) rfl (by decide) ?_
      obtain ⟨x4, ex4, h⟩ := hm_bs h
      have cx4 := ok_X6_isSign (fr := fr - 1) (ν := ν) (by omega) (61 : Int32) hT μ hL ex4
      refine tp_callV (pc' := 34) (As := [.int (61 : Int32)]) (fr1 := fr - 1) (ci := 6) okm_X6_isSign lk_HandRing_Reader_63 (show decode cX6_comparisonHere 31 = .ok (.invokevirtual 63, 3) by decide +kernel) rfl rfl rfl (by decide) (la_o hL (by decide) rfl) rfl rfl (Nat.le_of_ble_eq_true rfl) (by omega) cx4 (st' := [.int x4]) rfl ?_
      rcases hm_is h with ⟨hc, h⟩ | ⟨hc, h⟩
      · refine tr_if_eq_t (tgt := 42) hc (show decode cX6_comparisonHere 34 = .ok (.ifCond .eq 8, 3) by decide +kernel) (by decide) ?_
        refine tr_iconst (pc' := 43) (v := (-1 : Int32)) (show decode cX6_comparisonHere 42 = .ok (.iconst (-1), 1) by decide +kernel) rfl (by decide) ?_
        cases h
        exact tr_iret rfl (show decode cX6_comparisonHere 43 = .ok (.ireturn, 1) by decide +kernel) hL
      · refine tr_if_eq_f (tgt := 42) (pc' := 37) hc (show decode cX6_comparisonHere 34 = .ok (.ifCond .eq 8, 3) by decide +kernel) (by decide) rfl ?_
        refine tr_bipush (pc' := 39) (v := (9 : Int32)) (show decode cX6_comparisonHere 37 = .ok (.bipush 9, 2) by decide +kernel) rfl (by decide) ?_
        refine tr_goto (tgt := 43) (show decode cX6_comparisonHere 39 = .ok (.goto 4, 3) by decide +kernel) rfl ?_
        cases h
        exact tr_iret rfl (show decode cX6_comparisonHere 43 = .ok (.ireturn, 1) by decide +kernel) hL
    · refine tr_if_eq_f (tgt := 28) (pc' := 23) hc (show decode cX6_comparisonHere 20 = .ok (.ifCond .eq 8, 3) by decide +kernel) (by decide) rfl ?_
      refine tr_bipush (pc' := 25) (v := (8 : Int32)) (show decode cX6_comparisonHere 23 = .ok (.bipush 8, 2) by decide +kernel) rfl (by decide) ?_
      refine tr_goto (tgt := 43) (show decode cX6_comparisonHere 25 = .ok (.goto 18, 3) by decide +kernel) rfl ?_
      cases h
      exact tr_iret rfl (show decode cX6_comparisonHere 43 = .ok (.ireturn, 1) by decide +kernel) hL
  · refine tr_if_eq_f (tgt := 14) (pc' := 9) hc (show decode cX6_comparisonHere 6 = .ok (.ifCond .eq 8, 3) by decide +kernel) (by decide) rfl ?_
    refine tr_bipush (pc' := 11) (v := (7 : Int32)) (show decode cX6_comparisonHere 9 = .ok (.bipush 7, 2) by decide +kernel) rfl (by decide) ?_
    refine tr_goto (tgt := 43) (show decode cX6_comparisonHere 11 = .ok (.goto 32, 3) by decide +kernel) rfl ?_
    cases h
    exact tr_iret rfl (show decode cX6_comparisonHere 43 = .ok (.ireturn, 1) by decide +kernel) hL
def f_X6_readBoth_L11 (k_X6_readBoth : hm_M → Option (Int32 × hm_M)) (k_X6_readPlain : hm_M → Option (Int32 × hm_M)) (k_X6_readTest : hm_M → Option (Int32 × hm_M)) (e68 : hm_M → Option (Int32 × hm_M)) : Nat → Int32 → hm_M → Option (Int32 × hm_M)
  | 0, _, _ => none
  | n + 1, y1, μ1 => (if (400 : Int32) ≤ y1 then
  e68 μ1
  else
  hm_b2 (f_X6_passWord 8 μ1) fun x4 μ5 =>
  (if x4 = 0 then
  e68 μ5
  else
  Option.bind (f_X5_emit 151 (12 : Int32) (0 : Int32) μ5) fun μ7 =>
  hm_b2 (k_X6_readPlain μ7) fun x8 μ9 =>
  (if x8 = 0 then
  some ((0 : Int32), μ9)
  else
  Option.bind (f_X5_leapToHere 151 (μ5.1 151 3) μ9) fun μ11 =>
  (f_X6_readBoth_L11 k_X6_readBoth k_X6_readPlain k_X6_readTest e68 n) (y1 + (1 : Int32)) μ11)))
theorem ok_X6_readBoth_L11 {fr : Nat} (hfr : 10 ≤ fr) {ν : hm_N} {r : Int32} {μR : hm_M} (k_X6_readBoth : hm_M → Option (Int32 × hm_M)) (hk_X6_readBoth : ∀ {r : Int32} {μR : hm_M}  (hT : ν.1 = some 156) (μ : hm_M), hm_LL ν μ → k_X6_readBoth μ = some (r, μR) → hm_CC (hm_LL ν) m_X6_readBoth (fr - 1) 0 0 [.ref 150] μ (some (.int r)) μR) (k_X6_readPlain : hm_M → Option (Int32 × hm_M)) (hk_X6_readPlain : ∀ {r : Int32} {μR : hm_M}  (hT : ν.1 = some 156) (μ : hm_M), hm_LL ν μ → k_X6_readPlain μ = some (r, μR) → hm_CC (hm_LL ν) m_X6_readPlain (fr - 1) 0 0 [.ref 150] μ (some (.int r)) μR) (k_X6_readTest : hm_M → Option (Int32 × hm_M)) (hk_X6_readTest : ∀ {r : Int32} {μR : hm_M}  (hT : ν.1 = some 156) (μ : hm_M), hm_LL ν μ → k_X6_readTest μ = some (r, μR) → hm_CC (hm_LL ν) m_X6_readTest (fr - 1) 0 0 [.ref 150] μ (some (.int r)) μR)  (e68 : hm_M → Option (Int32 × hm_M))  (he68 : ∀   (μ1 : hm_M), hm_LL ν μ1 → e68 μ1 = some (r, μR) → hm_T (hm_LL ν) m_X6_readBoth fr 0 0 (some (.int r)) μR 68 [none, none, none] [] μ1) (hT : ν.1 = some 156) : ∀ (n : Nat) (y1 : Int32)  (μ1 : hm_M), hm_LL ν μ1 → f_X6_readBoth_L11 k_X6_readBoth k_X6_readPlain k_X6_readTest e68 n y1 μ1 = some (r, μR) → hm_T (hm_LL ν) m_X6_readBoth fr 0 0 (some (.int r)) μR 11 [some (.ref 150), some (.int y1), none] [] μ1 := by
  intro n
  induction n with
  | zero =>
    intro y1 μ1 hL h
    unfold f_X6_readBoth_L11 at h
    cases h
  | succ n ih =>
    intro y1 μ1 hL h
    unfold f_X6_readBoth_L11 at h
    refine tr_iload_n (pc' := 12) (show decode cX6_readBoth 11 = .ok (.iload_n 1, 1) by decide +kernel) rfl rfl rfl ?_
    refine tr_sipush (pc' := 15) (v := (400 : Int32)) (show decode cX6_readBoth 12 = .ok (.sipush 400, 3) by decide +kernel) rfl (by decide) ?_
    rcases hm_is h with ⟨hc, h⟩ | ⟨hc, h⟩
    · refine tr_icmp_ge_t (tgt := 68) hc (show decode cX6_readBoth 15 = .ok (.if_icmp .ge 53, 3) by decide +kernel) (by decide) ?_
      refine hm_fgt [false, false, false] (lv' := [none, none, none]) rfl ?_
      exact he68 μ1 hL h
    · refine tr_icmp_ge_f (tgt := 68) (pc' := 18) hc (show decode cX6_readBoth 15 = .ok (.if_icmp .ge 53, 3) by decide +kernel) (by decide) rfl ?_
      refine tr_aload_n (pc' := 19) (show decode cX6_readBoth 18 = .ok (.aload_n 0, 1) by decide +kernel) rfl rfl rfl ?_
      refine tr_ldcS (pc' := 21) (i := 8) rfl rfl (show decode cX6_readBoth 19 = .ok (.ldc 129, 2) by decide +kernel) rfl ?_
      obtain ⟨x4, μ5, ex4, h⟩ := hm_b2s h
      have cx4 := ok_X6_passWord (fr := fr - 1) (ν := ν) (by omega) 8 (by decide) hT μ1 hL ex4
      refine tp_callV (pc' := 24) (As := [.ref (4 + 8)]) (fr1 := fr - 1) (ci := 6) okm_X6_passWord lk_HandRing_Reader_95 (show decode cX6_readBoth 21 = .ok (.invokevirtual 95, 3) by decide +kernel) rfl rfl rfl (by decide) (la_o hL (by decide) rfl) rfl rfl (Nat.le_of_ble_eq_true rfl) (by omega) cx4 (st' := [.int x4]) rfl ?_
      replace hL := cx4.1
      rcases hm_is h with ⟨hc, h⟩ | ⟨hc, h⟩
      · refine tr_if_eq_t (tgt := 68) hc (show decode cX6_readBoth 24 = .ok (.ifCond .eq 44, 3) by decide +kernel) (by decide) ?_
        refine hm_fgt [false, false, false] (lv' := [none, none, none]) rfl ?_
        exact he68 μ5 hL h
      · refine tr_if_eq_f (tgt := 68) (pc' := 27) hc (show decode cX6_readBoth 24 = .ok (.ifCond .eq 44, 3) by decide +kernel) (by decide) rfl ?_
        refine tr_aload_n (pc' := 28) (show decode cX6_readBoth 27 = .ok (.aload_n 0, 1) by decide +kernel) rfl rfl rfl ?_
        refine tr_getR (pc' := 31) fl_HandRing_Reader_14 (show decode cX6_readBoth 28 = .ok (.getfield 14, 3) by decide +kernel) rfl (la_o hL (by decide) rfl) (la_r hL 95 rfl) ?_
        refine tr_getI (pc' := 34) fl_HandRing_Reader_80 (show decode cX6_readBoth 31 = .ok (.getfield 80, 3) by decide +kernel) rfl (la_o hL (by decide) rfl) ?_
        refine tr_istore_n (pc' := 35) (lv' := [some (.ref 150), some (.int y1), some (.int (μ5.1 151 3))]) (show decode cX6_readBoth 34 = .ok (.istore_n 2, 1) by decide +kernel) rfl rfl (Nat.le_of_ble_eq_true rfl) rfl rfl ?_
        refine tr_aload_n (pc' := 36) (show decode cX6_readBoth 35 = .ok (.aload_n 0, 1) by decide +kernel) rfl rfl rfl ?_
        refine tr_getR (pc' := 39) fl_HandRing_Reader_14 (show decode cX6_readBoth 36 = .ok (.getfield 14, 3) by decide +kernel) rfl (la_o hL (by decide) rfl) (la_r hL 95 rfl) ?_
        refine tr_bipush (pc' := 41) (v := (12 : Int32)) (show decode cX6_readBoth 39 = .ok (.bipush 12, 2) by decide +kernel) rfl (by decide) ?_
        refine tr_iconst (pc' := 42) (v := (0 : Int32)) (show decode cX6_readBoth 41 = .ok (.iconst 0, 1) by decide +kernel) rfl (by decide) ?_
        obtain ⟨μ7, ex6, h⟩ := hm_bs h
        have cx6 := ok_X5_emit (fr := fr - 1) (ν := ν) (by omega) 151 (12 : Int32) (0 : Int32) (la_pg151 hL) μ5 hL ex6
        refine tp_callV (pc' := 45) (As := [.int (12 : Int32), .int (0 : Int32)]) (fr1 := fr - 1) (ci := 5) okm_X5_emit lk_HandRing_Reader_119 (show decode cX6_readBoth 42 = .ok (.invokevirtual 119, 3) by decide +kernel) rfl rfl rfl (by decide) (la_o hL (by decide) rfl) rfl rfl (Nat.le_of_ble_eq_true rfl) (by omega) cx6 (st' := []) rfl ?_
        replace hL := cx6.1
        refine tr_aload_n (pc' := 46) (show decode cX6_readBoth 45 = .ok (.aload_n 0, 1) by decide +kernel) rfl rfl rfl ?_
        obtain ⟨x8, μ9, ex8, h⟩ := hm_b2s h
        have cx8 := hk_X6_readPlain hT μ7 hL ex8
        refine tp_callV (pc' := 49) (As := []) (fr1 := fr - 1) (ci := 6) okm_X6_readPlain lk_HandRing_Reader_126 (show decode cX6_readBoth 46 = .ok (.invokevirtual 126, 3) by decide +kernel) rfl rfl rfl (by decide) (la_o hL (by decide) rfl) rfl rfl (Nat.le_of_ble_eq_true rfl) (by omega) cx8 (st' := [.int x8]) rfl ?_
        replace hL := cx8.1
        rcases hm_is h with ⟨hc, h⟩ | ⟨hc, h⟩
        · refine tr_if_ne_f (tgt := 54) (pc' := 52) hc (show decode cX6_readBoth 49 = .ok (.ifCond .ne 5, 3) by decide +kernel) (by decide) rfl ?_
          refine tr_iconst (pc' := 53) (v := (0 : Int32)) (show decode cX6_readBoth 52 = .ok (.iconst 0, 1) by decide +kernel) rfl (by decide) ?_
          cases h
          exact tr_zret rfl (by decide) (show decode cX6_readBoth 53 = .ok (.ireturn, 1) by decide +kernel) hL
        · refine tr_if_ne_t (tgt := 54) hc (show decode cX6_readBoth 49 = .ok (.ifCond .ne 5, 3) by decide +kernel) (by decide) ?_
          refine tr_aload_n (pc' := 55) (show decode cX6_readBoth 54 = .ok (.aload_n 0, 1) by decide +kernel) rfl rfl rfl ?_
          refine tr_getR (pc' := 58) fl_HandRing_Reader_14 (show decode cX6_readBoth 55 = .ok (.getfield 14, 3) by decide +kernel) rfl (la_o hL (by decide) rfl) (la_r hL 95 rfl) ?_
          refine tr_iload_n (pc' := 59) (show decode cX6_readBoth 58 = .ok (.iload_n 2, 1) by decide +kernel) rfl rfl rfl ?_
          obtain ⟨μ11, ex10, h⟩ := hm_bs h
          have cx10 := ok_X5_leapToHere (fr := fr - 1) (ν := ν) (by omega) 151 (μ5.1 151 3) (la_pg151 hL) μ9 hL ex10
          refine tp_callV (pc' := 62) (As := [.int (μ5.1 151 3)]) (fr1 := fr - 1) (ci := 5) okm_X5_leapToHere lk_HandRing_Reader_122 (show decode cX6_readBoth 59 = .ok (.invokevirtual 122, 3) by decide +kernel) rfl rfl rfl (by decide) (la_o hL (by decide) rfl) rfl rfl (Nat.le_of_ble_eq_true rfl) (by omega) cx10 (st' := []) rfl ?_
          replace hL := cx10.1
          refine tr_iinc (pc' := 65) (v := y1 + (1 : Int32)) (lv' := [some (.ref 150), some (.int (y1 + (1 : Int32))), some (.int (μ5.1 151 3))]) (show decode cX6_readBoth 62 = .ok (.iinc 1 1, 3) by decide +kernel) rfl rfl rfl (Nat.le_of_ble_eq_true rfl) rfl rfl ?_
          refine tr_goto (tgt := 11) (show decode cX6_readBoth 65 = .ok (.goto (-54), 3) by decide +kernel) rfl ?_
          refine hm_fgt [true, true, false] (lv' := [some (.ref 150), some (.int (y1 + (1 : Int32))), none]) rfl ?_
          exact ih (y1 + (1 : Int32)) μ11 hL h
def f_X6_readBoth (k_X6_readBoth : hm_M → Option (Int32 × hm_M)) (k_X6_readPlain : hm_M → Option (Int32 × hm_M)) (k_X6_readTest : hm_M → Option (Int32 × hm_M)) (μ : hm_M) : Option (Int32 × hm_M) :=
  hm_b2 (k_X6_readPlain μ) fun x2 μ3 =>
  (if x2 = 0 then
  some ((0 : Int32), μ3)
  else
  f_X6_readBoth_L11 k_X6_readBoth k_X6_readPlain k_X6_readTest (fun μz12 => some ((1 : Int32), μz12)) hm_fu (0 : Int32) μ3)
set_option maxRecDepth 100000 in
theorem ok_X6_readBoth {fr : Nat} (hfr : 10 ≤ fr) {ν : hm_N} {r : Int32} {μR : hm_M} (k_X6_readBoth : hm_M → Option (Int32 × hm_M)) (hk_X6_readBoth : ∀ {r : Int32} {μR : hm_M}  (hT : ν.1 = some 156) (μ : hm_M), hm_LL ν μ → k_X6_readBoth μ = some (r, μR) → hm_CC (hm_LL ν) m_X6_readBoth (fr - 1) 0 0 [.ref 150] μ (some (.int r)) μR) (k_X6_readPlain : hm_M → Option (Int32 × hm_M)) (hk_X6_readPlain : ∀ {r : Int32} {μR : hm_M}  (hT : ν.1 = some 156) (μ : hm_M), hm_LL ν μ → k_X6_readPlain μ = some (r, μR) → hm_CC (hm_LL ν) m_X6_readPlain (fr - 1) 0 0 [.ref 150] μ (some (.int r)) μR) (k_X6_readTest : hm_M → Option (Int32 × hm_M)) (hk_X6_readTest : ∀ {r : Int32} {μR : hm_M}  (hT : ν.1 = some 156) (μ : hm_M), hm_LL ν μ → k_X6_readTest μ = some (r, μR) → hm_CC (hm_LL ν) m_X6_readTest (fr - 1) 0 0 [.ref 150] μ (some (.int r)) μR)  (hT : ν.1 = some 156) (μ : hm_M) (hL : hm_LL ν μ) (h : f_X6_readBoth k_X6_readBoth k_X6_readPlain k_X6_readTest μ = some (r, μR)) : hm_CC (hm_LL ν) m_X6_readBoth fr 0 0 [.ref 150] μ (some (.int r)) μR := by
  refine hm_enter (lv := [some (.ref 150), none, none]) (by decide) rfl (Nat.le_of_ble_eq_true rfl) ?_
  unfold f_X6_readBoth at h
  refine tr_aload_n (pc' := 1) (show decode cX6_readBoth 0 = .ok (.aload_n 0, 1) by decide +kernel) rfl rfl rfl ?_
  obtain ⟨x2, μ3, ex2, h⟩ := hm_b2s h
  have cx2 := hk_X6_readPlain hT μ hL ex2
  refine tp_callV (pc' := 4) (As := []) (fr1 := fr - 1) (ci := 6) okm_X6_readPlain lk_HandRing_Reader_126 (show decode cX6_readBoth 1 = .ok (.invokevirtual 126, 3) by decide +kernel) rfl rfl rfl (by decide) (la_o hL (by decide) rfl) rfl rfl (Nat.le_of_ble_eq_true rfl) (by omega) cx2 (st' := [.int x2]) rfl ?_
  replace hL := cx2.1
  rcases hm_is h with ⟨hc, h⟩ | ⟨hc, h⟩
  · refine tr_if_ne_f (tgt := 9) (pc' := 7) hc (show decode cX6_readBoth 4 = .ok (.ifCond .ne 5, 3) by decide +kernel) (by decide) rfl ?_
    refine tr_iconst (pc' := 8) (v := (0 : Int32)) (show decode cX6_readBoth 7 = .ok (.iconst 0, 1) by decide +kernel) rfl (by decide) ?_
    cases h
    exact tr_zret rfl (by decide) (show decode cX6_readBoth 8 = .ok (.ireturn, 1) by decide +kernel) hL
  · refine tr_if_ne_t (tgt := 9) hc (show decode cX6_readBoth 4 = .ok (.ifCond .ne 5, 3) by decide +kernel) (by decide) ?_
    refine tr_iconst (pc' := 10) (v := (0 : Int32)) (show decode cX6_readBoth 9 = .ok (.iconst 0, 1) by decide +kernel) rfl (by decide) ?_
    refine tr_istore_n (pc' := 11) (lv' := [some (.ref 150), some (.int (0 : Int32)), none]) (show decode cX6_readBoth 10 = .ok (.istore_n 1, 1) by decide +kernel) rfl rfl (Nat.le_of_ble_eq_true rfl) rfl rfl ?_
    refine ok_X6_readBoth_L11 hfr k_X6_readBoth hk_X6_readBoth k_X6_readPlain hk_X6_readPlain k_X6_readTest hk_X6_readTest _ ?_ hT _ (0 : Int32) μ3 hL h
    · intro μz12 hL h
      refine tr_iconst (pc' := 69) (v := (1 : Int32)) (show decode cX6_readBoth 68 = .ok (.iconst 1, 1) by decide +kernel) rfl (by decide) ?_
      cases h
      exact tr_zret rfl (by decide) (show decode cX6_readBoth 69 = .ok (.ireturn, 1) by decide +kernel) hL
def f_X6_readPlain_J29 (k_X6_readBoth : hm_M → Option (Int32 × hm_M)) (k_X6_readPlain : hm_M → Option (Int32 × hm_M)) (k_X6_readTest : hm_M → Option (Int32 × hm_M)) (c4 : Int32 → Int32 → hm_M → Option (Int32 × hm_M)) (e36 : Int32 → hm_M → Option (Int32 × hm_M)) (s0 : Int32) (y2 : Int32) (μ1 : hm_M) : Option (Int32 × hm_M) :=
  c4 s0 (y2 + (1 : Int32)) μ1
theorem ok_X6_readPlain_J29 {fr : Nat} (hfr : 51 ≤ fr) {ν : hm_N} {r : Int32} {μR : hm_M} (k_X6_readBoth : hm_M → Option (Int32 × hm_M)) (hk_X6_readBoth : ∀ {r : Int32} {μR : hm_M}  (hT : ν.1 = some 156) (μ : hm_M), hm_LL ν μ → k_X6_readBoth μ = some (r, μR) → hm_CC (hm_LL ν) m_X6_readBoth (fr - 1) 0 0 [.ref 150] μ (some (.int r)) μR) (k_X6_readPlain : hm_M → Option (Int32 × hm_M)) (hk_X6_readPlain : ∀ {r : Int32} {μR : hm_M}  (hT : ν.1 = some 156) (μ : hm_M), hm_LL ν μ → k_X6_readPlain μ = some (r, μR) → hm_CC (hm_LL ν) m_X6_readPlain (fr - 1) 0 0 [.ref 150] μ (some (.int r)) μR) (k_X6_readTest : hm_M → Option (Int32 × hm_M)) (hk_X6_readTest : ∀ {r : Int32} {μR : hm_M}  (hT : ν.1 = some 156) (μ : hm_M), hm_LL ν μ → k_X6_readTest μ = some (r, μR) → hm_CC (hm_LL ν) m_X6_readTest (fr - 1) 0 0 [.ref 150] μ (some (.int r)) μR)  (c4 : Int32 → Int32 → hm_M → Option (Int32 × hm_M)) (e36 : Int32 → hm_M → Option (Int32 × hm_M)) (hc4 : ∀ (y1 : Int32) (y2 : Int32)  (μ1 : hm_M), hm_LL ν μ1 → c4 y1 y2 μ1 = some (r, μR) → hm_T (hm_LL ν) m_X6_readPlain fr 0 0 (some (.int r)) μR 4 [some (.ref 150), some (.int y1), some (.int y2)] [] μ1) (he36 : ∀ (y1 : Int32)  (μ1 : hm_M), hm_LL ν μ1 → e36 y1 μ1 = some (r, μR) → hm_T (hm_LL ν) m_X6_readPlain fr 0 0 (some (.int r)) μR 36 [some (.ref 150), some (.int y1), none] [] μ1) (hT : ν.1 = some 156) (s0 : Int32) (y2 : Int32) (μ1 : hm_M) (hL : hm_LL ν μ1) (h : f_X6_readPlain_J29 k_X6_readBoth k_X6_readPlain k_X6_readTest c4 e36 s0 y2 μ1 = some (r, μR)) : hm_T (hm_LL ν) m_X6_readPlain fr 0 0 (some (.int r)) μR 29 [some (.ref 150), none, some (.int y2)] [.int s0] μ1 := by
  unfold f_X6_readPlain_J29 at h
  refine tr_istore_n (pc' := 30) (lv' := [some (.ref 150), some (.int s0), some (.int y2)]) (show decode cX6_readPlain 29 = .ok (.istore_n 1, 1) by decide +kernel) rfl rfl (Nat.le_of_ble_eq_true rfl) rfl rfl ?_
  refine tr_iinc (pc' := 33) (v := y2 + (1 : Int32)) (lv' := [some (.ref 150), some (.int s0), some (.int (y2 + (1 : Int32)))]) (show decode cX6_readPlain 30 = .ok (.iinc 2 1, 3) by decide +kernel) rfl rfl rfl (Nat.le_of_ble_eq_true rfl) rfl rfl ?_
  refine tr_goto (tgt := 4) (show decode cX6_readPlain 33 = .ok (.goto (-29), 3) by decide +kernel) rfl ?_
  exact hc4 s0 (y2 + (1 : Int32)) μ1 hL h
def f_X6_readPlain_L4 (k_X6_readBoth : hm_M → Option (Int32 × hm_M)) (k_X6_readPlain : hm_M → Option (Int32 × hm_M)) (k_X6_readTest : hm_M → Option (Int32 × hm_M)) (e36 : Int32 → hm_M → Option (Int32 × hm_M)) : Nat → Int32 → Int32 → hm_M → Option (Int32 × hm_M)
  | 0, _, _, _ => none
  | n + 1, y1, y2, μ1 => (if (400 : Int32) ≤ y2 then
  e36 y1 μ1
  else
  hm_b2 (f_X6_passWord 9 μ1) fun x2 μ3 =>
  (if x2 = 0 then
  e36 y1 μ3
  else
  (if y1 = 0 then
  f_X6_readPlain_J29 k_X6_readBoth k_X6_readPlain k_X6_readTest (f_X6_readPlain_L4 k_X6_readBoth k_X6_readPlain k_X6_readTest e36 n) e36 (1 : Int32) y2 μ3
  else
  f_X6_readPlain_J29 k_X6_readBoth k_X6_readPlain k_X6_readTest (f_X6_readPlain_L4 k_X6_readBoth k_X6_readPlain k_X6_readTest e36 n) e36 (0 : Int32) y2 μ3)))
theorem ok_X6_readPlain_L4 {fr : Nat} (hfr : 51 ≤ fr) {ν : hm_N} {r : Int32} {μR : hm_M} (k_X6_readBoth : hm_M → Option (Int32 × hm_M)) (hk_X6_readBoth : ∀ {r : Int32} {μR : hm_M}  (hT : ν.1 = some 156) (μ : hm_M), hm_LL ν μ → k_X6_readBoth μ = some (r, μR) → hm_CC (hm_LL ν) m_X6_readBoth (fr - 1) 0 0 [.ref 150] μ (some (.int r)) μR) (k_X6_readPlain : hm_M → Option (Int32 × hm_M)) (hk_X6_readPlain : ∀ {r : Int32} {μR : hm_M}  (hT : ν.1 = some 156) (μ : hm_M), hm_LL ν μ → k_X6_readPlain μ = some (r, μR) → hm_CC (hm_LL ν) m_X6_readPlain (fr - 1) 0 0 [.ref 150] μ (some (.int r)) μR) (k_X6_readTest : hm_M → Option (Int32 × hm_M)) (hk_X6_readTest : ∀ {r : Int32} {μR : hm_M}  (hT : ν.1 = some 156) (μ : hm_M), hm_LL ν μ → k_X6_readTest μ = some (r, μR) → hm_CC (hm_LL ν) m_X6_readTest (fr - 1) 0 0 [.ref 150] μ (some (.int r)) μR)  (e36 : Int32 → hm_M → Option (Int32 × hm_M))  (he36 : ∀ (y1 : Int32)  (μ1 : hm_M), hm_LL ν μ1 → e36 y1 μ1 = some (r, μR) → hm_T (hm_LL ν) m_X6_readPlain fr 0 0 (some (.int r)) μR 36 [some (.ref 150), some (.int y1), none] [] μ1) (hT : ν.1 = some 156) : ∀ (n : Nat) (y1 : Int32) (y2 : Int32)  (μ1 : hm_M), hm_LL ν μ1 → f_X6_readPlain_L4 k_X6_readBoth k_X6_readPlain k_X6_readTest e36 n y1 y2 μ1 = some (r, μR) → hm_T (hm_LL ν) m_X6_readPlain fr 0 0 (some (.int r)) μR 4 [some (.ref 150), some (.int y1), some (.int y2)] [] μ1 := by
  intro n
  induction n with
  | zero =>
    intro y1 y2 μ1 hL h
    unfold f_X6_readPlain_L4 at h
    cases h
  | succ n ih =>
    intro y1 y2 μ1 hL h
    unfold f_X6_readPlain_L4 at h
    refine tr_iload_n (pc' := 5) (show decode cX6_readPlain 4 = .ok (.iload_n 2, 1) by decide +kernel) rfl rfl rfl ?_
    refine tr_sipush (pc' := 8) (v := (400 : Int32)) (show decode cX6_readPlain 5 = .ok (.sipush 400, 3) by decide +kernel) rfl (by decide) ?_
    rcases hm_is h with ⟨hc, h⟩ | ⟨hc, h⟩
    · refine tr_icmp_ge_t (tgt := 36) hc (show decode cX6_readPlain 8 = .ok (.if_icmp .ge 28, 3) by decide +kernel) (by decide) ?_
      refine hm_fgt [true, true, false] (lv' := [some (.ref 150), some (.int y1), none]) rfl ?_
      exact he36 y1 μ1 hL h
    · refine tr_icmp_ge_f (tgt := 36) (pc' := 11) hc (show decode cX6_readPlain 8 = .ok (.if_icmp .ge 28, 3) by decide +kernel) (by decide) rfl ?_
      refine tr_aload_n (pc' := 12) (show decode cX6_readPlain 11 = .ok (.aload_n 0, 1) by decide +kernel) rfl rfl rfl ?_
      refine tr_ldcS (pc' := 14) (i := 9) rfl rfl (show decode cX6_readPlain 12 = .ok (.ldc 131, 2) by decide +kernel) rfl ?_
      obtain ⟨x2, μ3, ex2, h⟩ := hm_b2s h
      have cx2 := ok_X6_passWord (fr := fr - 1) (ν := ν) (by omega) 9 (by decide) hT μ1 hL ex2
      refine tp_callV (pc' := 17) (As := [.ref (4 + 9)]) (fr1 := fr - 1) (ci := 6) okm_X6_passWord lk_HandRing_Reader_95 (show decode cX6_readPlain 14 = .ok (.invokevirtual 95, 3) by decide +kernel) rfl rfl rfl (by decide) (la_o hL (by decide) rfl) rfl rfl (Nat.le_of_ble_eq_true rfl) (by omega) cx2 (st' := [.int x2]) rfl ?_
      replace hL := cx2.1
      rcases hm_is h with ⟨hc, h⟩ | ⟨hc, h⟩
      · refine tr_if_eq_t (tgt := 36) hc (show decode cX6_readPlain 17 = .ok (.ifCond .eq 19, 3) by decide +kernel) (by decide) ?_
        refine hm_fgt [true, true, false] (lv' := [some (.ref 150), some (.int y1), none]) rfl ?_
        exact he36 y1 μ3 hL h
      · refine tr_if_eq_f (tgt := 36) (pc' := 20) hc (show decode cX6_readPlain 17 = .ok (.ifCond .eq 19, 3) by decide +kernel) (by decide) rfl ?_
        refine tr_iload_n (pc' := 21) (show decode cX6_readPlain 20 = .ok (.iload_n 1, 1) by decide +kernel) rfl rfl rfl ?_
        rcases hm_is h with ⟨hc, h⟩ | ⟨hc, h⟩
        · refine tr_if_ne_f (tgt := 28) (pc' := 24) hc (show decode cX6_readPlain 21 = .ok (.ifCond .ne 7, 3) by decide +kernel) (by decide) rfl ?_
          refine tr_iconst (pc' := 25) (v := (1 : Int32)) (show decode cX6_readPlain 24 = .ok (.iconst 1, 1) by decide +kernel) rfl (by decide) ?_
          refine tr_goto (tgt := 29) (show decode cX6_readPlain 25 = .ok (.goto 4, 3) by decide +kernel) rfl ?_
          refine hm_fgt [true, false, true] (lv' := [some (.ref 150), none, some (.int y2)]) rfl ?_
          exact ok_X6_readPlain_J29 hfr k_X6_readBoth hk_X6_readBoth k_X6_readPlain hk_X6_readPlain k_X6_readTest hk_X6_readTest (f_X6_readPlain_L4 k_X6_readBoth k_X6_readPlain k_X6_readTest e36 n) e36 ih he36 hT (1 : Int32) y2 μ3 hL h
        · refine tr_if_ne_t (tgt := 28) hc (show decode cX6_readPlain 21 = .ok (.ifCond .ne 7, 3) by decide +kernel) (by decide) ?_
          refine tr_iconst (pc' := 29) (v := (0 : Int32)) (show decode cX6_readPlain 28 = .ok (.iconst 0, 1) by decide +kernel) rfl (by decide) ?_
          refine hm_fgt [true, false, true] (lv' := [some (.ref 150), none, some (.int y2)]) rfl ?_
          exact ok_X6_readPlain_J29 hfr k_X6_readBoth hk_X6_readBoth k_X6_readPlain hk_X6_readPlain k_X6_readTest hk_X6_readTest (f_X6_readPlain_L4 k_X6_readBoth k_X6_readPlain k_X6_readTest e36 n) e36 ih he36 hT (0 : Int32) y2 μ3 hL h
def f_X6_readPlain_J113 (k_X6_readBoth : hm_M → Option (Int32 × hm_M)) (k_X6_readPlain : hm_M → Option (Int32 × hm_M)) (k_X6_readTest : hm_M → Option (Int32 × hm_M)) (y1 : Int32) (μ1 : hm_M) : Option (Int32 × hm_M) :=
  (if y1 = 0 then
  some ((1 : Int32), μ1)
  else
  Option.bind (f_X5_emit 151 (10 : Int32) (0 : Int32) μ1) fun μ16 =>
  some ((1 : Int32), μ16))
theorem ok_X6_readPlain_J113 {fr : Nat} (hfr : 51 ≤ fr) {ν : hm_N} {r : Int32} {μR : hm_M} (k_X6_readBoth : hm_M → Option (Int32 × hm_M)) (hk_X6_readBoth : ∀ {r : Int32} {μR : hm_M}  (hT : ν.1 = some 156) (μ : hm_M), hm_LL ν μ → k_X6_readBoth μ = some (r, μR) → hm_CC (hm_LL ν) m_X6_readBoth (fr - 1) 0 0 [.ref 150] μ (some (.int r)) μR) (k_X6_readPlain : hm_M → Option (Int32 × hm_M)) (hk_X6_readPlain : ∀ {r : Int32} {μR : hm_M}  (hT : ν.1 = some 156) (μ : hm_M), hm_LL ν μ → k_X6_readPlain μ = some (r, μR) → hm_CC (hm_LL ν) m_X6_readPlain (fr - 1) 0 0 [.ref 150] μ (some (.int r)) μR) (k_X6_readTest : hm_M → Option (Int32 × hm_M)) (hk_X6_readTest : ∀ {r : Int32} {μR : hm_M}  (hT : ν.1 = some 156) (μ : hm_M), hm_LL ν μ → k_X6_readTest μ = some (r, μR) → hm_CC (hm_LL ν) m_X6_readTest (fr - 1) 0 0 [.ref 150] μ (some (.int r)) μR)    (hT : ν.1 = some 156) (y1 : Int32) (μ1 : hm_M) (hL : hm_LL ν μ1) (h : f_X6_readPlain_J113 k_X6_readBoth k_X6_readPlain k_X6_readTest y1 μ1 = some (r, μR)) : hm_T (hm_LL ν) m_X6_readPlain fr 0 0 (some (.int r)) μR 113 [some (.ref 150), some (.int y1), none] [] μ1 := by
  unfold f_X6_readPlain_J113 at h
  refine tr_iload_n (pc' := 114) (show decode cX6_readPlain 113 = .ok (.iload_n 1, 1) by decide +kernel) rfl rfl rfl ?_
  rcases hm_is h with ⟨hc, h⟩ | ⟨hc, h⟩
  · refine tr_if_eq_t (tgt := 127) hc (show decode cX6_readPlain 114 = .ok (.ifCond .eq 13, 3) by decide +kernel) (by decide) ?_
    refine tr_iconst (pc' := 128) (v := (1 : Int32)) (show decode cX6_readPlain 127 = .ok (.iconst 1, 1) by decide +kernel) rfl (by decide) ?_
    cases h
    exact tr_zret rfl (by decide) (show decode cX6_readPlain 128 = .ok (.ireturn, 1) by decide +kernel) hL
  · refine tr_if_eq_f (tgt := 127) (pc' := 117) hc (show decode cX6_readPlain 114 = .ok (.ifCond .eq 13, 3) by decide +kernel) (by decide) rfl ?_
    refine tr_aload_n (pc' := 118) (show decode cX6_readPlain 117 = .ok (.aload_n 0, 1) by decide +kernel) rfl rfl rfl ?_
    refine tr_getR (pc' := 121) fl_HandRing_Reader_14 (show decode cX6_readPlain 118 = .ok (.getfield 14, 3) by decide +kernel) rfl (la_o hL (by decide) rfl) (la_r hL 95 rfl) ?_
    refine tr_bipush (pc' := 123) (v := (10 : Int32)) (show decode cX6_readPlain 121 = .ok (.bipush 10, 2) by decide +kernel) rfl (by decide) ?_
    refine tr_iconst (pc' := 124) (v := (0 : Int32)) (show decode cX6_readPlain 123 = .ok (.iconst 0, 1) by decide +kernel) rfl (by decide) ?_
    obtain ⟨μ16, ex15, h⟩ := hm_bs h
    have cx15 := ok_X5_emit (fr := fr - 1) (ν := ν) (by omega) 151 (10 : Int32) (0 : Int32) (la_pg151 hL) μ1 hL ex15
    refine tp_callV (pc' := 127) (As := [.int (10 : Int32), .int (0 : Int32)]) (fr1 := fr - 1) (ci := 5) okm_X5_emit lk_HandRing_Reader_119 (show decode cX6_readPlain 124 = .ok (.invokevirtual 119, 3) by decide +kernel) rfl rfl rfl (by decide) (la_o hL (by decide) rfl) rfl rfl (Nat.le_of_ble_eq_true rfl) (by omega) cx15 (st' := []) rfl ?_
    replace hL := cx15.1
    refine tr_iconst (pc' := 128) (v := (1 : Int32)) (show decode cX6_readPlain 127 = .ok (.iconst 1, 1) by decide +kernel) rfl (by decide) ?_
    cases h
    exact tr_zret rfl (by decide) (show decode cX6_readPlain 128 = .ok (.ireturn, 1) by decide +kernel) hL
def f_X6_readPlain_J36 (k_X6_readBoth : hm_M → Option (Int32 × hm_M)) (k_X6_readPlain : hm_M → Option (Int32 × hm_M)) (k_X6_readTest : hm_M → Option (Int32 × hm_M)) (y1 : Int32) (μ1 : hm_M) : Option (Int32 × hm_M) :=
  Option.bind (f_X6_isSign (40 : Int32) μ1) fun x5 =>
  (if x5 = 0 then
  hm_b2 (F_X6_readSum μ1) fun x6 μ7 =>
  (if x6 = 0 then
  some ((0 : Int32), μ7)
  else
  Option.bind (f_X6_comparisonHere μ7) fun x8 =>
  (if x8 = (-1 : Int32) then
  some ((0 : Int32), μ7)
  else
  Option.bind (f_X6_goOn μ7) fun μ10 =>
  hm_b2 (F_X6_readSum μ10) fun x11 μ12 =>
  (if x11 = 0 then
  some ((0 : Int32), μ12)
  else
  Option.bind (f_X5_emit 151 x8 (0 : Int32) μ12) fun μ14 =>
  f_X6_readPlain_J113 k_X6_readBoth k_X6_readPlain k_X6_readTest y1 μ14)))
  else
  hm_b2 (f_X6_open μ1) fun x17 μ18 =>
  (if x17 = 0 then
  some ((0 : Int32), μ18)
  else
  hm_b2 (k_X6_readTest μ18) fun x19 μ20 =>
  (if x19 = 0 then
  some ((0 : Int32), μ20)
  else
  hm_b2 (f_X6_close (41 : Int32) μ20) fun x21 μ22 =>
  (if x21 = 0 then
  some ((0 : Int32), μ22)
  else
  f_X6_readPlain_J113 k_X6_readBoth k_X6_readPlain k_X6_readTest y1 μ22))))
theorem ok_X6_readPlain_J36 {fr : Nat} (hfr : 51 ≤ fr) {ν : hm_N} {r : Int32} {μR : hm_M} (k_X6_readBoth : hm_M → Option (Int32 × hm_M)) (hk_X6_readBoth : ∀ {r : Int32} {μR : hm_M}  (hT : ν.1 = some 156) (μ : hm_M), hm_LL ν μ → k_X6_readBoth μ = some (r, μR) → hm_CC (hm_LL ν) m_X6_readBoth (fr - 1) 0 0 [.ref 150] μ (some (.int r)) μR) (k_X6_readPlain : hm_M → Option (Int32 × hm_M)) (hk_X6_readPlain : ∀ {r : Int32} {μR : hm_M}  (hT : ν.1 = some 156) (μ : hm_M), hm_LL ν μ → k_X6_readPlain μ = some (r, μR) → hm_CC (hm_LL ν) m_X6_readPlain (fr - 1) 0 0 [.ref 150] μ (some (.int r)) μR) (k_X6_readTest : hm_M → Option (Int32 × hm_M)) (hk_X6_readTest : ∀ {r : Int32} {μR : hm_M}  (hT : ν.1 = some 156) (μ : hm_M), hm_LL ν μ → k_X6_readTest μ = some (r, μR) → hm_CC (hm_LL ν) m_X6_readTest (fr - 1) 0 0 [.ref 150] μ (some (.int r)) μR)    (hT : ν.1 = some 156) (y1 : Int32) (μ1 : hm_M) (hL : hm_LL ν μ1) (h : f_X6_readPlain_J36 k_X6_readBoth k_X6_readPlain k_X6_readTest y1 μ1 = some (r, μR)) : hm_T (hm_LL ν) m_X6_readPlain fr 0 0 (some (.int r)) μR 36 [some (.ref 150), some (.int y1), none] [] μ1 := by
  unfold f_X6_readPlain_J36 at h
  refine tr_aload_n (pc' := 37) (show decode cX6_readPlain 36 = .ok (.aload_n 0, 1) by decide +kernel) rfl rfl rfl ?_
  refine tr_bipush (pc' := 39) (v := (40 : Int32)) (show decode cX6_readPlain 37 = .ok (.bipush 40, 2) by decide +kernel) rfl (by decide) ?_
  obtain ⟨x5, ex5, h⟩ := hm_bs h
  have cx5 := ok_X6_isSign (fr := fr - 1) (ν := ν) (by omega) (40 : Int32) hT μ1 hL ex5
  refine tp_callV (pc' := 42) (As := [.int (40 : Int32)]) (fr1 := fr - 1) (ci := 6) okm_X6_isSign lk_HandRing_Reader_63 (show decode cX6_readPlain 39 = .ok (.invokevirtual 63, 3) by decide +kernel) rfl rfl rfl (by decide) (la_o hL (by decide) rfl) rfl rfl (Nat.le_of_ble_eq_true rfl) (by omega) cx5 (st' := [.int x5]) rfl ?_
  rcases hm_is h with ⟨hc, h⟩ | ⟨hc, h⟩
  · refine tr_if_eq_t (tgt := 70) hc (show decode cX6_readPlain 42 = .ok (.ifCond .eq 28, 3) by decide +kernel) (by decide) ?_
    refine tr_aload_n (pc' := 71) (show decode cX6_readPlain 70 = .ok (.aload_n 0, 1) by decide +kernel) rfl rfl rfl ?_
    obtain ⟨x6, μ7, ex6, h⟩ := hm_b2s h
    have cx6 := OK_X6_readSum (fr := fr - 1) (ν := ν) (by omega) hT μ1 hL ex6
    refine tp_callV (pc' := 74) (As := []) (fr1 := fr - 1) (ci := 6) okm_X6_readSum lk_HandRing_Reader_83 (show decode cX6_readPlain 71 = .ok (.invokevirtual 83, 3) by decide +kernel) rfl rfl rfl (by decide) (la_o hL (by decide) rfl) rfl rfl (Nat.le_of_ble_eq_true rfl) (by omega) cx6 (st' := [.int x6]) rfl ?_
    replace hL := cx6.1
    rcases hm_is h with ⟨hc, h⟩ | ⟨hc, h⟩
    · refine tr_if_ne_f (tgt := 79) (pc' := 77) hc (show decode cX6_readPlain 74 = .ok (.ifCond .ne 5, 3) by decide +kernel) (by decide) rfl ?_
      refine tr_iconst (pc' := 78) (v := (0 : Int32)) (show decode cX6_readPlain 77 = .ok (.iconst 0, 1) by decide +kernel) rfl (by decide) ?_
      cases h
      exact tr_zret rfl (by decide) (show decode cX6_readPlain 78 = .ok (.ireturn, 1) by decide +kernel) hL
    · refine tr_if_ne_t (tgt := 79) hc (show decode cX6_readPlain 74 = .ok (.ifCond .ne 5, 3) by decide +kernel) (by decide) ?_
      refine tr_aload_n (pc' := 80) (show decode cX6_readPlain 79 = .ok (.aload_n 0, 1) by decide +kernel) rfl rfl rfl ?_
      obtain ⟨x8, ex8, h⟩ := hm_bs h
      have cx8 := ok_X6_comparisonHere (fr := fr - 1) (ν := ν) (by omega) hT μ7 hL ex8
      refine tp_callV (pc' := 83) (As := []) (fr1 := fr - 1) (ci := 6) okm_X6_comparisonHere lk_HandRing_Reader_139 (show decode cX6_readPlain 80 = .ok (.invokevirtual 139, 3) by decide +kernel) rfl rfl rfl (by decide) (la_o hL (by decide) rfl) rfl rfl (Nat.le_of_ble_eq_true rfl) (by omega) cx8 (st' := [.int x8]) rfl ?_
      refine tr_istore_n (pc' := 84) (lv' := [some (.ref 150), some (.int y1), some (.int x8)]) (show decode cX6_readPlain 83 = .ok (.istore_n 2, 1) by decide +kernel) rfl rfl (Nat.le_of_ble_eq_true rfl) rfl rfl ?_
      refine tr_iload_n (pc' := 85) (show decode cX6_readPlain 84 = .ok (.iload_n 2, 1) by decide +kernel) rfl rfl rfl ?_
      refine tr_iconst (pc' := 86) (v := (-1 : Int32)) (show decode cX6_readPlain 85 = .ok (.iconst (-1), 1) by decide +kernel) rfl (by decide) ?_
      rcases hm_is h with ⟨hc, h⟩ | ⟨hc, h⟩
      · refine tr_icmp_ne_f (tgt := 91) (pc' := 89) hc (show decode cX6_readPlain 86 = .ok (.if_icmp .ne 5, 3) by decide +kernel) (by decide) rfl ?_
        refine tr_iconst (pc' := 90) (v := (0 : Int32)) (show decode cX6_readPlain 89 = .ok (.iconst 0, 1) by decide +kernel) rfl (by decide) ?_
        cases h
        exact tr_zret rfl (by decide) (show decode cX6_readPlain 90 = .ok (.ireturn, 1) by decide +kernel) hL
      · refine tr_icmp_ne_t (tgt := 91) hc (show decode cX6_readPlain 86 = .ok (.if_icmp .ne 5, 3) by decide +kernel) (by decide) ?_
        refine tr_aload_n (pc' := 92) (show decode cX6_readPlain 91 = .ok (.aload_n 0, 1) by decide +kernel) rfl rfl rfl ?_
        obtain ⟨μ10, ex9, h⟩ := hm_bs h
        have cx9 := ok_X6_goOn (fr := fr - 1) (ν := ν) (by omega) hT μ7 hL ex9
        refine tp_callV (pc' := 95) (As := []) (fr1 := fr - 1) (ci := 6) okm_X6_goOn lk_HandRing_Reader_50 (show decode cX6_readPlain 92 = .ok (.invokevirtual 50, 3) by decide +kernel) rfl rfl rfl (by decide) (la_o hL (by decide) rfl) rfl rfl (Nat.le_of_ble_eq_true rfl) (by omega) cx9 (st' := []) rfl ?_
        replace hL := cx9.1
        refine tr_aload_n (pc' := 96) (show decode cX6_readPlain 95 = .ok (.aload_n 0, 1) by decide +kernel) rfl rfl rfl ?_
        obtain ⟨x11, μ12, ex11, h⟩ := hm_b2s h
        have cx11 := OK_X6_readSum (fr := fr - 1) (ν := ν) (by omega) hT μ10 hL ex11
        refine tp_callV (pc' := 99) (As := []) (fr1 := fr - 1) (ci := 6) okm_X6_readSum lk_HandRing_Reader_83 (show decode cX6_readPlain 96 = .ok (.invokevirtual 83, 3) by decide +kernel) rfl rfl rfl (by decide) (la_o hL (by decide) rfl) rfl rfl (Nat.le_of_ble_eq_true rfl) (by omega) cx11 (st' := [.int x11]) rfl ?_
        replace hL := cx11.1
        rcases hm_is h with ⟨hc, h⟩ | ⟨hc, h⟩
        · refine tr_if_ne_f (tgt := 104) (pc' := 102) hc (show decode cX6_readPlain 99 = .ok (.ifCond .ne 5, 3) by decide +kernel) (by decide) rfl ?_
          refine tr_iconst (pc' := 103) (v := (0 : Int32)) (show decode cX6_readPlain 102 = .ok (.iconst 0, 1) by decide +kernel) rfl (by decide) ?_
          cases h
          exact tr_zret rfl (by decide) (show decode cX6_readPlain 103 = .ok (.ireturn, 1) by decide +kernel) hL
        · refine tr_if_ne_t (tgt := 104) hc (show decode cX6_readPlain 99 = .ok (.ifCond .ne 5, 3) by decide +kernel) (by decide) ?_
          refine tr_aload_n (pc' := 105) (show decode cX6_readPlain 104 = .ok (.aload_n 0, 1) by decide +kernel) rfl rfl rfl ?_
          refine tr_getR (pc' := 108) fl_HandRing_Reader_14 (show decode cX6_readPlain 105 = .ok (.getfield 14, 3) by decide +kernel) rfl (la_o hL (by decide) rfl) (la_r hL 95 rfl) ?_
          refine tr_iload_n (pc' := 109) (show decode cX6_readPlain 108 = .ok (.iload_n 2, 1) by decide +kernel) rfl rfl rfl ?_
          refine tr_iconst (pc' := 110) (v := (0 : Int32)) (show decode cX6_readPlain 109 = .ok (.iconst 0, 1) by decide +kernel) rfl (by decide) ?_
          obtain ⟨μ14, ex13, h⟩ := hm_bs h
          have cx13 := ok_X5_emit (fr := fr - 1) (ν := ν) (by omega) 151 x8 (0 : Int32) (la_pg151 hL) μ12 hL ex13
          refine tp_callV (pc' := 113) (As := [.int x8, .int (0 : Int32)]) (fr1 := fr - 1) (ci := 5) okm_X5_emit lk_HandRing_Reader_119 (show decode cX6_readPlain 110 = .ok (.invokevirtual 119, 3) by decide +kernel) rfl rfl rfl (by decide) (la_o hL (by decide) rfl) rfl rfl (Nat.le_of_ble_eq_true rfl) (by omega) cx13 (st' := []) rfl ?_
          replace hL := cx13.1
          refine hm_fgt [true, true, false] (lv' := [some (.ref 150), some (.int y1), none]) rfl ?_
          exact ok_X6_readPlain_J113 hfr k_X6_readBoth hk_X6_readBoth k_X6_readPlain hk_X6_readPlain k_X6_readTest hk_X6_readTest hT y1 μ14 hL h
  · refine tr_if_eq_f (tgt := 70) (pc' := 45) hc (show decode cX6_readPlain 42 = .ok (.ifCond .eq 28, 3) by decide +kernel) (by decide) rfl ?_
    refine tr_aload_n (pc' := 46) (show decode cX6_readPlain 45 = .ok (.aload_n 0, 1) by decide +kernel) rfl rfl rfl ?_
    obtain ⟨x17, μ18, ex17, h⟩ := hm_b2s h
    have cx17 := ok_X6_open (fr := fr - 1) (ν := ν) (by omega) hT μ1 hL ex17
    refine tp_callV (pc' := 49) (As := []) (fr1 := fr - 1) (ci := 6) okm_X6_open lk_HandRing_Reader_133 (show decode cX6_readPlain 46 = .ok (.invokevirtual 133, 3) by decide +kernel) rfl rfl rfl (by decide) (la_o hL (by decide) rfl) rfl rfl (Nat.le_of_ble_eq_true rfl) (by omega) cx17 (st' := [.int x17]) rfl ?_
    replace hL := cx17.1
    rcases hm_is h with ⟨hc, h⟩ | ⟨hc, h⟩
    · refine tr_if_eq_t (tgt := 68) hc (show decode cX6_readPlain 49 = .ok (.ifCond .eq 19, 3) by decide +kernel) (by decide) ?_
      refine tr_iconst (pc' := 69) (v := (0 : Int32)) (show decode cX6_readPlain 68 = .ok (.iconst 0, 1) by decide +kernel) rfl (by decide) ?_
      cases h
      exact tr_zret rfl (by decide) (show decode cX6_readPlain 69 = .ok (.ireturn, 1) by decide +kernel) hL
    · refine tr_if_eq_f (tgt := 68) (pc' := 52) hc (show decode cX6_readPlain 49 = .ok (.ifCond .eq 19, 3) by decide +kernel) (by decide) rfl ?_
      refine tr_aload_n (pc' := 53) (show decode cX6_readPlain 52 = .ok (.aload_n 0, 1) by decide +kernel) rfl rfl rfl ?_
      obtain ⟨x19, μ20, ex19, h⟩ := hm_b2s h
      have cx19 := hk_X6_readTest hT μ18 hL ex19
      refine tp_callV (pc' := 56) (As := []) (fr1 := fr - 1) (ci := 6) okm_X6_readTest lk_HandRing_Reader_99 (show decode cX6_readPlain 53 = .ok (.invokevirtual 99, 3) by decide +kernel) rfl rfl rfl (by decide) (la_o hL (by decide) rfl) rfl rfl (Nat.le_of_ble_eq_true rfl) (by omega) cx19 (st' := [.int x19]) rfl ?_
      replace hL := cx19.1
      rcases hm_is h with ⟨hc, h⟩ | ⟨hc, h⟩
      · refine tr_if_eq_t (tgt := 68) hc (show decode cX6_readPlain 56 = .ok (.ifCond .eq 12, 3) by decide +kernel) (by decide) ?_
        refine tr_iconst (pc' := 69) (v := (0 : Int32)) (show decode cX6_readPlain 68 = .ok (.iconst 0, 1) by decide +kernel) rfl (by decide) ?_
        cases h
        exact tr_zret rfl (by decide) (show decode cX6_readPlain 69 = .ok (.ireturn, 1) by decide +kernel) hL
      · refine tr_if_eq_f (tgt := 68) (pc' := 59) hc (show decode cX6_readPlain 56 = .ok (.ifCond .eq 12, 3) by decide +kernel) (by decide) rfl ?_
        refine tr_aload_n (pc' := 60) (show decode cX6_readPlain 59 = .ok (.aload_n 0, 1) by decide +kernel) rfl rfl rfl ?_
        refine tr_bipush (pc' := 62) (v := (41 : Int32)) (show decode cX6_readPlain 60 = .ok (.bipush 41, 2) by decide +kernel) rfl (by decide) ?_
        obtain ⟨x21, μ22, ex21, h⟩ := hm_b2s h
        have cx21 := ok_X6_close (fr := fr - 1) (ν := ν) (by omega) (41 : Int32) hT μ20 hL ex21
        refine tp_callV (pc' := 65) (As := [.int (41 : Int32)]) (fr1 := fr - 1) (ci := 6) okm_X6_close lk_HandRing_Reader_136 (show decode cX6_readPlain 62 = .ok (.invokevirtual 136, 3) by decide +kernel) rfl rfl rfl (by decide) (la_o hL (by decide) rfl) rfl rfl (Nat.le_of_ble_eq_true rfl) (by omega) cx21 (st' := [.int x21]) rfl ?_
        replace hL := cx21.1
        rcases hm_is h with ⟨hc, h⟩ | ⟨hc, h⟩
        · refine tr_if_ne_f (tgt := 113) (pc' := 68) hc (show decode cX6_readPlain 65 = .ok (.ifCond .ne 48, 3) by decide +kernel) (by decide) rfl ?_
          refine tr_iconst (pc' := 69) (v := (0 : Int32)) (show decode cX6_readPlain 68 = .ok (.iconst 0, 1) by decide +kernel) rfl (by decide) ?_
          cases h
          exact tr_zret rfl (by decide) (show decode cX6_readPlain 69 = .ok (.ireturn, 1) by decide +kernel) hL
        · refine tr_if_ne_t (tgt := 113) hc (show decode cX6_readPlain 65 = .ok (.ifCond .ne 48, 3) by decide +kernel) (by decide) ?_
          exact ok_X6_readPlain_J113 hfr k_X6_readBoth hk_X6_readBoth k_X6_readPlain hk_X6_readPlain k_X6_readTest hk_X6_readTest hT y1 μ22 hL h
def f_X6_readPlain (k_X6_readBoth : hm_M → Option (Int32 × hm_M)) (k_X6_readPlain : hm_M → Option (Int32 × hm_M)) (k_X6_readTest : hm_M → Option (Int32 × hm_M)) (μ : hm_M) : Option (Int32 × hm_M) :=
  f_X6_readPlain_L4 k_X6_readBoth k_X6_readPlain k_X6_readTest (fun z4_1 μz4 => f_X6_readPlain_J36 k_X6_readBoth k_X6_readPlain k_X6_readTest z4_1 μz4) hm_fu (0 : Int32) (0 : Int32) μ
set_option maxRecDepth 100000 in
theorem ok_X6_readPlain {fr : Nat} (hfr : 51 ≤ fr) {ν : hm_N} {r : Int32} {μR : hm_M} (k_X6_readBoth : hm_M → Option (Int32 × hm_M)) (hk_X6_readBoth : ∀ {r : Int32} {μR : hm_M}  (hT : ν.1 = some 156) (μ : hm_M), hm_LL ν μ → k_X6_readBoth μ = some (r, μR) → hm_CC (hm_LL ν) m_X6_readBoth (fr - 1) 0 0 [.ref 150] μ (some (.int r)) μR) (k_X6_readPlain : hm_M → Option (Int32 × hm_M)) (hk_X6_readPlain : ∀ {r : Int32} {μR : hm_M}  (hT : ν.1 = some 156) (μ : hm_M), hm_LL ν μ → k_X6_readPlain μ = some (r, μR) → hm_CC (hm_LL ν) m_X6_readPlain (fr - 1) 0 0 [.ref 150] μ (some (.int r)) μR) (k_X6_readTest : hm_M → Option (Int32 × hm_M)) (hk_X6_readTest : ∀ {r : Int32} {μR : hm_M}  (hT : ν.1 = some 156) (μ : hm_M), hm_LL ν μ → k_X6_readTest μ = some (r, μR) → hm_CC (hm_LL ν) m_X6_readTest (fr - 1) 0 0 [.ref 150] μ (some (.int r)) μR)  (hT : ν.1 = some 156) (μ : hm_M) (hL : hm_LL ν μ) (h : f_X6_readPlain k_X6_readBoth k_X6_readPlain k_X6_readTest μ = some (r, μR)) : hm_CC (hm_LL ν) m_X6_readPlain fr 0 0 [.ref 150] μ (some (.int r)) μR := by
  refine hm_enter (lv := [some (.ref 150), none, none]) (by decide) rfl (Nat.le_of_ble_eq_true rfl) ?_
  unfold f_X6_readPlain at h
  refine tr_iconst (pc' := 1) (v := (0 : Int32)) (show decode cX6_readPlain 0 = .ok (.iconst 0, 1) by decide +kernel) rfl (by decide) ?_
  refine tr_istore_n (pc' := 2) (lv' := [some (.ref 150), some (.int (0 : Int32)), none]) (show decode cX6_readPlain 1 = .ok (.istore_n 1, 1) by decide +kernel) rfl rfl (Nat.le_of_ble_eq_true rfl) rfl rfl ?_
  refine tr_iconst (pc' := 3) (v := (0 : Int32)) (show decode cX6_readPlain 2 = .ok (.iconst 0, 1) by decide +kernel) rfl (by decide) ?_
  refine tr_istore_n (pc' := 4) (lv' := [some (.ref 150), some (.int (0 : Int32)), some (.int (0 : Int32))]) (show decode cX6_readPlain 3 = .ok (.istore_n 2, 1) by decide +kernel) rfl rfl (Nat.le_of_ble_eq_true rfl) rfl rfl ?_
  refine ok_X6_readPlain_L4 hfr k_X6_readBoth hk_X6_readBoth k_X6_readPlain hk_X6_readPlain k_X6_readTest hk_X6_readTest _ ?_ hT _ (0 : Int32) (0 : Int32) μ hL h
  · intro z4_1 μz4 hL h
    exact ok_X6_readPlain_J36 hfr k_X6_readBoth hk_X6_readBoth k_X6_readPlain hk_X6_readPlain k_X6_readTest hk_X6_readTest hT z4_1 μz4 hL h
def f_X6_readTest_L11 (k_X6_readBoth : hm_M → Option (Int32 × hm_M)) (k_X6_readPlain : hm_M → Option (Int32 × hm_M)) (k_X6_readTest : hm_M → Option (Int32 × hm_M)) (e68 : hm_M → Option (Int32 × hm_M)) : Nat → Int32 → hm_M → Option (Int32 × hm_M)
  | 0, _, _ => none
  | n + 1, y1, μ1 => (if (400 : Int32) ≤ y1 then
  e68 μ1
  else
  hm_b2 (f_X6_passWord 7 μ1) fun x4 μ5 =>
  (if x4 = 0 then
  e68 μ5
  else
  Option.bind (f_X5_emit 151 (11 : Int32) (0 : Int32) μ5) fun μ7 =>
  hm_b2 (k_X6_readBoth μ7) fun x8 μ9 =>
  (if x8 = 0 then
  some ((0 : Int32), μ9)
  else
  Option.bind (f_X5_leapToHere 151 (μ5.1 151 3) μ9) fun μ11 =>
  (f_X6_readTest_L11 k_X6_readBoth k_X6_readPlain k_X6_readTest e68 n) (y1 + (1 : Int32)) μ11)))
theorem ok_X6_readTest_L11 {fr : Nat} (hfr : 10 ≤ fr) {ν : hm_N} {r : Int32} {μR : hm_M} (k_X6_readBoth : hm_M → Option (Int32 × hm_M)) (hk_X6_readBoth : ∀ {r : Int32} {μR : hm_M}  (hT : ν.1 = some 156) (μ : hm_M), hm_LL ν μ → k_X6_readBoth μ = some (r, μR) → hm_CC (hm_LL ν) m_X6_readBoth (fr - 1) 0 0 [.ref 150] μ (some (.int r)) μR) (k_X6_readPlain : hm_M → Option (Int32 × hm_M)) (hk_X6_readPlain : ∀ {r : Int32} {μR : hm_M}  (hT : ν.1 = some 156) (μ : hm_M), hm_LL ν μ → k_X6_readPlain μ = some (r, μR) → hm_CC (hm_LL ν) m_X6_readPlain (fr - 1) 0 0 [.ref 150] μ (some (.int r)) μR) (k_X6_readTest : hm_M → Option (Int32 × hm_M)) (hk_X6_readTest : ∀ {r : Int32} {μR : hm_M}  (hT : ν.1 = some 156) (μ : hm_M), hm_LL ν μ → k_X6_readTest μ = some (r, μR) → hm_CC (hm_LL ν) m_X6_readTest (fr - 1) 0 0 [.ref 150] μ (some (.int r)) μR)  (e68 : hm_M → Option (Int32 × hm_M))  (he68 : ∀   (μ1 : hm_M), hm_LL ν μ1 → e68 μ1 = some (r, μR) → hm_T (hm_LL ν) m_X6_readTest fr 0 0 (some (.int r)) μR 68 [none, none, none] [] μ1) (hT : ν.1 = some 156) : ∀ (n : Nat) (y1 : Int32)  (μ1 : hm_M), hm_LL ν μ1 → f_X6_readTest_L11 k_X6_readBoth k_X6_readPlain k_X6_readTest e68 n y1 μ1 = some (r, μR) → hm_T (hm_LL ν) m_X6_readTest fr 0 0 (some (.int r)) μR 11 [some (.ref 150), some (.int y1), none] [] μ1 := by
  intro n
  induction n with
  | zero =>
    intro y1 μ1 hL h
    unfold f_X6_readTest_L11 at h
    cases h
  | succ n ih =>
    intro y1 μ1 hL h
    unfold f_X6_readTest_L11 at h
    refine tr_iload_n (pc' := 12) (show decode cX6_readTest 11 = .ok (.iload_n 1, 1) by decide +kernel) rfl rfl rfl ?_
    refine tr_sipush (pc' := 15) (v := (400 : Int32)) (show decode cX6_readTest 12 = .ok (.sipush 400, 3) by decide +kernel) rfl (by decide) ?_
    rcases hm_is h with ⟨hc, h⟩ | ⟨hc, h⟩
    · refine tr_icmp_ge_t (tgt := 68) hc (show decode cX6_readTest 15 = .ok (.if_icmp .ge 53, 3) by decide +kernel) (by decide) ?_
      refine hm_fgt [false, false, false] (lv' := [none, none, none]) rfl ?_
      exact he68 μ1 hL h
    · refine tr_icmp_ge_f (tgt := 68) (pc' := 18) hc (show decode cX6_readTest 15 = .ok (.if_icmp .ge 53, 3) by decide +kernel) (by decide) rfl ?_
      refine tr_aload_n (pc' := 19) (show decode cX6_readTest 18 = .ok (.aload_n 0, 1) by decide +kernel) rfl rfl rfl ?_
      refine tr_ldcS (pc' := 21) (i := 7) rfl rfl (show decode cX6_readTest 19 = .ok (.ldc 117, 2) by decide +kernel) rfl ?_
      obtain ⟨x4, μ5, ex4, h⟩ := hm_b2s h
      have cx4 := ok_X6_passWord (fr := fr - 1) (ν := ν) (by omega) 7 (by decide) hT μ1 hL ex4
      refine tp_callV (pc' := 24) (As := [.ref (4 + 7)]) (fr1 := fr - 1) (ci := 6) okm_X6_passWord lk_HandRing_Reader_95 (show decode cX6_readTest 21 = .ok (.invokevirtual 95, 3) by decide +kernel) rfl rfl rfl (by decide) (la_o hL (by decide) rfl) rfl rfl (Nat.le_of_ble_eq_true rfl) (by omega) cx4 (st' := [.int x4]) rfl ?_
      replace hL := cx4.1
      rcases hm_is h with ⟨hc, h⟩ | ⟨hc, h⟩
      · refine tr_if_eq_t (tgt := 68) hc (show decode cX6_readTest 24 = .ok (.ifCond .eq 44, 3) by decide +kernel) (by decide) ?_
        refine hm_fgt [false, false, false] (lv' := [none, none, none]) rfl ?_
        exact he68 μ5 hL h
      · refine tr_if_eq_f (tgt := 68) (pc' := 27) hc (show decode cX6_readTest 24 = .ok (.ifCond .eq 44, 3) by decide +kernel) (by decide) rfl ?_
        refine tr_aload_n (pc' := 28) (show decode cX6_readTest 27 = .ok (.aload_n 0, 1) by decide +kernel) rfl rfl rfl ?_
        refine tr_getR (pc' := 31) fl_HandRing_Reader_14 (show decode cX6_readTest 28 = .ok (.getfield 14, 3) by decide +kernel) rfl (la_o hL (by decide) rfl) (la_r hL 95 rfl) ?_
        refine tr_getI (pc' := 34) fl_HandRing_Reader_80 (show decode cX6_readTest 31 = .ok (.getfield 80, 3) by decide +kernel) rfl (la_o hL (by decide) rfl) ?_
        refine tr_istore_n (pc' := 35) (lv' := [some (.ref 150), some (.int y1), some (.int (μ5.1 151 3))]) (show decode cX6_readTest 34 = .ok (.istore_n 2, 1) by decide +kernel) rfl rfl (Nat.le_of_ble_eq_true rfl) rfl rfl ?_
        refine tr_aload_n (pc' := 36) (show decode cX6_readTest 35 = .ok (.aload_n 0, 1) by decide +kernel) rfl rfl rfl ?_
        refine tr_getR (pc' := 39) fl_HandRing_Reader_14 (show decode cX6_readTest 36 = .ok (.getfield 14, 3) by decide +kernel) rfl (la_o hL (by decide) rfl) (la_r hL 95 rfl) ?_
        refine tr_bipush (pc' := 41) (v := (11 : Int32)) (show decode cX6_readTest 39 = .ok (.bipush 11, 2) by decide +kernel) rfl (by decide) ?_
        refine tr_iconst (pc' := 42) (v := (0 : Int32)) (show decode cX6_readTest 41 = .ok (.iconst 0, 1) by decide +kernel) rfl (by decide) ?_
        obtain ⟨μ7, ex6, h⟩ := hm_bs h
        have cx6 := ok_X5_emit (fr := fr - 1) (ν := ν) (by omega) 151 (11 : Int32) (0 : Int32) (la_pg151 hL) μ5 hL ex6
        refine tp_callV (pc' := 45) (As := [.int (11 : Int32), .int (0 : Int32)]) (fr1 := fr - 1) (ci := 5) okm_X5_emit lk_HandRing_Reader_119 (show decode cX6_readTest 42 = .ok (.invokevirtual 119, 3) by decide +kernel) rfl rfl rfl (by decide) (la_o hL (by decide) rfl) rfl rfl (Nat.le_of_ble_eq_true rfl) (by omega) cx6 (st' := []) rfl ?_
        replace hL := cx6.1
        refine tr_aload_n (pc' := 46) (show decode cX6_readTest 45 = .ok (.aload_n 0, 1) by decide +kernel) rfl rfl rfl ?_
        obtain ⟨x8, μ9, ex8, h⟩ := hm_b2s h
        have cx8 := hk_X6_readBoth hT μ7 hL ex8
        refine tp_callV (pc' := 49) (As := []) (fr1 := fr - 1) (ci := 6) okm_X6_readBoth lk_HandRing_Reader_114 (show decode cX6_readTest 46 = .ok (.invokevirtual 114, 3) by decide +kernel) rfl rfl rfl (by decide) (la_o hL (by decide) rfl) rfl rfl (Nat.le_of_ble_eq_true rfl) (by omega) cx8 (st' := [.int x8]) rfl ?_
        replace hL := cx8.1
        rcases hm_is h with ⟨hc, h⟩ | ⟨hc, h⟩
        · refine tr_if_ne_f (tgt := 54) (pc' := 52) hc (show decode cX6_readTest 49 = .ok (.ifCond .ne 5, 3) by decide +kernel) (by decide) rfl ?_
          refine tr_iconst (pc' := 53) (v := (0 : Int32)) (show decode cX6_readTest 52 = .ok (.iconst 0, 1) by decide +kernel) rfl (by decide) ?_
          cases h
          exact tr_zret rfl (by decide) (show decode cX6_readTest 53 = .ok (.ireturn, 1) by decide +kernel) hL
        · refine tr_if_ne_t (tgt := 54) hc (show decode cX6_readTest 49 = .ok (.ifCond .ne 5, 3) by decide +kernel) (by decide) ?_
          refine tr_aload_n (pc' := 55) (show decode cX6_readTest 54 = .ok (.aload_n 0, 1) by decide +kernel) rfl rfl rfl ?_
          refine tr_getR (pc' := 58) fl_HandRing_Reader_14 (show decode cX6_readTest 55 = .ok (.getfield 14, 3) by decide +kernel) rfl (la_o hL (by decide) rfl) (la_r hL 95 rfl) ?_
          refine tr_iload_n (pc' := 59) (show decode cX6_readTest 58 = .ok (.iload_n 2, 1) by decide +kernel) rfl rfl rfl ?_
          obtain ⟨μ11, ex10, h⟩ := hm_bs h
          have cx10 := ok_X5_leapToHere (fr := fr - 1) (ν := ν) (by omega) 151 (μ5.1 151 3) (la_pg151 hL) μ9 hL ex10
          refine tp_callV (pc' := 62) (As := [.int (μ5.1 151 3)]) (fr1 := fr - 1) (ci := 5) okm_X5_leapToHere lk_HandRing_Reader_122 (show decode cX6_readTest 59 = .ok (.invokevirtual 122, 3) by decide +kernel) rfl rfl rfl (by decide) (la_o hL (by decide) rfl) rfl rfl (Nat.le_of_ble_eq_true rfl) (by omega) cx10 (st' := []) rfl ?_
          replace hL := cx10.1
          refine tr_iinc (pc' := 65) (v := y1 + (1 : Int32)) (lv' := [some (.ref 150), some (.int (y1 + (1 : Int32))), some (.int (μ5.1 151 3))]) (show decode cX6_readTest 62 = .ok (.iinc 1 1, 3) by decide +kernel) rfl rfl rfl (Nat.le_of_ble_eq_true rfl) rfl rfl ?_
          refine tr_goto (tgt := 11) (show decode cX6_readTest 65 = .ok (.goto (-54), 3) by decide +kernel) rfl ?_
          refine hm_fgt [true, true, false] (lv' := [some (.ref 150), some (.int (y1 + (1 : Int32))), none]) rfl ?_
          exact ih (y1 + (1 : Int32)) μ11 hL h
def f_X6_readTest (k_X6_readBoth : hm_M → Option (Int32 × hm_M)) (k_X6_readPlain : hm_M → Option (Int32 × hm_M)) (k_X6_readTest : hm_M → Option (Int32 × hm_M)) (μ : hm_M) : Option (Int32 × hm_M) :=
  hm_b2 (k_X6_readBoth μ) fun x2 μ3 =>
  (if x2 = 0 then
  some ((0 : Int32), μ3)
  else
  f_X6_readTest_L11 k_X6_readBoth k_X6_readPlain k_X6_readTest (fun μz12 => some ((1 : Int32), μz12)) hm_fu (0 : Int32) μ3)
set_option maxRecDepth 100000 in
theorem ok_X6_readTest {fr : Nat} (hfr : 10 ≤ fr) {ν : hm_N} {r : Int32} {μR : hm_M} (k_X6_readBoth : hm_M → Option (Int32 × hm_M)) (hk_X6_readBoth : ∀ {r : Int32} {μR : hm_M}  (hT : ν.1 = some 156) (μ : hm_M), hm_LL ν μ → k_X6_readBoth μ = some (r, μR) → hm_CC (hm_LL ν) m_X6_readBoth (fr - 1) 0 0 [.ref 150] μ (some (.int r)) μR) (k_X6_readPlain : hm_M → Option (Int32 × hm_M)) (hk_X6_readPlain : ∀ {r : Int32} {μR : hm_M}  (hT : ν.1 = some 156) (μ : hm_M), hm_LL ν μ → k_X6_readPlain μ = some (r, μR) → hm_CC (hm_LL ν) m_X6_readPlain (fr - 1) 0 0 [.ref 150] μ (some (.int r)) μR) (k_X6_readTest : hm_M → Option (Int32 × hm_M)) (hk_X6_readTest : ∀ {r : Int32} {μR : hm_M}  (hT : ν.1 = some 156) (μ : hm_M), hm_LL ν μ → k_X6_readTest μ = some (r, μR) → hm_CC (hm_LL ν) m_X6_readTest (fr - 1) 0 0 [.ref 150] μ (some (.int r)) μR)  (hT : ν.1 = some 156) (μ : hm_M) (hL : hm_LL ν μ) (h : f_X6_readTest k_X6_readBoth k_X6_readPlain k_X6_readTest μ = some (r, μR)) : hm_CC (hm_LL ν) m_X6_readTest fr 0 0 [.ref 150] μ (some (.int r)) μR := by
  refine hm_enter (lv := [some (.ref 150), none, none]) (by decide) rfl (Nat.le_of_ble_eq_true rfl) ?_
  unfold f_X6_readTest at h
  refine tr_aload_n (pc' := 1) (show decode cX6_readTest 0 = .ok (.aload_n 0, 1) by decide +kernel) rfl rfl rfl ?_
  obtain ⟨x2, μ3, ex2, h⟩ := hm_b2s h
  have cx2 := hk_X6_readBoth hT μ hL ex2
  refine tp_callV (pc' := 4) (As := []) (fr1 := fr - 1) (ci := 6) okm_X6_readBoth lk_HandRing_Reader_114 (show decode cX6_readTest 1 = .ok (.invokevirtual 114, 3) by decide +kernel) rfl rfl rfl (by decide) (la_o hL (by decide) rfl) rfl rfl (Nat.le_of_ble_eq_true rfl) (by omega) cx2 (st' := [.int x2]) rfl ?_
  replace hL := cx2.1
  rcases hm_is h with ⟨hc, h⟩ | ⟨hc, h⟩
  · refine tr_if_ne_f (tgt := 9) (pc' := 7) hc (show decode cX6_readTest 4 = .ok (.ifCond .ne 5, 3) by decide +kernel) (by decide) rfl ?_
    refine tr_iconst (pc' := 8) (v := (0 : Int32)) (show decode cX6_readTest 7 = .ok (.iconst 0, 1) by decide +kernel) rfl (by decide) ?_
    cases h
    exact tr_zret rfl (by decide) (show decode cX6_readTest 8 = .ok (.ireturn, 1) by decide +kernel) hL
  · refine tr_if_ne_t (tgt := 9) hc (show decode cX6_readTest 4 = .ok (.ifCond .ne 5, 3) by decide +kernel) (by decide) ?_
    refine tr_iconst (pc' := 10) (v := (0 : Int32)) (show decode cX6_readTest 9 = .ok (.iconst 0, 1) by decide +kernel) rfl (by decide) ?_
    refine tr_istore_n (pc' := 11) (lv' := [some (.ref 150), some (.int (0 : Int32)), none]) (show decode cX6_readTest 10 = .ok (.istore_n 1, 1) by decide +kernel) rfl rfl (Nat.le_of_ble_eq_true rfl) rfl rfl ?_
    refine ok_X6_readTest_L11 hfr k_X6_readBoth hk_X6_readBoth k_X6_readPlain hk_X6_readPlain k_X6_readTest hk_X6_readTest _ ?_ hT _ (0 : Int32) μ3 hL h
    · intro μz12 hL h
      refine tr_iconst (pc' := 69) (v := (1 : Int32)) (show decode cX6_readTest 68 = .ok (.iconst 1, 1) by decide +kernel) rfl (by decide) ?_
      cases h
      exact tr_zret rfl (by decide) (show decode cX6_readTest 69 = .ok (.ireturn, 1) by decide +kernel) hL
def K_X6_readBoth : Nat → (hm_M → Option (Int32 × hm_M)) × (hm_M → Option (Int32 × hm_M)) × (hm_M → Option (Int32 × hm_M))
  | 0 => (fun _ => none, fun _ => none, fun _ => none)
  | n + 1 => (f_X6_readBoth (K_X6_readBoth n).1 (K_X6_readBoth n).2.1 (K_X6_readBoth n).2.2, f_X6_readPlain (K_X6_readBoth n).1 (K_X6_readBoth n).2.1 (K_X6_readBoth n).2.2, f_X6_readTest (K_X6_readBoth n).1 (K_X6_readBoth n).2.1 (K_X6_readBoth n).2.2)
theorem KK_X6_readBoth {ν : hm_N} : ∀ (n fr : Nat), n + 51 ≤ fr → (∀ {r : Int32} {μR : hm_M}  (hT : ν.1 = some 156) (μ : hm_M), hm_LL ν μ → (K_X6_readBoth n).1 μ = some (r, μR) → hm_CC (hm_LL ν) m_X6_readBoth (fr) 0 0 [.ref 150] μ (some (.int r)) μR) ∧ (∀ {r : Int32} {μR : hm_M}  (hT : ν.1 = some 156) (μ : hm_M), hm_LL ν μ → (K_X6_readBoth n).2.1 μ = some (r, μR) → hm_CC (hm_LL ν) m_X6_readPlain (fr) 0 0 [.ref 150] μ (some (.int r)) μR) ∧ (∀ {r : Int32} {μR : hm_M}  (hT : ν.1 = some 156) (μ : hm_M), hm_LL ν μ → (K_X6_readBoth n).2.2 μ = some (r, μR) → hm_CC (hm_LL ν) m_X6_readTest (fr) 0 0 [.ref 150] μ (some (.int r)) μR) := by
  intro n
  induction n with
  | zero =>
    intro fr _
    exact ⟨by intros; rename_i h; exact absurd (show none = some _ from h) (fun z => by cases z), by intros; rename_i h; exact absurd (show none = some _ from h) (fun z => by cases z), by intros; rename_i h; exact absurd (show none = some _ from h) (fun z => by cases z)⟩
  | succ n ih =>
    intro fr hf
    have I := @ih (fr - 1) (by omega)
    exact ⟨(fun {_} {_}  hT μ hL h => ok_X6_readBoth (by omega) (K_X6_readBoth n).1 I.1 (K_X6_readBoth n).2.1 I.2.1 (K_X6_readBoth n).2.2 I.2.2  hT μ hL h),
      (fun {_} {_}  hT μ hL h => ok_X6_readPlain (by omega) (K_X6_readBoth n).1 I.1 (K_X6_readBoth n).2.1 I.2.1 (K_X6_readBoth n).2.2 I.2.2  hT μ hL h),
      (fun {_} {_}  hT μ hL h => ok_X6_readTest (by omega) (K_X6_readBoth n).1 I.1 (K_X6_readBoth n).2.1 I.2.1 (K_X6_readBoth n).2.2 I.2.2  hT μ hL h)⟩
def F_X6_readBoth (μ : hm_M) : Option (Int32 × hm_M) := (K_X6_readBoth 40).1 μ
theorem OK_X6_readBoth {fr : Nat} (hfr : 91 ≤ fr) {ν : hm_N} {r : Int32} {μR : hm_M}  (hT : ν.1 = some 156) (μ : hm_M) (hL : hm_LL ν μ) (h : F_X6_readBoth μ = some (r, μR)) : hm_CC (hm_LL ν) m_X6_readBoth fr 0 0 [.ref 150] μ (some (.int r)) μR := (KK_X6_readBoth 40 fr (by omega)).1  hT μ hL h
def F_X6_readPlain (μ : hm_M) : Option (Int32 × hm_M) := (K_X6_readBoth 40).2.1 μ
theorem OK_X6_readPlain {fr : Nat} (hfr : 91 ≤ fr) {ν : hm_N} {r : Int32} {μR : hm_M}  (hT : ν.1 = some 156) (μ : hm_M) (hL : hm_LL ν μ) (h : F_X6_readPlain μ = some (r, μR)) : hm_CC (hm_LL ν) m_X6_readPlain fr 0 0 [.ref 150] μ (some (.int r)) μR := (KK_X6_readBoth 40 fr (by omega)).2.1  hT μ hL h
def F_X6_readTest (μ : hm_M) : Option (Int32 × hm_M) := (K_X6_readBoth 40).2.2 μ
theorem OK_X6_readTest {fr : Nat} (hfr : 91 ≤ fr) {ν : hm_N} {r : Int32} {μR : hm_M}  (hT : ν.1 = some 156) (μ : hm_M) (hL : hm_LL ν μ) (h : F_X6_readTest μ = some (r, μR)) : hm_CC (hm_LL ν) m_X6_readTest fr 0 0 [.ref 150] μ (some (.int r)) μR := (KK_X6_readBoth 40 fr (by omega)).2.2  hT μ hL h
def f_X6_readClause_J200 (s0 : Int32) (μ1 : hm_M) : Option (Int32 × hm_M) :=
  Option.bind (f_X5_setPart 151 (4 : Int32) (μ1.1 151 3) μ1) fun μ16 =>
  Option.bind (hm_pI μ16 151 4 ((μ16.1 151 4) + (1 : Int32))) fun μ17 =>
  Option.bind (hm_rz s0) fun x18 => some (x18, μ17)
theorem ok_X6_readClause_J200 {fr : Nat} (hfr : 92 ≤ fr) {ν : hm_N} {r : Int32} {μR : hm_M}     (hT : ν.1 = some 156) (s0 : Int32) (μ1 : hm_M) (hL : hm_LL ν μ1) (h : f_X6_readClause_J200 s0 μ1 = some (r, μR)) : hm_T (hm_LL ν) m_X6_readClause fr 0 0 (some (.int r)) μR 200 [some (.ref 150), none, none, none] [.int s0] μ1 := by
  unfold f_X6_readClause_J200 at h
  refine tr_istore_n (pc' := 201) (lv' := [some (.ref 150), none, none, some (.int s0)]) (show decode cX6_readClause 200 = .ok (.istore_n 3, 1) by decide +kernel) rfl rfl (Nat.le_of_ble_eq_true rfl) rfl rfl ?_
  refine tr_aload_n (pc' := 202) (show decode cX6_readClause 201 = .ok (.aload_n 0, 1) by decide +kernel) rfl rfl rfl ?_
  refine tr_getR (pc' := 205) fl_HandRing_Reader_14 (show decode cX6_readClause 202 = .ok (.getfield 14, 3) by decide +kernel) rfl (la_o hL (by decide) rfl) (la_r hL 95 rfl) ?_
  refine tr_iconst (pc' := 206) (v := (4 : Int32)) (show decode cX6_readClause 205 = .ok (.iconst 4, 1) by decide +kernel) rfl (by decide) ?_
  refine tr_aload_n (pc' := 207) (show decode cX6_readClause 206 = .ok (.aload_n 0, 1) by decide +kernel) rfl rfl rfl ?_
  refine tr_getR (pc' := 210) fl_HandRing_Reader_14 (show decode cX6_readClause 207 = .ok (.getfield 14, 3) by decide +kernel) rfl (la_o hL (by decide) rfl) (la_r hL 95 rfl) ?_
  refine tr_getI (pc' := 213) fl_HandRing_Reader_80 (show decode cX6_readClause 210 = .ok (.getfield 80, 3) by decide +kernel) rfl (la_o hL (by decide) rfl) ?_
  obtain ⟨μ16, ex15, h⟩ := hm_bs h
  have cx15 := ok_X5_setPart (fr := fr - 1) (ν := ν) (by omega) 151 (4 : Int32) (μ1.1 151 3) (la_pg151 hL) μ1 hL ex15
  refine tp_callV (pc' := 216) (As := [.int (4 : Int32), .int (μ1.1 151 3)]) (fr1 := fr - 1) (ci := 5) okm_X5_setPart lk_HandRing_Reader_77 (show decode cX6_readClause 213 = .ok (.invokevirtual 77, 3) by decide +kernel) rfl rfl rfl (by decide) (la_o hL (by decide) rfl) rfl rfl (Nat.le_of_ble_eq_true rfl) (by omega) cx15 (st' := []) rfl ?_
  replace hL := cx15.1
  refine tr_aload_n (pc' := 217) (show decode cX6_readClause 216 = .ok (.aload_n 0, 1) by decide +kernel) rfl rfl rfl ?_
  refine tr_getR (pc' := 220) fl_HandRing_Reader_14 (show decode cX6_readClause 217 = .ok (.getfield 14, 3) by decide +kernel) rfl (la_o hL (by decide) rfl) (la_r hL 95 rfl) ?_
  refine tr_dup (pc' := 221) (show decode cX6_readClause 220 = .ok (.dup, 1) by decide +kernel) rfl rfl ?_
  refine tr_getI (pc' := 224) fl_HandRing_Reader_102 (show decode cX6_readClause 221 = .ok (.getfield 102, 3) by decide +kernel) rfl (la_o hL (by decide) rfl) ?_
  refine tr_iconst (pc' := 225) (v := (1 : Int32)) (show decode cX6_readClause 224 = .ok (.iconst 1, 1) by decide +kernel) rfl (by decide) ?_
  refine tr_iadd (pc' := 226) (show decode cX6_readClause 225 = .ok (.iadd, 1) by decide +kernel) rfl ?_
  obtain ⟨μ17, eμ17, h⟩ := hm_bs h
  refine tp_pI (pc' := 229) fl_HandRing_Reader_102 (show decode cX6_readClause 226 = .ok (.putfield 102, 3) by decide +kernel) rfl (la_o hL (by decide) rfl) eμ17 ?_
  replace hL := hL.same (hm_pI_s eμ17)
  refine tr_iload_n (pc' := 230) (show decode cX6_readClause 229 = .ok (.iload_n 3, 1) by decide +kernel) rfl rfl rfl ?_
  obtain ⟨x18, ex18, h⟩ := hm_bs h
  cases h
  exact tp_zret rfl (show decode cX6_readClause 230 = .ok (.ireturn, 1) by decide +kernel) ex18 hL
def f_X6_readClause_J199 (μ1 : hm_M) : Option (Int32 × hm_M) :=
  f_X6_readClause_J200 (0 : Int32) μ1
theorem ok_X6_readClause_J199 {fr : Nat} (hfr : 92 ≤ fr) {ν : hm_N} {r : Int32} {μR : hm_M}     (hT : ν.1 = some 156)  (μ1 : hm_M) (hL : hm_LL ν μ1) (h : f_X6_readClause_J199 μ1 = some (r, μR)) : hm_T (hm_LL ν) m_X6_readClause fr 0 0 (some (.int r)) μR 199 [some (.ref 150), none, none, none] [] μ1 := by
  unfold f_X6_readClause_J199 at h
  refine tr_iconst (pc' := 200) (v := (0 : Int32)) (show decode cX6_readClause 199 = .ok (.iconst 0, 1) by decide +kernel) rfl (by decide) ?_
  exact ok_X6_readClause_J200 hfr hT (0 : Int32) μ1 hL h
def f_X6_readClause_J195 (μ1 : hm_M) : Option (Int32 × hm_M) :=
  f_X6_readClause_J200 (1 : Int32) μ1
theorem ok_X6_readClause_J195 {fr : Nat} (hfr : 92 ≤ fr) {ν : hm_N} {r : Int32} {μR : hm_M}     (hT : ν.1 = some 156)  (μ1 : hm_M) (hL : hm_LL ν μ1) (h : f_X6_readClause_J195 μ1 = some (r, μR)) : hm_T (hm_LL ν) m_X6_readClause fr 0 0 (some (.int r)) μR 195 [some (.ref 150), none, none, none] [] μ1 := by
  unfold f_X6_readClause_J195 at h
  refine tr_iconst (pc' := 196) (v := (1 : Int32)) (show decode cX6_readClause 195 = .ok (.iconst 1, 1) by decide +kernel) rfl (by decide) ?_
  refine tr_goto (tgt := 200) (show decode cX6_readClause 196 = .ok (.goto 4, 3) by decide +kernel) rfl ?_
  exact ok_X6_readClause_J200 hfr hT (1 : Int32) μ1 hL h
def f_X6_readClause_J160 (y3 : Int32) (μ1 : hm_M) : Option (Int32 × hm_M) :=
  Option.bind (f_X5_setPart 151 (3 : Int32) (μ1.1 151 3) μ1) fun μ14 =>
  (if y3 = 0 then
  f_X6_readClause_J199 μ14
  else
  hm_b2 (f_X6_passWord 5 μ14) fun x19 μ20 =>
  (if x19 = 0 then
  f_X6_readClause_J195 μ20
  else
  hm_b2 (F_X6_readTest μ20) fun x21 μ22 =>
  (if x21 = 0 then
  f_X6_readClause_J199 μ22
  else
  f_X6_readClause_J195 μ22)))
theorem ok_X6_readClause_J160 {fr : Nat} (hfr : 92 ≤ fr) {ν : hm_N} {r : Int32} {μR : hm_M}     (hT : ν.1 = some 156) (y3 : Int32) (μ1 : hm_M) (hL : hm_LL ν μ1) (h : f_X6_readClause_J160 y3 μ1 = some (r, μR)) : hm_T (hm_LL ν) m_X6_readClause fr 0 0 (some (.int r)) μR 160 [some (.ref 150), none, none, some (.int y3)] [] μ1 := by
  unfold f_X6_readClause_J160 at h
  refine tr_aload_n (pc' := 161) (show decode cX6_readClause 160 = .ok (.aload_n 0, 1) by decide +kernel) rfl rfl rfl ?_
  refine tr_getR (pc' := 164) fl_HandRing_Reader_14 (show decode cX6_readClause 161 = .ok (.getfield 14, 3) by decide +kernel) rfl (la_o hL (by decide) rfl) (la_r hL 95 rfl) ?_
  refine tr_iconst (pc' := 165) (v := (3 : Int32)) (show decode cX6_readClause 164 = .ok (.iconst 3, 1) by decide +kernel) rfl (by decide) ?_
  refine tr_aload_n (pc' := 166) (show decode cX6_readClause 165 = .ok (.aload_n 0, 1) by decide +kernel) rfl rfl rfl ?_
  refine tr_getR (pc' := 169) fl_HandRing_Reader_14 (show decode cX6_readClause 166 = .ok (.getfield 14, 3) by decide +kernel) rfl (la_o hL (by decide) rfl) (la_r hL 95 rfl) ?_
  refine tr_getI (pc' := 172) fl_HandRing_Reader_80 (show decode cX6_readClause 169 = .ok (.getfield 80, 3) by decide +kernel) rfl (la_o hL (by decide) rfl) ?_
  obtain ⟨μ14, ex13, h⟩ := hm_bs h
  have cx13 := ok_X5_setPart (fr := fr - 1) (ν := ν) (by omega) 151 (3 : Int32) (μ1.1 151 3) (la_pg151 hL) μ1 hL ex13
  refine tp_callV (pc' := 175) (As := [.int (3 : Int32), .int (μ1.1 151 3)]) (fr1 := fr - 1) (ci := 5) okm_X5_setPart lk_HandRing_Reader_77 (show decode cX6_readClause 172 = .ok (.invokevirtual 77, 3) by decide +kernel) rfl rfl rfl (by decide) (la_o hL (by decide) rfl) rfl rfl (Nat.le_of_ble_eq_true rfl) (by omega) cx13 (st' := []) rfl ?_
  replace hL := cx13.1
  refine tr_iload_n (pc' := 176) (show decode cX6_readClause 175 = .ok (.iload_n 3, 1) by decide +kernel) rfl rfl rfl ?_
  rcases hm_is h with ⟨hc, h⟩ | ⟨hc, h⟩
  · refine tr_if_eq_t (tgt := 199) hc (show decode cX6_readClause 176 = .ok (.ifCond .eq 23, 3) by decide +kernel) (by decide) ?_
    refine hm_fgt [true, false, false, false] (lv' := [some (.ref 150), none, none, none]) rfl ?_
    exact ok_X6_readClause_J199 hfr hT μ14 hL h
  · refine tr_if_eq_f (tgt := 199) (pc' := 179) hc (show decode cX6_readClause 176 = .ok (.ifCond .eq 23, 3) by decide +kernel) (by decide) rfl ?_
    refine tr_aload_n (pc' := 180) (show decode cX6_readClause 179 = .ok (.aload_n 0, 1) by decide +kernel) rfl rfl rfl ?_
    refine tr_ldcS (pc' := 182) (i := 5) rfl rfl (show decode cX6_readClause 180 = .ok (.ldc 93, 2) by decide +kernel) rfl ?_
    obtain ⟨x19, μ20, ex19, h⟩ := hm_b2s h
    have cx19 := ok_X6_passWord (fr := fr - 1) (ν := ν) (by omega) 5 (by decide) hT μ14 hL ex19
    refine tp_callV (pc' := 185) (As := [.ref (4 + 5)]) (fr1 := fr - 1) (ci := 6) okm_X6_passWord lk_HandRing_Reader_95 (show decode cX6_readClause 182 = .ok (.invokevirtual 95, 3) by decide +kernel) rfl rfl rfl (by decide) (la_o hL (by decide) rfl) rfl rfl (Nat.le_of_ble_eq_true rfl) (by omega) cx19 (st' := [.int x19]) rfl ?_
    replace hL := cx19.1
    rcases hm_is h with ⟨hc, h⟩ | ⟨hc, h⟩
    · refine tr_if_eq_t (tgt := 195) hc (show decode cX6_readClause 185 = .ok (.ifCond .eq 10, 3) by decide +kernel) (by decide) ?_
      refine hm_fgt [true, false, false, false] (lv' := [some (.ref 150), none, none, none]) rfl ?_
      exact ok_X6_readClause_J195 hfr hT μ20 hL h
    · refine tr_if_eq_f (tgt := 195) (pc' := 188) hc (show decode cX6_readClause 185 = .ok (.ifCond .eq 10, 3) by decide +kernel) (by decide) rfl ?_
      refine tr_aload_n (pc' := 189) (show decode cX6_readClause 188 = .ok (.aload_n 0, 1) by decide +kernel) rfl rfl rfl ?_
      obtain ⟨x21, μ22, ex21, h⟩ := hm_b2s h
      have cx21 := OK_X6_readTest (fr := fr - 1) (ν := ν) (by omega) hT μ20 hL ex21
      refine tp_callV (pc' := 192) (As := []) (fr1 := fr - 1) (ci := 6) okm_X6_readTest lk_HandRing_Reader_99 (show decode cX6_readClause 189 = .ok (.invokevirtual 99, 3) by decide +kernel) rfl rfl rfl (by decide) (la_o hL (by decide) rfl) rfl rfl (Nat.le_of_ble_eq_true rfl) (by omega) cx21 (st' := [.int x21]) rfl ?_
      replace hL := cx21.1
      rcases hm_is h with ⟨hc, h⟩ | ⟨hc, h⟩
      · refine tr_if_eq_t (tgt := 199) hc (show decode cX6_readClause 192 = .ok (.ifCond .eq 7, 3) by decide +kernel) (by decide) ?_
        refine hm_fgt [true, false, false, false] (lv' := [some (.ref 150), none, none, none]) rfl ?_
        exact ok_X6_readClause_J199 hfr hT μ22 hL h
      · refine tr_if_eq_f (tgt := 199) (pc' := 195) hc (show decode cX6_readClause 192 = .ok (.ifCond .eq 7, 3) by decide +kernel) (by decide) rfl ?_
        refine hm_fgt [true, false, false, false] (lv' := [some (.ref 150), none, none, none]) rfl ?_
        exact ok_X6_readClause_J195 hfr hT μ22 hL h
def f_X6_readClause_J159 (s0 : Int32) (μ1 : hm_M) : Option (Int32 × hm_M) :=
  f_X6_readClause_J160 s0 μ1
theorem ok_X6_readClause_J159 {fr : Nat} (hfr : 92 ≤ fr) {ν : hm_N} {r : Int32} {μR : hm_M}     (hT : ν.1 = some 156) (s0 : Int32) (μ1 : hm_M) (hL : hm_LL ν μ1) (h : f_X6_readClause_J159 s0 μ1 = some (r, μR)) : hm_T (hm_LL ν) m_X6_readClause fr 0 0 (some (.int r)) μR 159 [some (.ref 150), none, none, none] [.int s0] μ1 := by
  unfold f_X6_readClause_J159 at h
  refine tr_istore_n (pc' := 160) (lv' := [some (.ref 150), none, none, some (.int s0)]) (show decode cX6_readClause 159 = .ok (.istore_n 3, 1) by decide +kernel) rfl rfl (Nat.le_of_ble_eq_true rfl) rfl rfl ?_
  exact ok_X6_readClause_J160 hfr hT s0 μ1 hL h
def f_X6_readClause_J158 (μ1 : hm_M) : Option (Int32 × hm_M) :=
  f_X6_readClause_J159 (0 : Int32) μ1
theorem ok_X6_readClause_J158 {fr : Nat} (hfr : 92 ≤ fr) {ν : hm_N} {r : Int32} {μR : hm_M}     (hT : ν.1 = some 156)  (μ1 : hm_M) (hL : hm_LL ν μ1) (h : f_X6_readClause_J158 μ1 = some (r, μR)) : hm_T (hm_LL ν) m_X6_readClause fr 0 0 (some (.int r)) μR 158 [some (.ref 150), none, none, none] [] μ1 := by
  unfold f_X6_readClause_J158 at h
  refine tr_iconst (pc' := 159) (v := (0 : Int32)) (show decode cX6_readClause 158 = .ok (.iconst 0, 1) by decide +kernel) rfl (by decide) ?_
  exact ok_X6_readClause_J159 hfr hT (0 : Int32) μ1 hL h
def f_X6_readClause_J147 (μ1 : hm_M) : Option (Int32 × hm_M) :=
  hm_b2 (f_X6_readTimes μ1) fun x23 μ24 =>
  (if x23 = 0 then
  f_X6_readClause_J158 μ24
  else
  f_X6_readClause_J159 (1 : Int32) μ24)
theorem ok_X6_readClause_J147 {fr : Nat} (hfr : 92 ≤ fr) {ν : hm_N} {r : Int32} {μR : hm_M}     (hT : ν.1 = some 156)  (μ1 : hm_M) (hL : hm_LL ν μ1) (h : f_X6_readClause_J147 μ1 = some (r, μR)) : hm_T (hm_LL ν) m_X6_readClause fr 0 0 (some (.int r)) μR 147 [some (.ref 150), none, none, none] [] μ1 := by
  unfold f_X6_readClause_J147 at h
  refine tr_aload_n (pc' := 148) (show decode cX6_readClause 147 = .ok (.aload_n 0, 1) by decide +kernel) rfl rfl rfl ?_
  obtain ⟨x23, μ24, ex23, h⟩ := hm_b2s h
  have cx23 := ok_X6_readTimes (fr := fr - 1) (ν := ν) (by omega) hT μ1 hL ex23
  refine tp_callV (pc' := 151) (As := []) (fr1 := fr - 1) (ci := 6) okm_X6_readTimes lk_HandRing_Reader_90 (show decode cX6_readClause 148 = .ok (.invokevirtual 90, 3) by decide +kernel) rfl rfl rfl (by decide) (la_o hL (by decide) rfl) rfl rfl (Nat.le_of_ble_eq_true rfl) (by omega) cx23 (st' := [.int x23]) rfl ?_
  replace hL := cx23.1
  rcases hm_is h with ⟨hc, h⟩ | ⟨hc, h⟩
  · refine tr_if_eq_t (tgt := 158) hc (show decode cX6_readClause 151 = .ok (.ifCond .eq 7, 3) by decide +kernel) (by decide) ?_
    exact ok_X6_readClause_J158 hfr hT μ24 hL h
  · refine tr_if_eq_f (tgt := 158) (pc' := 154) hc (show decode cX6_readClause 151 = .ok (.ifCond .eq 7, 3) by decide +kernel) (by decide) rfl ?_
    refine tr_iconst (pc' := 155) (v := (1 : Int32)) (show decode cX6_readClause 154 = .ok (.iconst 1, 1) by decide +kernel) rfl (by decide) ?_
    refine tr_goto (tgt := 159) (show decode cX6_readClause 155 = .ok (.goto 4, 3) by decide +kernel) rfl ?_
    exact ok_X6_readClause_J159 hfr hT (1 : Int32) μ24 hL h
def f_X6_readClause_J101 (s0 : Int32) (y1 : Int32) (y2 : Int32) (μ1 : hm_M) : Option (Int32 × hm_M) :=
  Option.bind (f_X5_setPart 151 (2 : Int32) (μ1.1 151 3) μ1) fun μ12 =>
  (if (μ12.1 150 3) = 0 then
  (if s0 = 0 then
  f_X6_readClause_J158 μ12
  else
  (if y2 = 0 then
  hm_b2 (f_X6_passJoin y1 μ12) fun x25 μ26 =>
  (if x25 = 0 then
  f_X6_readClause_J158 μ26
  else
  hm_b2 (F_X6_readSum μ26) fun x27 μ28 =>
  (if x27 = 0 then
  f_X6_readClause_J158 μ28
  else
  f_X6_readClause_J147 μ28))
  else
  f_X6_readClause_J147 μ12))
  else
  f_X6_readClause_J160 s0 μ12)
theorem ok_X6_readClause_J101 {fr : Nat} (hfr : 92 ≤ fr) {ν : hm_N} {r : Int32} {μR : hm_M}     (hT : ν.1 = some 156) (s0 : Int32) (y1 : Int32) (y2 : Int32) (μ1 : hm_M) (hL : hm_LL ν μ1) (h : f_X6_readClause_J101 s0 y1 y2 μ1 = some (r, μR)) : hm_T (hm_LL ν) m_X6_readClause fr 0 0 (some (.int r)) μR 101 [some (.ref 150), some (.int y1), some (.int y2), none] [.int s0] μ1 := by
  unfold f_X6_readClause_J101 at h
  refine tr_istore_n (pc' := 102) (lv' := [some (.ref 150), some (.int y1), some (.int y2), some (.int s0)]) (show decode cX6_readClause 101 = .ok (.istore_n 3, 1) by decide +kernel) rfl rfl (Nat.le_of_ble_eq_true rfl) rfl rfl ?_
  refine tr_aload_n (pc' := 103) (show decode cX6_readClause 102 = .ok (.aload_n 0, 1) by decide +kernel) rfl rfl rfl ?_
  refine tr_getR (pc' := 106) fl_HandRing_Reader_14 (show decode cX6_readClause 103 = .ok (.getfield 14, 3) by decide +kernel) rfl (la_o hL (by decide) rfl) (la_r hL 95 rfl) ?_
  refine tr_iconst (pc' := 107) (v := (2 : Int32)) (show decode cX6_readClause 106 = .ok (.iconst 2, 1) by decide +kernel) rfl (by decide) ?_
  refine tr_aload_n (pc' := 108) (show decode cX6_readClause 107 = .ok (.aload_n 0, 1) by decide +kernel) rfl rfl rfl ?_
  refine tr_getR (pc' := 111) fl_HandRing_Reader_14 (show decode cX6_readClause 108 = .ok (.getfield 14, 3) by decide +kernel) rfl (la_o hL (by decide) rfl) (la_r hL 95 rfl) ?_
  refine tr_getI (pc' := 114) fl_HandRing_Reader_80 (show decode cX6_readClause 111 = .ok (.getfield 80, 3) by decide +kernel) rfl (la_o hL (by decide) rfl) ?_
  obtain ⟨μ12, ex11, h⟩ := hm_bs h
  have cx11 := ok_X5_setPart (fr := fr - 1) (ν := ν) (by omega) 151 (2 : Int32) (μ1.1 151 3) (la_pg151 hL) μ1 hL ex11
  refine tp_callV (pc' := 117) (As := [.int (2 : Int32), .int (μ1.1 151 3)]) (fr1 := fr - 1) (ci := 5) okm_X5_setPart lk_HandRing_Reader_77 (show decode cX6_readClause 114 = .ok (.invokevirtual 77, 3) by decide +kernel) rfl rfl rfl (by decide) (la_o hL (by decide) rfl) rfl rfl (Nat.le_of_ble_eq_true rfl) (by omega) cx11 (st' := []) rfl ?_
  replace hL := cx11.1
  refine tr_aload_n (pc' := 118) (show decode cX6_readClause 117 = .ok (.aload_n 0, 1) by decide +kernel) rfl rfl rfl ?_
  refine tr_getI (pc' := 121) fl_HandRing_Reader_34 (show decode cX6_readClause 118 = .ok (.getfield 34, 3) by decide +kernel) rfl (la_o hL (by decide) rfl) ?_
  rcases hm_is h with ⟨hc, h⟩ | ⟨hc, h⟩
  · refine tr_if_ne_f (tgt := 160) (pc' := 124) hc (show decode cX6_readClause 121 = .ok (.ifCond .ne 39, 3) by decide +kernel) (by decide) rfl ?_
    refine tr_iload_n (pc' := 125) (show decode cX6_readClause 124 = .ok (.iload_n 3, 1) by decide +kernel) rfl rfl rfl ?_
    rcases hm_is h with ⟨hc, h⟩ | ⟨hc, h⟩
    · refine tr_if_eq_t (tgt := 158) hc (show decode cX6_readClause 125 = .ok (.ifCond .eq 33, 3) by decide +kernel) (by decide) ?_
      refine hm_fgt [true, false, false, false] (lv' := [some (.ref 150), none, none, none]) rfl ?_
      exact ok_X6_readClause_J158 hfr hT μ12 hL h
    · refine tr_if_eq_f (tgt := 158) (pc' := 128) hc (show decode cX6_readClause 125 = .ok (.ifCond .eq 33, 3) by decide +kernel) (by decide) rfl ?_
      refine tr_iload_n (pc' := 129) (show decode cX6_readClause 128 = .ok (.iload_n 2, 1) by decide +kernel) rfl rfl rfl ?_
      rcases hm_is h with ⟨hc, h⟩ | ⟨hc, h⟩
      · refine tr_if_ne_f (tgt := 147) (pc' := 132) hc (show decode cX6_readClause 129 = .ok (.ifCond .ne 18, 3) by decide +kernel) (by decide) rfl ?_
        refine tr_aload_n (pc' := 133) (show decode cX6_readClause 132 = .ok (.aload_n 0, 1) by decide +kernel) rfl rfl rfl ?_
        refine tr_iload_n (pc' := 134) (show decode cX6_readClause 133 = .ok (.iload_n 1, 1) by decide +kernel) rfl rfl rfl ?_
        obtain ⟨x25, μ26, ex25, h⟩ := hm_b2s h
        have cx25 := ok_X6_passJoin (fr := fr - 1) (ν := ν) (by omega) y1 hT μ12 hL ex25
        refine tp_callV (pc' := 137) (As := [.int y1]) (fr1 := fr - 1) (ci := 6) okm_X6_passJoin lk_HandRing_Reader_86 (show decode cX6_readClause 134 = .ok (.invokevirtual 86, 3) by decide +kernel) rfl rfl rfl (by decide) (la_o hL (by decide) rfl) rfl rfl (Nat.le_of_ble_eq_true rfl) (by omega) cx25 (st' := [.int x25]) rfl ?_
        replace hL := cx25.1
        rcases hm_is h with ⟨hc, h⟩ | ⟨hc, h⟩
        · refine tr_if_eq_t (tgt := 158) hc (show decode cX6_readClause 137 = .ok (.ifCond .eq 21, 3) by decide +kernel) (by decide) ?_
          refine hm_fgt [true, false, false, false] (lv' := [some (.ref 150), none, none, none]) rfl ?_
          exact ok_X6_readClause_J158 hfr hT μ26 hL h
        · refine tr_if_eq_f (tgt := 158) (pc' := 140) hc (show decode cX6_readClause 137 = .ok (.ifCond .eq 21, 3) by decide +kernel) (by decide) rfl ?_
          refine tr_aload_n (pc' := 141) (show decode cX6_readClause 140 = .ok (.aload_n 0, 1) by decide +kernel) rfl rfl rfl ?_
          obtain ⟨x27, μ28, ex27, h⟩ := hm_b2s h
          have cx27 := OK_X6_readSum (fr := fr - 1) (ν := ν) (by omega) hT μ26 hL ex27
          refine tp_callV (pc' := 144) (As := []) (fr1 := fr - 1) (ci := 6) okm_X6_readSum lk_HandRing_Reader_83 (show decode cX6_readClause 141 = .ok (.invokevirtual 83, 3) by decide +kernel) rfl rfl rfl (by decide) (la_o hL (by decide) rfl) rfl rfl (Nat.le_of_ble_eq_true rfl) (by omega) cx27 (st' := [.int x27]) rfl ?_
          replace hL := cx27.1
          rcases hm_is h with ⟨hc, h⟩ | ⟨hc, h⟩
          · refine tr_if_eq_t (tgt := 158) hc (show decode cX6_readClause 144 = .ok (.ifCond .eq 14, 3) by decide +kernel) (by decide) ?_
            refine hm_fgt [true, false, false, false] (lv' := [some (.ref 150), none, none, none]) rfl ?_
            exact ok_X6_readClause_J158 hfr hT μ28 hL h
          · refine tr_if_eq_f (tgt := 158) (pc' := 147) hc (show decode cX6_readClause 144 = .ok (.ifCond .eq 14, 3) by decide +kernel) (by decide) rfl ?_
            refine hm_fgt [true, false, false, false] (lv' := [some (.ref 150), none, none, none]) rfl ?_
            exact ok_X6_readClause_J147 hfr hT μ28 hL h
      · refine tr_if_ne_t (tgt := 147) hc (show decode cX6_readClause 129 = .ok (.ifCond .ne 18, 3) by decide +kernel) (by decide) ?_
        refine hm_fgt [true, false, false, false] (lv' := [some (.ref 150), none, none, none]) rfl ?_
        exact ok_X6_readClause_J147 hfr hT μ12 hL h
  · refine tr_if_ne_t (tgt := 160) hc (show decode cX6_readClause 121 = .ok (.ifCond .ne 39, 3) by decide +kernel) (by decide) ?_
    refine hm_fgt [true, false, false, true] (lv' := [some (.ref 150), none, none, some (.int s0)]) rfl ?_
    exact ok_X6_readClause_J160 hfr hT s0 μ12 hL h
def f_X6_readClause_J96 (y1 : Int32) (y2 : Int32) (μ1 : hm_M) : Option (Int32 × hm_M) :=
  f_X6_readClause_J101 (1 : Int32) y1 y2 μ1
theorem ok_X6_readClause_J96 {fr : Nat} (hfr : 92 ≤ fr) {ν : hm_N} {r : Int32} {μR : hm_M}     (hT : ν.1 = some 156) (y1 : Int32) (y2 : Int32) (μ1 : hm_M) (hL : hm_LL ν μ1) (h : f_X6_readClause_J96 y1 y2 μ1 = some (r, μR)) : hm_T (hm_LL ν) m_X6_readClause fr 0 0 (some (.int r)) μR 96 [some (.ref 150), some (.int y1), some (.int y2), none] [] μ1 := by
  unfold f_X6_readClause_J96 at h
  refine tr_iconst (pc' := 97) (v := (1 : Int32)) (show decode cX6_readClause 96 = .ok (.iconst 1, 1) by decide +kernel) rfl (by decide) ?_
  refine tr_goto (tgt := 101) (show decode cX6_readClause 97 = .ok (.goto 4, 3) by decide +kernel) rfl ?_
  exact ok_X6_readClause_J101 hfr hT (1 : Int32) y1 y2 μ1 hL h
def f_X6_readClause_J51 (s0 : Int32) (y1 : Int32) (μ1 : hm_M) : Option (Int32 × hm_M) :=
  Option.bind (f_X5_setPart 151 (0 : Int32) y1 μ1) fun μ6 =>
  Option.bind (f_X5_setPart 151 (1 : Int32) (μ6.1 151 3) μ6) fun μ8 =>
  Option.bind (f_X5_setPart 151 (5 : Int32) (1 : Int32) μ8) fun μ10 =>
  (if s0 = 0 then
  hm_b2 (F_X6_readSum μ10) fun x29 μ30 =>
  (if x29 = 0 then
  f_X6_readClause_J101 (0 : Int32) y1 s0 μ30
  else
  f_X6_readClause_J96 y1 s0 μ30)
  else
  f_X6_readClause_J96 y1 s0 μ10)
theorem ok_X6_readClause_J51 {fr : Nat} (hfr : 92 ≤ fr) {ν : hm_N} {r : Int32} {μR : hm_M}     (hT : ν.1 = some 156) (s0 : Int32) (y1 : Int32) (μ1 : hm_M) (hL : hm_LL ν μ1) (h : f_X6_readClause_J51 s0 y1 μ1 = some (r, μR)) : hm_T (hm_LL ν) m_X6_readClause fr 0 0 (some (.int r)) μR 51 [some (.ref 150), some (.int y1), none, none] [.int s0] μ1 := by
  unfold f_X6_readClause_J51 at h
  refine tr_istore_n (pc' := 52) (lv' := [some (.ref 150), some (.int y1), some (.int s0), none]) (show decode cX6_readClause 51 = .ok (.istore_n 2, 1) by decide +kernel) rfl rfl (Nat.le_of_ble_eq_true rfl) rfl rfl ?_
  refine tr_aload_n (pc' := 53) (show decode cX6_readClause 52 = .ok (.aload_n 0, 1) by decide +kernel) rfl rfl rfl ?_
  refine tr_getR (pc' := 56) fl_HandRing_Reader_14 (show decode cX6_readClause 53 = .ok (.getfield 14, 3) by decide +kernel) rfl (la_o hL (by decide) rfl) (la_r hL 95 rfl) ?_
  refine tr_iconst (pc' := 57) (v := (0 : Int32)) (show decode cX6_readClause 56 = .ok (.iconst 0, 1) by decide +kernel) rfl (by decide) ?_
  refine tr_iload_n (pc' := 58) (show decode cX6_readClause 57 = .ok (.iload_n 1, 1) by decide +kernel) rfl rfl rfl ?_
  obtain ⟨μ6, ex5, h⟩ := hm_bs h
  have cx5 := ok_X5_setPart (fr := fr - 1) (ν := ν) (by omega) 151 (0 : Int32) y1 (la_pg151 hL) μ1 hL ex5
  refine tp_callV (pc' := 61) (As := [.int (0 : Int32), .int y1]) (fr1 := fr - 1) (ci := 5) okm_X5_setPart lk_HandRing_Reader_77 (show decode cX6_readClause 58 = .ok (.invokevirtual 77, 3) by decide +kernel) rfl rfl rfl (by decide) (la_o hL (by decide) rfl) rfl rfl (Nat.le_of_ble_eq_true rfl) (by omega) cx5 (st' := []) rfl ?_
  replace hL := cx5.1
  refine tr_aload_n (pc' := 62) (show decode cX6_readClause 61 = .ok (.aload_n 0, 1) by decide +kernel) rfl rfl rfl ?_
  refine tr_getR (pc' := 65) fl_HandRing_Reader_14 (show decode cX6_readClause 62 = .ok (.getfield 14, 3) by decide +kernel) rfl (la_o hL (by decide) rfl) (la_r hL 95 rfl) ?_
  refine tr_iconst (pc' := 66) (v := (1 : Int32)) (show decode cX6_readClause 65 = .ok (.iconst 1, 1) by decide +kernel) rfl (by decide) ?_
  refine tr_aload_n (pc' := 67) (show decode cX6_readClause 66 = .ok (.aload_n 0, 1) by decide +kernel) rfl rfl rfl ?_
  refine tr_getR (pc' := 70) fl_HandRing_Reader_14 (show decode cX6_readClause 67 = .ok (.getfield 14, 3) by decide +kernel) rfl (la_o hL (by decide) rfl) (la_r hL 95 rfl) ?_
  refine tr_getI (pc' := 73) fl_HandRing_Reader_80 (show decode cX6_readClause 70 = .ok (.getfield 80, 3) by decide +kernel) rfl (la_o hL (by decide) rfl) ?_
  obtain ⟨μ8, ex7, h⟩ := hm_bs h
  have cx7 := ok_X5_setPart (fr := fr - 1) (ν := ν) (by omega) 151 (1 : Int32) (μ6.1 151 3) (la_pg151 hL) μ6 hL ex7
  refine tp_callV (pc' := 76) (As := [.int (1 : Int32), .int (μ6.1 151 3)]) (fr1 := fr - 1) (ci := 5) okm_X5_setPart lk_HandRing_Reader_77 (show decode cX6_readClause 73 = .ok (.invokevirtual 77, 3) by decide +kernel) rfl rfl rfl (by decide) (la_o hL (by decide) rfl) rfl rfl (Nat.le_of_ble_eq_true rfl) (by omega) cx7 (st' := []) rfl ?_
  replace hL := cx7.1
  refine tr_aload_n (pc' := 77) (show decode cX6_readClause 76 = .ok (.aload_n 0, 1) by decide +kernel) rfl rfl rfl ?_
  refine tr_getR (pc' := 80) fl_HandRing_Reader_14 (show decode cX6_readClause 77 = .ok (.getfield 14, 3) by decide +kernel) rfl (la_o hL (by decide) rfl) (la_r hL 95 rfl) ?_
  refine tr_iconst (pc' := 81) (v := (5 : Int32)) (show decode cX6_readClause 80 = .ok (.iconst 5, 1) by decide +kernel) rfl (by decide) ?_
  refine tr_iconst (pc' := 82) (v := (1 : Int32)) (show decode cX6_readClause 81 = .ok (.iconst 1, 1) by decide +kernel) rfl (by decide) ?_
  obtain ⟨μ10, ex9, h⟩ := hm_bs h
  have cx9 := ok_X5_setPart (fr := fr - 1) (ν := ν) (by omega) 151 (5 : Int32) (1 : Int32) (la_pg151 hL) μ8 hL ex9
  refine tp_callV (pc' := 85) (As := [.int (5 : Int32), .int (1 : Int32)]) (fr1 := fr - 1) (ci := 5) okm_X5_setPart lk_HandRing_Reader_77 (show decode cX6_readClause 82 = .ok (.invokevirtual 77, 3) by decide +kernel) rfl rfl rfl (by decide) (la_o hL (by decide) rfl) rfl rfl (Nat.le_of_ble_eq_true rfl) (by omega) cx9 (st' := []) rfl ?_
  replace hL := cx9.1
  refine tr_iload_n (pc' := 86) (show decode cX6_readClause 85 = .ok (.iload_n 2, 1) by decide +kernel) rfl rfl rfl ?_
  rcases hm_is h with ⟨hc, h⟩ | ⟨hc, h⟩
  · refine tr_if_ne_f (tgt := 96) (pc' := 89) hc (show decode cX6_readClause 86 = .ok (.ifCond .ne 10, 3) by decide +kernel) (by decide) rfl ?_
    refine tr_aload_n (pc' := 90) (show decode cX6_readClause 89 = .ok (.aload_n 0, 1) by decide +kernel) rfl rfl rfl ?_
    obtain ⟨x29, μ30, ex29, h⟩ := hm_b2s h
    have cx29 := OK_X6_readSum (fr := fr - 1) (ν := ν) (by omega) hT μ10 hL ex29
    refine tp_callV (pc' := 93) (As := []) (fr1 := fr - 1) (ci := 6) okm_X6_readSum lk_HandRing_Reader_83 (show decode cX6_readClause 90 = .ok (.invokevirtual 83, 3) by decide +kernel) rfl rfl rfl (by decide) (la_o hL (by decide) rfl) rfl rfl (Nat.le_of_ble_eq_true rfl) (by omega) cx29 (st' := [.int x29]) rfl ?_
    replace hL := cx29.1
    rcases hm_is h with ⟨hc, h⟩ | ⟨hc, h⟩
    · refine tr_if_eq_t (tgt := 100) hc (show decode cX6_readClause 93 = .ok (.ifCond .eq 7, 3) by decide +kernel) (by decide) ?_
      refine tr_iconst (pc' := 101) (v := (0 : Int32)) (show decode cX6_readClause 100 = .ok (.iconst 0, 1) by decide +kernel) rfl (by decide) ?_
      exact ok_X6_readClause_J101 hfr hT (0 : Int32) y1 s0 μ30 hL h
    · refine tr_if_eq_f (tgt := 100) (pc' := 96) hc (show decode cX6_readClause 93 = .ok (.ifCond .eq 7, 3) by decide +kernel) (by decide) rfl ?_
      exact ok_X6_readClause_J96 hfr hT y1 s0 μ30 hL h
  · refine tr_if_ne_t (tgt := 96) hc (show decode cX6_readClause 86 = .ok (.ifCond .ne 10, 3) by decide +kernel) (by decide) ?_
    exact ok_X6_readClause_J96 hfr hT y1 s0 μ10 hL h
def f_X6_readClause_J43 (s0 : Int32) (s1 : Int32) (y1 : Int32) (μ1 : hm_M) : Option (Int32 × hm_M) :=
  (if s1 = s0 then
  f_X6_readClause_J51 (1 : Int32) y1 μ1
  else
  f_X6_readClause_J51 (0 : Int32) y1 μ1)
theorem ok_X6_readClause_J43 {fr : Nat} (hfr : 92 ≤ fr) {ν : hm_N} {r : Int32} {μR : hm_M}     (hT : ν.1 = some 156) (s0 : Int32) (s1 : Int32) (y1 : Int32) (μ1 : hm_M) (hL : hm_LL ν μ1) (h : f_X6_readClause_J43 s0 s1 y1 μ1 = some (r, μR)) : hm_T (hm_LL ν) m_X6_readClause fr 0 0 (some (.int r)) μR 43 [some (.ref 150), some (.int y1), none, none] [.int s0, .int s1] μ1 := by
  unfold f_X6_readClause_J43 at h
  rcases hm_is h with ⟨hc, h⟩ | ⟨hc, h⟩
  · refine tr_icmp_ne_f (tgt := 50) (pc' := 46) hc (show decode cX6_readClause 43 = .ok (.if_icmp .ne 7, 3) by decide +kernel) (by decide) rfl ?_
    refine tr_iconst (pc' := 47) (v := (1 : Int32)) (show decode cX6_readClause 46 = .ok (.iconst 1, 1) by decide +kernel) rfl (by decide) ?_
    refine tr_goto (tgt := 51) (show decode cX6_readClause 47 = .ok (.goto 4, 3) by decide +kernel) rfl ?_
    exact ok_X6_readClause_J51 hfr hT (1 : Int32) y1 μ1 hL h
  · refine tr_icmp_ne_t (tgt := 50) hc (show decode cX6_readClause 43 = .ok (.if_icmp .ne 7, 3) by decide +kernel) (by decide) ?_
    refine tr_iconst (pc' := 51) (v := (0 : Int32)) (show decode cX6_readClause 50 = .ok (.iconst 0, 1) by decide +kernel) rfl (by decide) ?_
    exact ok_X6_readClause_J51 hfr hT (0 : Int32) y1 μ1 hL h
def f_X6_readClause_J15 (s0 : Nat) (μ1 : hm_M) : Option (Int32 × hm_M) :=
  Option.bind (f_X6_placeIn s0 μ1) fun x2 =>
  (if x2 = (-1 : Int32) then
  some ((0 : Int32), μ1)
  else
  Option.bind (f_X6_goOn μ1) fun μ4 =>
  (if (μ4.1 150 3) = 0 then
  f_X6_readClause_J43 (3 : Int32) x2 x2 μ4
  else
  f_X6_readClause_J43 (2 : Int32) x2 x2 μ4))
theorem ok_X6_readClause_J15 {fr : Nat} (hfr : 92 ≤ fr) {ν : hm_N} {r : Int32} {μR : hm_M}     (hT : ν.1 = some 156) (s0 : Nat) (hs0 : s0 < 10) (μ1 : hm_M) (hL : hm_LL ν μ1) (h : f_X6_readClause_J15 s0 μ1 = some (r, μR)) : hm_T (hm_LL ν) m_X6_readClause fr 0 0 (some (.int r)) μR 15 [some (.ref 150), none, none, none] [.ref (4 + s0), .ref 150] μ1 := by
  unfold f_X6_readClause_J15 at h
  obtain ⟨x2, ex2, h⟩ := hm_bs h
  have cx2 := ok_X6_placeIn (fr := fr - 1) (ν := ν) (by omega) s0 hs0 hT μ1 hL ex2
  refine tp_callV (pc' := 18) (As := [.ref (4 + s0)]) (fr1 := fr - 1) (ci := 6) okm_X6_placeIn lk_HandRing_Reader_71 (show decode cX6_readClause 15 = .ok (.invokevirtual 71, 3) by decide +kernel) rfl rfl rfl (by decide) (la_o hL (by decide) rfl) rfl rfl (Nat.le_of_ble_eq_true rfl) (by omega) cx2 (st' := [.int x2]) rfl ?_
  refine tr_istore_n (pc' := 19) (lv' := [some (.ref 150), some (.int x2), none, none]) (show decode cX6_readClause 18 = .ok (.istore_n 1, 1) by decide +kernel) rfl rfl (Nat.le_of_ble_eq_true rfl) rfl rfl ?_
  refine tr_iload_n (pc' := 20) (show decode cX6_readClause 19 = .ok (.iload_n 1, 1) by decide +kernel) rfl rfl rfl ?_
  refine tr_iconst (pc' := 21) (v := (-1 : Int32)) (show decode cX6_readClause 20 = .ok (.iconst (-1), 1) by decide +kernel) rfl (by decide) ?_
  rcases hm_is h with ⟨hc, h⟩ | ⟨hc, h⟩
  · refine tr_icmp_ne_f (tgt := 26) (pc' := 24) hc (show decode cX6_readClause 21 = .ok (.if_icmp .ne 5, 3) by decide +kernel) (by decide) rfl ?_
    refine tr_iconst (pc' := 25) (v := (0 : Int32)) (show decode cX6_readClause 24 = .ok (.iconst 0, 1) by decide +kernel) rfl (by decide) ?_
    cases h
    exact tr_zret rfl (by decide) (show decode cX6_readClause 25 = .ok (.ireturn, 1) by decide +kernel) hL
  · refine tr_icmp_ne_t (tgt := 26) hc (show decode cX6_readClause 21 = .ok (.if_icmp .ne 5, 3) by decide +kernel) (by decide) ?_
    refine tr_aload_n (pc' := 27) (show decode cX6_readClause 26 = .ok (.aload_n 0, 1) by decide +kernel) rfl rfl rfl ?_
    obtain ⟨μ4, ex3, h⟩ := hm_bs h
    have cx3 := ok_X6_goOn (fr := fr - 1) (ν := ν) (by omega) hT μ1 hL ex3
    refine tp_callV (pc' := 30) (As := []) (fr1 := fr - 1) (ci := 6) okm_X6_goOn lk_HandRing_Reader_50 (show decode cX6_readClause 27 = .ok (.invokevirtual 50, 3) by decide +kernel) rfl rfl rfl (by decide) (la_o hL (by decide) rfl) rfl rfl (Nat.le_of_ble_eq_true rfl) (by omega) cx3 (st' := []) rfl ?_
    replace hL := cx3.1
    refine tr_iload_n (pc' := 31) (show decode cX6_readClause 30 = .ok (.iload_n 1, 1) by decide +kernel) rfl rfl rfl ?_
    refine tr_aload_n (pc' := 32) (show decode cX6_readClause 31 = .ok (.aload_n 0, 1) by decide +kernel) rfl rfl rfl ?_
    refine tr_getI (pc' := 35) fl_HandRing_Reader_34 (show decode cX6_readClause 32 = .ok (.getfield 34, 3) by decide +kernel) rfl (la_o hL (by decide) rfl) ?_
    rcases hm_is h with ⟨hc, h⟩ | ⟨hc, h⟩
    · refine tr_if_eq_t (tgt := 42) hc (show decode cX6_readClause 35 = .ok (.ifCond .eq 7, 3) by decide +kernel) (by decide) ?_
      refine tr_iconst (pc' := 43) (v := (3 : Int32)) (show decode cX6_readClause 42 = .ok (.iconst 3, 1) by decide +kernel) rfl (by decide) ?_
      exact ok_X6_readClause_J43 hfr hT (3 : Int32) x2 x2 μ4 hL h
    · refine tr_if_eq_f (tgt := 42) (pc' := 38) hc (show decode cX6_readClause 35 = .ok (.ifCond .eq 7, 3) by decide +kernel) (by decide) rfl ?_
      refine tr_iconst (pc' := 39) (v := (2 : Int32)) (show decode cX6_readClause 38 = .ok (.iconst 2, 1) by decide +kernel) rfl (by decide) ?_
      refine tr_goto (tgt := 43) (show decode cX6_readClause 39 = .ok (.goto 4, 3) by decide +kernel) rfl ?_
      exact ok_X6_readClause_J43 hfr hT (2 : Int32) x2 x2 μ4 hL h
def f_X6_readClause (μ : hm_M) : Option (Int32 × hm_M) :=
  (if (μ.1 150 3) = 0 then
  f_X6_readClause_J15 1 μ
  else
  f_X6_readClause_J15 0 μ)
set_option maxRecDepth 100000 in
theorem ok_X6_readClause {fr : Nat} (hfr : 92 ≤ fr) {ν : hm_N} {r : Int32} {μR : hm_M}   (hT : ν.1 = some 156) (μ : hm_M) (hL : hm_LL ν μ) (h : f_X6_readClause μ = some (r, μR)) : hm_CC (hm_LL ν) m_X6_readClause fr 0 0 [.ref 150] μ (some (.int r)) μR := by
  refine hm_enter (lv := [some (.ref 150), none, none, none]) (by decide) rfl (Nat.le_of_ble_eq_true rfl) ?_
  unfold f_X6_readClause at h
  refine tr_aload_n (pc' := 1) (show decode cX6_readClause 0 = .ok (.aload_n 0, 1) by decide +kernel) rfl rfl rfl ?_
  refine tr_aload_n (pc' := 2) (show decode cX6_readClause 1 = .ok (.aload_n 0, 1) by decide +kernel) rfl rfl rfl ?_
  refine tr_getI (pc' := 5) fl_HandRing_Reader_34 (show decode cX6_readClause 2 = .ok (.getfield 34, 3) by decide +kernel) rfl (la_o hL (by decide) rfl) ?_
  rcases hm_is h with ⟨hc, h⟩ | ⟨hc, h⟩
  · refine tr_if_eq_t (tgt := 13) hc (show decode cX6_readClause 5 = .ok (.ifCond .eq 8, 3) by decide +kernel) (by decide) ?_
    refine tr_ldcS (pc' := 15) (i := 1) rfl rfl (show decode cX6_readClause 13 = .ok (.ldc 69, 2) by decide +kernel) rfl ?_
    exact ok_X6_readClause_J15 hfr hT 1 (by decide) μ hL h
  · refine tr_if_eq_f (tgt := 13) (pc' := 8) hc (show decode cX6_readClause 5 = .ok (.ifCond .eq 8, 3) by decide +kernel) (by decide) rfl ?_
    refine tr_ldcS (pc' := 10) (i := 0) rfl rfl (show decode cX6_readClause 8 = .ok (.ldc 67, 2) by decide +kernel) rfl ?_
    refine tr_goto (tgt := 15) (show decode cX6_readClause 10 = .ok (.goto 5, 3) by decide +kernel) rfl ?_
    exact ok_X6_readClause_J15 hfr hT 0 (by decide) μ hL h
def f_X6_readText_L49 (v2 : Int32) (v3 : Int32) (e102 : hm_M → Option (Int32 × hm_M)) : Nat → Int32 → hm_M → Option (Int32 × hm_M)
  | 0, _, _ => none
  | n + 1, y4, μ1 => (if (12 : Int32) ≤ y4 then
  e102 μ1
  else
  hm_b2 (f_X6_readClause μ1) fun x12 μ13 =>
  (if x12 = 0 then
  some (μ13.1 150 5, μ13)
  else
  (if (μ13.1 150 4) = (3 : Int32) then
  some ((-1 : Int32), μ13)
  else
  Option.bind (f_X6_isSign (59 : Int32) μ13) fun x14 =>
  (if x14 = 0 then
  some (μ13.1 150 5, μ13)
  else
  Option.bind (f_X6_goOn μ13) fun μ16 =>
  (f_X6_readText_L49 v2 v3 e102 n) (y4 + (1 : Int32)) μ16))))
theorem ok_X6_readText_L49 {fr : Nat} (hfr : 93 ≤ fr) {ν : hm_N} {r : Int32} {μR : hm_M}  (v2 : Int32) (v3 : Int32) (e102 : hm_M → Option (Int32 × hm_M))  (he102 : ∀   (μ1 : hm_M), hm_LL ν μ1 → e102 μ1 = some (r, μR) → hm_T (hm_LL ν) m_X6_readText fr 0 0 (some (.int r)) μR 102 [some (.ref 150), none, none, none, none] [] μ1) (hT : ν.1 = some 156) : ∀ (n : Nat) (y4 : Int32)  (μ1 : hm_M), hm_LL ν μ1 → f_X6_readText_L49 v2 v3 e102 n y4 μ1 = some (r, μR) → hm_T (hm_LL ν) m_X6_readText fr 0 0 (some (.int r)) μR 49 [some (.ref 150), none, none, none, some (.int y4)] [] μ1 := by
  intro n
  induction n with
  | zero =>
    intro y4 μ1 hL h
    unfold f_X6_readText_L49 at h
    cases h
  | succ n ih =>
    intro y4 μ1 hL h
    unfold f_X6_readText_L49 at h
    refine tr_iload (pc' := 51) (show decode cX6_readText 49 = .ok (.iload 4, 2) by decide +kernel) rfl rfl ?_
    refine tr_bipush (pc' := 53) (v := (12 : Int32)) (show decode cX6_readText 51 = .ok (.bipush 12, 2) by decide +kernel) rfl (by decide) ?_
    rcases hm_is h with ⟨hc, h⟩ | ⟨hc, h⟩
    · refine tr_icmp_ge_t (tgt := 102) hc (show decode cX6_readText 53 = .ok (.if_icmp .ge 49, 3) by decide +kernel) (by decide) ?_
      refine hm_fgt [true, false, false, false, false] (lv' := [some (.ref 150), none, none, none, none]) rfl ?_
      exact he102 μ1 hL h
    · refine tr_icmp_ge_f (tgt := 102) (pc' := 56) hc (show decode cX6_readText 53 = .ok (.if_icmp .ge 49, 3) by decide +kernel) (by decide) rfl ?_
      refine tr_aload_n (pc' := 57) (show decode cX6_readText 56 = .ok (.aload_n 0, 1) by decide +kernel) rfl rfl rfl ?_
      obtain ⟨x12, μ13, ex12, h⟩ := hm_b2s h
      have cx12 := ok_X6_readClause (fr := fr - 1) (ν := ν) (by omega) hT μ1 hL ex12
      refine tp_callV (pc' := 60) (As := []) (fr1 := fr - 1) (ci := 6) okm_X6_readClause lk_HandRing_Reader_53 (show decode cX6_readText 57 = .ok (.invokevirtual 53, 3) by decide +kernel) rfl rfl rfl (by decide) (la_o hL (by decide) rfl) rfl rfl (Nat.le_of_ble_eq_true rfl) (by omega) cx12 (st' := [.int x12]) rfl ?_
      replace hL := cx12.1
      rcases hm_is h with ⟨hc, h⟩ | ⟨hc, h⟩
      · refine tr_if_ne_f (tgt := 68) (pc' := 63) hc (show decode cX6_readText 60 = .ok (.ifCond .ne 8, 3) by decide +kernel) (by decide) rfl ?_
        refine tr_aload_n (pc' := 64) (show decode cX6_readText 63 = .ok (.aload_n 0, 1) by decide +kernel) rfl rfl rfl ?_
        refine tr_getI (pc' := 67) fl_HandRing_Reader_57 (show decode cX6_readText 64 = .ok (.getfield 57, 3) by decide +kernel) rfl (la_o hL (by decide) rfl) ?_
        cases h
        exact tr_iret rfl (show decode cX6_readText 67 = .ok (.ireturn, 1) by decide +kernel) hL
      · refine tr_if_ne_t (tgt := 68) hc (show decode cX6_readText 60 = .ok (.ifCond .ne 8, 3) by decide +kernel) (by decide) ?_
        refine tr_aload_n (pc' := 69) (show decode cX6_readText 68 = .ok (.aload_n 0, 1) by decide +kernel) rfl rfl rfl ?_
        refine tr_getI (pc' := 72) fl_HandRing_Reader_60 (show decode cX6_readText 69 = .ok (.getfield 60, 3) by decide +kernel) rfl (la_o hL (by decide) rfl) ?_
        refine tr_iconst (pc' := 73) (v := (3 : Int32)) (show decode cX6_readText 72 = .ok (.iconst 3, 1) by decide +kernel) rfl (by decide) ?_
        rcases hm_is h with ⟨hc, h⟩ | ⟨hc, h⟩
        · refine tr_icmp_ne_f (tgt := 78) (pc' := 76) hc (show decode cX6_readText 73 = .ok (.if_icmp .ne 5, 3) by decide +kernel) (by decide) rfl ?_
          refine tr_iconst (pc' := 77) (v := (-1 : Int32)) (show decode cX6_readText 76 = .ok (.iconst (-1), 1) by decide +kernel) rfl (by decide) ?_
          cases h
          exact tr_iret rfl (show decode cX6_readText 77 = .ok (.ireturn, 1) by decide +kernel) hL
        · refine tr_icmp_ne_t (tgt := 78) hc (show decode cX6_readText 73 = .ok (.if_icmp .ne 5, 3) by decide +kernel) (by decide) ?_
          refine tr_aload_n (pc' := 79) (show decode cX6_readText 78 = .ok (.aload_n 0, 1) by decide +kernel) rfl rfl rfl ?_
          refine tr_bipush (pc' := 81) (v := (59 : Int32)) (show decode cX6_readText 79 = .ok (.bipush 59, 2) by decide +kernel) rfl (by decide) ?_
          obtain ⟨x14, ex14, h⟩ := hm_bs h
          have cx14 := ok_X6_isSign (fr := fr - 1) (ν := ν) (by omega) (59 : Int32) hT μ13 hL ex14
          refine tp_callV (pc' := 84) (As := [.int (59 : Int32)]) (fr1 := fr - 1) (ci := 6) okm_X6_isSign lk_HandRing_Reader_63 (show decode cX6_readText 81 = .ok (.invokevirtual 63, 3) by decide +kernel) rfl rfl rfl (by decide) (la_o hL (by decide) rfl) rfl rfl (Nat.le_of_ble_eq_true rfl) (by omega) cx14 (st' := [.int x14]) rfl ?_
          rcases hm_is h with ⟨hc, h⟩ | ⟨hc, h⟩
          · refine tr_if_ne_f (tgt := 92) (pc' := 87) hc (show decode cX6_readText 84 = .ok (.ifCond .ne 8, 3) by decide +kernel) (by decide) rfl ?_
            refine tr_aload_n (pc' := 88) (show decode cX6_readText 87 = .ok (.aload_n 0, 1) by decide +kernel) rfl rfl rfl ?_
            refine tr_getI (pc' := 91) fl_HandRing_Reader_57 (show decode cX6_readText 88 = .ok (.getfield 57, 3) by decide +kernel) rfl (la_o hL (by decide) rfl) ?_
            cases h
            exact tr_iret rfl (show decode cX6_readText 91 = .ok (.ireturn, 1) by decide +kernel) hL
          · refine tr_if_ne_t (tgt := 92) hc (show decode cX6_readText 84 = .ok (.ifCond .ne 8, 3) by decide +kernel) (by decide) ?_
            refine tr_aload_n (pc' := 93) (show decode cX6_readText 92 = .ok (.aload_n 0, 1) by decide +kernel) rfl rfl rfl ?_
            obtain ⟨μ16, ex15, h⟩ := hm_bs h
            have cx15 := ok_X6_goOn (fr := fr - 1) (ν := ν) (by omega) hT μ13 hL ex15
            refine tp_callV (pc' := 96) (As := []) (fr1 := fr - 1) (ci := 6) okm_X6_goOn lk_HandRing_Reader_50 (show decode cX6_readText 93 = .ok (.invokevirtual 50, 3) by decide +kernel) rfl rfl rfl (by decide) (la_o hL (by decide) rfl) rfl rfl (Nat.le_of_ble_eq_true rfl) (by omega) cx15 (st' := []) rfl ?_
            replace hL := cx15.1
            refine tr_iinc (pc' := 99) (v := y4 + (1 : Int32)) (lv' := [some (.ref 150), none, none, none, some (.int (y4 + (1 : Int32)))]) (show decode cX6_readText 96 = .ok (.iinc 4 1, 3) by decide +kernel) rfl rfl rfl (Nat.le_of_ble_eq_true rfl) rfl rfl ?_
            refine tr_goto (tgt := 49) (show decode cX6_readText 99 = .ok (.goto (-50), 3) by decide +kernel) rfl ?_
            exact ih (y4 + (1 : Int32)) μ16 hL h
def f_X6_readText (v2 : Int32) (v3 : Int32) (μ : hm_M) : Option (Int32 × hm_M) :=
  Option.bind (hm_pR μ 150 1 (some 156)) fun μ2 =>
  Option.bind (hm_pI μ2 150 2 (if (Int32.ofNat 400) < v2 then (Int32.ofNat 400) else v2)) fun μ3 =>
  Option.bind (hm_pZ μ3 150 3 v3) fun μ4 =>
  Option.bind (hm_pI μ4 150 6 (0 : Int32)) fun μ5 =>
  Option.bind (hm_pI μ5 150 8 (0 : Int32)) fun μ6 =>
  Option.bind (hm_pI μ6 150 9 (0 : Int32)) fun μ7 =>
  Option.bind (f_X5_clear 151 μ7) fun μ9 =>
  Option.bind (f_X6_goOn μ9) fun μ11 =>
  f_X6_readText_L49 v2 v3 (fun μz17 => some (μz17.1 150 5, μz17)) hm_fu (0 : Int32) μ11
set_option maxRecDepth 100000 in
theorem ok_X6_readText {fr : Nat} (hfr : 93 ≤ fr) {ν : hm_N} {τ : Option Nat} {r : Int32} {μR : hm_M}  (v2 : Int32) (v3 : Int32) (hT : ν.1 = some 156) (μ : hm_M) (hL : hm_LL (τ, ν.2) μ) (h : f_X6_readText v2 v3 μ = some (r, μR)) : hm_CC (hm_LL ν) m_X6_readText fr 0 0 [.ref 150, .ref 156, .int v2, .int v3] μ (some (.int r)) μR := by
  refine hm_enter (lv := [some (.ref 150), some (.ref 156), some (.int v2), some (.int v3), none]) (by decide) rfl (Nat.le_of_ble_eq_true rfl) ?_
  unfold f_X6_readText at h
  refine tr_aload_n (pc' := 1) (show decode cX6_readText 0 = .ok (.aload_n 0, 1) by decide +kernel) rfl rfl rfl ?_
  refine tr_aload_n (pc' := 2) (show decode cX6_readText 1 = .ok (.aload_n 1, 1) by decide +kernel) rfl rfl rfl ?_
  obtain ⟨μ2, eμ2, h⟩ := hm_bs h
  refine tp_pR (pc' := 5) fl_HandRing_Reader_20 (show decode cX6_readText 2 = .ok (.putfield 20, 3) by decide +kernel) rfl (la_o hL (by decide) rfl) eμ2 ?_
  replace hL := la_settx hL hT eμ2
  refine tr_aload_n (pc' := 6) (show decode cX6_readText 5 = .ok (.aload_n 0, 1) by decide +kernel) rfl rfl rfl ?_
  refine tr_iload_n (pc' := 7) (show decode cX6_readText 6 = .ok (.iload_n 2, 1) by decide +kernel) rfl rfl rfl ?_
  refine tr_aload_n (pc' := 8) (show decode cX6_readText 7 = .ok (.aload_n 1, 1) by decide +kernel) rfl rfl rfl ?_
  refine tr_alen (pc' := 9) (t0 := 1) (by decide) (fun _ => rfl) (show decode cX6_readText 8 = .ok (.arraylength, 1) by decide +kernel) rfl (la_a hL (by decide) rfl) ?_
  refine tr_min (pc' := 12) lk_HandRing_Reader_24 kw_min_s kw_Math_i kw_min_c (show decode cX6_readText 9 = .ok (.invokestatic 24, 3) by decide +kernel) rfl (Nat.le_of_ble_eq_true rfl) (by omega) ?_
  obtain ⟨μ3, eμ3, h⟩ := hm_bs h
  refine tp_pI (pc' := 15) fl_HandRing_Reader_30 (show decode cX6_readText 12 = .ok (.putfield 30, 3) by decide +kernel) rfl (la_o hL (by decide) rfl) eμ3 ?_
  replace hL := hL.same (hm_pI_s eμ3)
  refine tr_aload_n (pc' := 16) (show decode cX6_readText 15 = .ok (.aload_n 0, 1) by decide +kernel) rfl rfl rfl ?_
  refine tr_iload_n (pc' := 17) (show decode cX6_readText 16 = .ok (.iload_n 3, 1) by decide +kernel) rfl rfl rfl ?_
  obtain ⟨μ4, eμ4, h⟩ := hm_bs h
  refine tp_pZ (pc' := 20) fl_HandRing_Reader_34 (show decode cX6_readText 17 = .ok (.putfield 34, 3) by decide +kernel) rfl (la_o hL (by decide) rfl) eμ4 ?_
  replace hL := hL.same (hm_pZ_s eμ4)
  refine tr_aload_n (pc' := 21) (show decode cX6_readText 20 = .ok (.aload_n 0, 1) by decide +kernel) rfl rfl rfl ?_
  refine tr_iconst (pc' := 22) (v := (0 : Int32)) (show decode cX6_readText 21 = .ok (.iconst 0, 1) by decide +kernel) rfl (by decide) ?_
  obtain ⟨μ5, eμ5, h⟩ := hm_bs h
  refine tp_pI (pc' := 25) fl_HandRing_Reader_38 (show decode cX6_readText 22 = .ok (.putfield 38, 3) by decide +kernel) rfl (la_o hL (by decide) rfl) eμ5 ?_
  replace hL := hL.same (hm_pI_s eμ5)
  refine tr_aload_n (pc' := 26) (show decode cX6_readText 25 = .ok (.aload_n 0, 1) by decide +kernel) rfl rfl rfl ?_
  refine tr_iconst (pc' := 27) (v := (0 : Int32)) (show decode cX6_readText 26 = .ok (.iconst 0, 1) by decide +kernel) rfl (by decide) ?_
  obtain ⟨μ6, eμ6, h⟩ := hm_bs h
  refine tp_pI (pc' := 30) fl_HandRing_Reader_41 (show decode cX6_readText 27 = .ok (.putfield 41, 3) by decide +kernel) rfl (la_o hL (by decide) rfl) eμ6 ?_
  replace hL := hL.same (hm_pI_s eμ6)
  refine tr_aload_n (pc' := 31) (show decode cX6_readText 30 = .ok (.aload_n 0, 1) by decide +kernel) rfl rfl rfl ?_
  refine tr_iconst (pc' := 32) (v := (0 : Int32)) (show decode cX6_readText 31 = .ok (.iconst 0, 1) by decide +kernel) rfl (by decide) ?_
  obtain ⟨μ7, eμ7, h⟩ := hm_bs h
  refine tp_pI (pc' := 35) fl_HandRing_Reader_44 (show decode cX6_readText 32 = .ok (.putfield 44, 3) by decide +kernel) rfl (la_o hL (by decide) rfl) eμ7 ?_
  replace hL := hL.same (hm_pI_s eμ7)
  refine tr_aload_n (pc' := 36) (show decode cX6_readText 35 = .ok (.aload_n 0, 1) by decide +kernel) rfl rfl rfl ?_
  refine tr_getR (pc' := 39) fl_HandRing_Reader_14 (show decode cX6_readText 36 = .ok (.getfield 14, 3) by decide +kernel) rfl (la_o hL (by decide) rfl) (la_r hL 95 rfl) ?_
  obtain ⟨μ9, ex8, h⟩ := hm_bs h
  have cx8 := ok_X5_clear (fr := fr - 1) (ν := ν) (by omega) 151 (la_pg151 hL) μ7 hL ex8
  refine tp_callV (pc' := 42) (As := []) (fr1 := fr - 1) (ci := 5) okm_X5_clear lk_HandRing_Reader_47 (show decode cX6_readText 39 = .ok (.invokevirtual 47, 3) by decide +kernel) rfl rfl rfl (by decide) (la_o hL (by decide) rfl) rfl rfl (Nat.le_of_ble_eq_true rfl) (by omega) cx8 (st' := []) rfl ?_
  replace hL := cx8.1
  refine tr_aload_n (pc' := 43) (show decode cX6_readText 42 = .ok (.aload_n 0, 1) by decide +kernel) rfl rfl rfl ?_
  obtain ⟨μ11, ex10, h⟩ := hm_bs h
  have cx10 := ok_X6_goOn (fr := fr - 1) (ν := ν) (by omega) hT μ9 hL ex10
  refine tp_callV (pc' := 46) (As := []) (fr1 := fr - 1) (ci := 6) okm_X6_goOn lk_HandRing_Reader_50 (show decode cX6_readText 43 = .ok (.invokevirtual 50, 3) by decide +kernel) rfl rfl rfl (by decide) (la_o hL (by decide) rfl) rfl rfl (Nat.le_of_ble_eq_true rfl) (by omega) cx10 (st' := []) rfl ?_
  replace hL := cx10.1
  refine tr_iconst (pc' := 47) (v := (0 : Int32)) (show decode cX6_readText 46 = .ok (.iconst 0, 1) by decide +kernel) rfl (by decide) ?_
  refine tr_istore (pc' := 49) (lv' := [some (.ref 150), some (.ref 156), some (.int v2), some (.int v3), some (.int (0 : Int32))]) (show decode cX6_readText 47 = .ok (.istore 4, 2) by decide +kernel) rfl (Nat.le_of_ble_eq_true rfl) rfl rfl ?_
  refine hm_fgt [true, false, false, false, true] (lv' := [some (.ref 150), none, none, none, some (.int (0 : Int32))]) rfl ?_
  refine ok_X6_readText_L49 hfr _ _ _ ?_ hT _ (0 : Int32) μ11 hL h
  · intro μz17 hL h
    refine tr_aload_n (pc' := 103) (show decode cX6_readText 102 = .ok (.aload_n 0, 1) by decide +kernel) rfl rfl rfl ?_
    refine tr_getI (pc' := 106) fl_HandRing_Reader_57 (show decode cX6_readText 103 = .ok (.getfield 57, 3) by decide +kernel) rfl (la_o hL (by decide) rfl) ?_
    cases h
    exact tr_iret rfl (show decode cX6_readText 106 = .ok (.ireturn, 1) by decide +kernel) hL
def f_X7_clear (o0 : Nat) (μ : hm_M) : Option hm_M :=
  Option.bind (hm_pI μ o0 2 (0 : Int32)) fun μ2 =>
  some μ2
set_option maxRecDepth 100000 in
theorem ok_X7_clear {fr : Nat} (hfr : 0 ≤ fr) {ν : hm_N} {μR : hm_M}  (o0 : Nat) (ho0 : hm_S o0) (μ : hm_M) (hL : hm_LL ν μ) (h : f_X7_clear o0 μ = some μR) : hm_CC (hm_LL ν) m_X7_clear fr 0 0 [.ref o0] μ none μR := by
  refine hm_enter (lv := [some (.ref o0)]) (by decide) rfl (Nat.le_of_ble_eq_true rfl) ?_
  unfold f_X7_clear at h
  refine tr_aload_n (pc' := 1) (show decode cX7_clear 0 = .ok (.aload_n 0, 1) by decide +kernel) rfl rfl rfl ?_
  refine tr_iconst (pc' := 2) (v := (0 : Int32)) (show decode cX7_clear 1 = .ok (.iconst 0, 1) by decide +kernel) rfl (by decide) ?_
  obtain ⟨μ2, eμ2, h⟩ := hm_bs h
  refine tp_pI (pc' := 5) fl_HandRing_Steps_16 (show decode cX7_clear 2 = .ok (.putfield 16, 3) by decide +kernel) rfl (la_so hL ho0) eμ2 ?_
  replace hL := hL.same (hm_pI_s eμ2)
  cases h
  exact tr_vret rfl (show decode cX7_clear 5 = .ok (.return_, 1) by decide +kernel) hL
def f_X7_goBack (o0 : Nat) (v1 : Nat) (μ : hm_M) : Option (Int32 × hm_M) :=
  (if (μ.1 o0 2) = 0 then
  some ((-3 : Int32), μ)
  else
  Option.bind (hm_pI μ o0 2 ((μ.1 o0 2) - (1 : Int32))) fun μ2 =>
  Option.bind (hm_ldR μ2 (o0 + 1) 17 (((μ2.1 o0 1) + (μ2.1 o0 2)) - ((μ2.1 o0 1) + (μ2.1 o0 2)) / (17 : Int32) * (17 : Int32))) fun _x3 =>
  Option.bind (hm_ld μ2 (o0 + 2 + (((μ2.1 o0 1) + (μ2.1 o0 2)) - ((μ2.1 o0 1) + (μ2.1 o0 2)) / (17 : Int32) * (17 : Int32)).toNatClampNeg) 26 (1 : Int32)) fun x4 =>
  Option.bind (hm_sd μ2 (v1 + 5) 4 (0 : Int32) x4) fun μ5 =>
  Option.bind (hm_cp μ5 (o0 + 2 + (((μ2.1 o0 1) + (μ2.1 o0 2)) - ((μ2.1 o0 1) + (μ2.1 o0 2)) / (17 : Int32) * (17 : Int32)).toNatClampNeg) 26 (2 : Int32) (v1 + 1) 8 (0 : Int32) (8 : Int32)) fun μ6 =>
  Option.bind (hm_cp μ6 (o0 + 2 + (((μ2.1 o0 1) + (μ2.1 o0 2)) - ((μ2.1 o0 1) + (μ2.1 o0 2)) / (17 : Int32) * (17 : Int32)).toNatClampNeg) 26 (10 : Int32) (v1 + 2) 8 (0 : Int32) (8 : Int32)) fun μ7 =>
  Option.bind (hm_cp μ7 (o0 + 2 + (((μ2.1 o0 1) + (μ2.1 o0 2)) - ((μ2.1 o0 1) + (μ2.1 o0 2)) / (17 : Int32) * (17 : Int32)).toNatClampNeg) 26 (18 : Int32) (v1 + 4) 8 (0 : Int32) (8 : Int32)) fun μ8 =>
  Option.bind (hm_ld μ8 (o0 + 2 + (((μ2.1 o0 1) + (μ2.1 o0 2)) - ((μ2.1 o0 1) + (μ2.1 o0 2)) / (17 : Int32) * (17 : Int32)).toNatClampNeg) 26 (0 : Int32)) fun x9 =>
  some (x9, μ8))
set_option maxRecDepth 100000 in
theorem ok_X7_goBack {fr : Nat} (hfr : 1 ≤ fr) {ν : hm_N} {r : Int32} {μR : hm_M}  (o0 : Nat) (v1 : Nat) (ho0 : hm_S o0) (hv1 : hm_V v1) (μ : hm_M) (hL : hm_LL ν μ) (h : f_X7_goBack o0 v1 μ = some (r, μR)) : hm_CC (hm_LL ν) m_X7_goBack fr 0 0 [.ref o0, .ref v1] μ (some (.int r)) μR := by
  refine hm_enter (lv := [some (.ref o0), some (.ref v1), none]) (by decide) rfl (Nat.le_of_ble_eq_true rfl) ?_
  unfold f_X7_goBack at h
  refine tr_aload_n (pc' := 1) (show decode cX7_goBack 0 = .ok (.aload_n 0, 1) by decide +kernel) rfl rfl rfl ?_
  refine tr_getI (pc' := 4) fl_HandRing_Steps_16 (show decode cX7_goBack 1 = .ok (.getfield 16, 3) by decide +kernel) rfl (la_so hL ho0) ?_
  rcases hm_is h with ⟨hc, h⟩ | ⟨hc, h⟩
  · refine tr_if_ne_f (tgt := 10) (pc' := 7) hc (show decode cX7_goBack 4 = .ok (.ifCond .ne 6, 3) by decide +kernel) (by decide) rfl ?_
    refine tr_bipush (pc' := 9) (v := (-3 : Int32)) (show decode cX7_goBack 7 = .ok (.bipush (-3), 2) by decide +kernel) rfl (by decide) ?_
    cases h
    exact tr_iret rfl (show decode cX7_goBack 9 = .ok (.ireturn, 1) by decide +kernel) hL
  · refine tr_if_ne_t (tgt := 10) hc (show decode cX7_goBack 4 = .ok (.ifCond .ne 6, 3) by decide +kernel) (by decide) ?_
    refine tr_aload_n (pc' := 11) (show decode cX7_goBack 10 = .ok (.aload_n 0, 1) by decide +kernel) rfl rfl rfl ?_
    refine tr_dup (pc' := 12) (show decode cX7_goBack 11 = .ok (.dup, 1) by decide +kernel) rfl rfl ?_
    refine tr_getI (pc' := 15) fl_HandRing_Steps_16 (show decode cX7_goBack 12 = .ok (.getfield 16, 3) by decide +kernel) rfl (la_so hL ho0) ?_
    refine tr_iconst (pc' := 16) (v := (1 : Int32)) (show decode cX7_goBack 15 = .ok (.iconst 1, 1) by decide +kernel) rfl (by decide) ?_
    refine tr_isub (pc' := 17) (show decode cX7_goBack 16 = .ok (.isub, 1) by decide +kernel) rfl ?_
    obtain ⟨μ2, eμ2, h⟩ := hm_bs h
    refine tp_pI (pc' := 20) fl_HandRing_Steps_16 (show decode cX7_goBack 17 = .ok (.putfield 16, 3) by decide +kernel) rfl (la_so hL ho0) eμ2 ?_
    replace hL := hL.same (hm_pI_s eμ2)
    refine tr_aload_n (pc' := 21) (show decode cX7_goBack 20 = .ok (.aload_n 0, 1) by decide +kernel) rfl rfl rfl ?_
    refine tr_getR (pc' := 24) fl_HandRing_Steps_13 (show decode cX7_goBack 21 = .ok (.getfield 13, 3) by decide +kernel) rfl (la_so hL ho0) (la_s0 hL ho0) ?_
    refine tr_aload_n (pc' := 25) (show decode cX7_goBack 24 = .ok (.aload_n 0, 1) by decide +kernel) rfl rfl rfl ?_
    refine tr_getI (pc' := 28) fl_HandRing_Steps_26 (show decode cX7_goBack 25 = .ok (.getfield 26, 3) by decide +kernel) rfl (la_so hL ho0) ?_
    refine tr_aload_n (pc' := 29) (show decode cX7_goBack 28 = .ok (.aload_n 0, 1) by decide +kernel) rfl rfl rfl ?_
    refine tr_getI (pc' := 32) fl_HandRing_Steps_16 (show decode cX7_goBack 29 = .ok (.getfield 16, 3) by decide +kernel) rfl (la_so hL ho0) ?_
    refine tr_iadd (pc' := 33) (show decode cX7_goBack 32 = .ok (.iadd, 1) by decide +kernel) rfl ?_
    refine tr_bipush (pc' := 35) (v := (17 : Int32)) (show decode cX7_goBack 33 = .ok (.bipush 17, 2) by decide +kernel) rfl (by decide) ?_
    refine tr_irem (pc' := 36) (show decode cX7_goBack 35 = .ok (.irem, 1) by decide +kernel) rfl (by decide) ?_
    obtain ⟨x3, ex3, h⟩ := hm_bs h
    have bx3 := la_srow hL ho0 ex3
    have ax3 := la_n hL bx3.2
    refine tp_ldR (pc' := 37) (t0 := 7) (by decide) (fun _ => rfl) rfl (show decode cX7_goBack 36 = .ok (.aaload, 1) by decide +kernel) rfl (la_sa0 hL ho0) ex3 (congrArg va_rf bx3.1) ?_
    refine tr_astore_n (pc' := 38) (lv' := [some (.ref o0), some (.ref v1), some (.ref (o0 + 2 + (((μ2.1 o0 1) + (μ2.1 o0 2)) - ((μ2.1 o0 1) + (μ2.1 o0 2)) / (17 : Int32) * (17 : Int32)).toNatClampNeg))]) (show decode cX7_goBack 37 = .ok (.astore_n 2, 1) by decide +kernel) rfl rfl (Nat.le_of_ble_eq_true rfl) rfl rfl ?_
    refine tr_aload_n (pc' := 39) (show decode cX7_goBack 38 = .ok (.aload_n 1, 1) by decide +kernel) rfl rfl rfl ?_
    refine tr_getR (pc' := 42) fl_HandRing_Steps_29 (show decode cX7_goBack 39 = .ok (.getfield 29, 3) by decide +kernel) rfl (la_vo hL hv1) (la_v5 hL hv1) ?_
    refine tr_iconst (pc' := 43) (v := (0 : Int32)) (show decode cX7_goBack 42 = .ok (.iconst 0, 1) by decide +kernel) rfl (by decide) ?_
    refine tr_aload_n (pc' := 44) (show decode cX7_goBack 43 = .ok (.aload_n 2, 1) by decide +kernel) rfl rfl rfl ?_
    refine tr_iconst (pc' := 45) (v := (1 : Int32)) (show decode cX7_goBack 44 = .ok (.iconst 1, 1) by decide +kernel) rfl (by decide) ?_
    obtain ⟨x4, ex4, h⟩ := hm_bs h
    refine tp_ldI (pc' := 46) (show decode cX7_goBack 45 = .ok (.iaload, 1) by decide +kernel) rfl (la_m hL ax3) ex4 ?_
    obtain ⟨μ5, eμ5, h⟩ := hm_bs h
    refine tp_sdI (pc' := 47) (show decode cX7_goBack 46 = .ok (.iastore, 1) by decide +kernel) rfl (la_va5 hL hv1) eμ5 ?_
    replace hL := hL.same (hm_sd_s eμ5)
    refine tr_aload_n (pc' := 48) (show decode cX7_goBack 47 = .ok (.aload_n 2, 1) by decide +kernel) rfl rfl rfl ?_
    refine tr_iconst (pc' := 49) (v := (2 : Int32)) (show decode cX7_goBack 48 = .ok (.iconst 2, 1) by decide +kernel) rfl (by decide) ?_
    refine tr_aload_n (pc' := 50) (show decode cX7_goBack 49 = .ok (.aload_n 1, 1) by decide +kernel) rfl rfl rfl ?_
    refine tr_getR (pc' := 53) fl_HandRing_Steps_35 (show decode cX7_goBack 50 = .ok (.getfield 35, 3) by decide +kernel) rfl (la_vo hL hv1) (la_v1 hL hv1) ?_
    refine tr_iconst (pc' := 54) (v := (0 : Int32)) (show decode cX7_goBack 53 = .ok (.iconst 0, 1) by decide +kernel) rfl (by decide) ?_
    refine tr_bipush (pc' := 56) (v := (8 : Int32)) (show decode cX7_goBack 54 = .ok (.bipush 8, 2) by decide +kernel) rfl (by decide) ?_
    obtain ⟨μ6, eμ6, h⟩ := hm_bs h
    refine tp_cp (pc' := 59) lk_HandRing_Steps_20 kw_ac_n kw_ac_s kw_Sys_i (show decode cX7_goBack 56 = .ok (.invokestatic 20, 3) by decide +kernel) rfl (Nat.le_of_ble_eq_true rfl) (by omega) (la_m hL ax3) (la_va1 hL hv1) eμ6 ?_
    replace hL := hL.same (hm_cp_s eμ6)
    refine tr_aload_n (pc' := 60) (show decode cX7_goBack 59 = .ok (.aload_n 2, 1) by decide +kernel) rfl rfl rfl ?_
    refine tr_bipush (pc' := 62) (v := (10 : Int32)) (show decode cX7_goBack 60 = .ok (.bipush 10, 2) by decide +kernel) rfl (by decide) ?_
    refine tr_aload_n (pc' := 63) (show decode cX7_goBack 62 = .ok (.aload_n 1, 1) by decide +kernel) rfl rfl rfl ?_
    refine tr_getR (pc' := 66) fl_HandRing_Steps_38 (show decode cX7_goBack 63 = .ok (.getfield 38, 3) by decide +kernel) rfl (la_vo hL hv1) (la_v2 hL hv1) ?_
    refine tr_iconst (pc' := 67) (v := (0 : Int32)) (show decode cX7_goBack 66 = .ok (.iconst 0, 1) by decide +kernel) rfl (by decide) ?_
    refine tr_bipush (pc' := 69) (v := (8 : Int32)) (show decode cX7_goBack 67 = .ok (.bipush 8, 2) by decide +kernel) rfl (by decide) ?_
    obtain ⟨μ7, eμ7, h⟩ := hm_bs h
    refine tp_cp (pc' := 72) lk_HandRing_Steps_20 kw_ac_n kw_ac_s kw_Sys_i (show decode cX7_goBack 69 = .ok (.invokestatic 20, 3) by decide +kernel) rfl (Nat.le_of_ble_eq_true rfl) (by omega) (la_m hL ax3) (la_va2 hL hv1) eμ7 ?_
    replace hL := hL.same (hm_cp_s eμ7)
    refine tr_aload_n (pc' := 73) (show decode cX7_goBack 72 = .ok (.aload_n 2, 1) by decide +kernel) rfl rfl rfl ?_
    refine tr_bipush (pc' := 75) (v := (18 : Int32)) (show decode cX7_goBack 73 = .ok (.bipush 18, 2) by decide +kernel) rfl (by decide) ?_
    refine tr_aload_n (pc' := 76) (show decode cX7_goBack 75 = .ok (.aload_n 1, 1) by decide +kernel) rfl rfl rfl ?_
    refine tr_getR (pc' := 79) fl_HandRing_Steps_41 (show decode cX7_goBack 76 = .ok (.getfield 41, 3) by decide +kernel) rfl (la_vo hL hv1) (la_v4 hL hv1) ?_
    refine tr_iconst (pc' := 80) (v := (0 : Int32)) (show decode cX7_goBack 79 = .ok (.iconst 0, 1) by decide +kernel) rfl (by decide) ?_
    refine tr_bipush (pc' := 82) (v := (8 : Int32)) (show decode cX7_goBack 80 = .ok (.bipush 8, 2) by decide +kernel) rfl (by decide) ?_
    obtain ⟨μ8, eμ8, h⟩ := hm_bs h
    refine tp_cp (pc' := 85) lk_HandRing_Steps_20 kw_ac_n kw_ac_s kw_Sys_i (show decode cX7_goBack 82 = .ok (.invokestatic 20, 3) by decide +kernel) rfl (Nat.le_of_ble_eq_true rfl) (by omega) (la_m hL ax3) (la_va4 hL hv1) eμ8 ?_
    replace hL := hL.same (hm_cp_s eμ8)
    refine tr_aload_n (pc' := 86) (show decode cX7_goBack 85 = .ok (.aload_n 2, 1) by decide +kernel) rfl rfl rfl ?_
    refine tr_iconst (pc' := 87) (v := (0 : Int32)) (show decode cX7_goBack 86 = .ok (.iconst 0, 1) by decide +kernel) rfl (by decide) ?_
    obtain ⟨x9, ex9, h⟩ := hm_bs h
    refine tp_ldI (pc' := 88) (show decode cX7_goBack 87 = .ok (.iaload, 1) by decide +kernel) rfl (la_m hL ax3) ex9 ?_
    cases h
    exact tr_iret rfl (show decode cX7_goBack 88 = .ok (.ireturn, 1) by decide +kernel) hL
def f_X8_addPerson (o0 : Nat) (v1 : Int32) (v2 : Int32) (v3 : Int32) (μ : hm_M) : Option (Int32 × hm_M) :=
  (if (μ.1 o0 0) < (8 : Int32) then
  Option.bind (hm_sd μ (o0 + 1) 8 (μ.1 o0 0) v1) fun μ2 =>
  Option.bind (hm_sd μ2 (o0 + 2) 8 (μ2.1 o0 0) v2) fun μ3 =>
  Option.bind (hm_sd μ3 (o0 + 3) 8 (μ3.1 o0 0) v3) fun μ4 =>
  Option.bind (hm_sd μ4 (o0 + 4) 8 (μ4.1 o0 0) (0 : Int32)) fun μ5 =>
  Option.bind (hm_pI μ5 o0 0 ((μ5.1 o0 0) + (1 : Int32))) fun μ6 =>
  some ((μ6.1 o0 0) - (1 : Int32), μ6)
  else
  some ((-1 : Int32), μ))
set_option maxRecDepth 100000 in
theorem ok_X8_addPerson {fr : Nat} (hfr : 0 ≤ fr) {ν : hm_N} {r : Int32} {μR : hm_M}  (o0 : Nat) (v1 : Int32) (v2 : Int32) (v3 : Int32) (ho0 : hm_V o0) (μ : hm_M) (hL : hm_LL ν μ) (h : f_X8_addPerson o0 v1 v2 v3 μ = some (r, μR)) : hm_CC (hm_LL ν) m_X8_addPerson fr 0 0 [.ref o0, .int v1, .int v2, .int v3] μ (some (.int r)) μR := by
  refine hm_enter (lv := [some (.ref o0), some (.int v1), some (.int v2), some (.int v3)]) (by decide) rfl (Nat.le_of_ble_eq_true rfl) ?_
  unfold f_X8_addPerson at h
  refine tr_aload_n (pc' := 1) (show decode cX8_addPerson 0 = .ok (.aload_n 0, 1) by decide +kernel) rfl rfl rfl ?_
  refine tr_getI (pc' := 4) fl_HandRing_Village_55 (show decode cX8_addPerson 1 = .ok (.getfield 55, 3) by decide +kernel) rfl (la_vo hL ho0) ?_
  refine tr_bipush (pc' := 6) (v := (8 : Int32)) (show decode cX8_addPerson 4 = .ok (.bipush 8, 2) by decide +kernel) rfl (by decide) ?_
  rcases hm_is h with ⟨hc, h⟩ | ⟨hc, h⟩
  · refine tr_icmp_lt_t (tgt := 11) hc (show decode cX8_addPerson 6 = .ok (.if_icmp .lt 5, 3) by decide +kernel) (by decide) ?_
    refine tr_aload_n (pc' := 12) (show decode cX8_addPerson 11 = .ok (.aload_n 0, 1) by decide +kernel) rfl rfl rfl ?_
    refine tr_getR (pc' := 15) fl_HandRing_Village_9 (show decode cX8_addPerson 12 = .ok (.getfield 9, 3) by decide +kernel) rfl (la_vo hL ho0) (la_v1 hL ho0) ?_
    refine tr_aload_n (pc' := 16) (show decode cX8_addPerson 15 = .ok (.aload_n 0, 1) by decide +kernel) rfl rfl rfl ?_
    refine tr_getI (pc' := 19) fl_HandRing_Village_55 (show decode cX8_addPerson 16 = .ok (.getfield 55, 3) by decide +kernel) rfl (la_vo hL ho0) ?_
    refine tr_iload_n (pc' := 20) (show decode cX8_addPerson 19 = .ok (.iload_n 1, 1) by decide +kernel) rfl rfl rfl ?_
    obtain ⟨μ2, eμ2, h⟩ := hm_bs h
    refine tp_sdI (pc' := 21) (show decode cX8_addPerson 20 = .ok (.iastore, 1) by decide +kernel) rfl (la_va1 hL ho0) eμ2 ?_
    replace hL := hL.same (hm_sd_s eμ2)
    refine tr_aload_n (pc' := 22) (show decode cX8_addPerson 21 = .ok (.aload_n 0, 1) by decide +kernel) rfl rfl rfl ?_
    refine tr_getR (pc' := 25) fl_HandRing_Village_15 (show decode cX8_addPerson 22 = .ok (.getfield 15, 3) by decide +kernel) rfl (la_vo hL ho0) (la_v2 hL ho0) ?_
    refine tr_aload_n (pc' := 26) (show decode cX8_addPerson 25 = .ok (.aload_n 0, 1) by decide +kernel) rfl rfl rfl ?_
    refine tr_getI (pc' := 29) fl_HandRing_Village_55 (show decode cX8_addPerson 26 = .ok (.getfield 55, 3) by decide +kernel) rfl (la_vo hL ho0) ?_
    refine tr_iload_n (pc' := 30) (show decode cX8_addPerson 29 = .ok (.iload_n 2, 1) by decide +kernel) rfl rfl rfl ?_
    obtain ⟨μ3, eμ3, h⟩ := hm_bs h
    refine tp_sdI (pc' := 31) (show decode cX8_addPerson 30 = .ok (.iastore, 1) by decide +kernel) rfl (la_va2 hL ho0) eμ3 ?_
    replace hL := hL.same (hm_sd_s eμ3)
    refine tr_aload_n (pc' := 32) (show decode cX8_addPerson 31 = .ok (.aload_n 0, 1) by decide +kernel) rfl rfl rfl ?_
    refine tr_getR (pc' := 35) fl_HandRing_Village_18 (show decode cX8_addPerson 32 = .ok (.getfield 18, 3) by decide +kernel) rfl (la_vo hL ho0) (la_v3 hL ho0) ?_
    refine tr_aload_n (pc' := 36) (show decode cX8_addPerson 35 = .ok (.aload_n 0, 1) by decide +kernel) rfl rfl rfl ?_
    refine tr_getI (pc' := 39) fl_HandRing_Village_55 (show decode cX8_addPerson 36 = .ok (.getfield 55, 3) by decide +kernel) rfl (la_vo hL ho0) ?_
    refine tr_iload_n (pc' := 40) (show decode cX8_addPerson 39 = .ok (.iload_n 3, 1) by decide +kernel) rfl rfl rfl ?_
    obtain ⟨μ4, eμ4, h⟩ := hm_bs h
    refine tp_sdI (pc' := 41) (show decode cX8_addPerson 40 = .ok (.iastore, 1) by decide +kernel) rfl (la_va3 hL ho0) eμ4 ?_
    replace hL := hL.same (hm_sd_s eμ4)
    refine tr_aload_n (pc' := 42) (show decode cX8_addPerson 41 = .ok (.aload_n 0, 1) by decide +kernel) rfl rfl rfl ?_
    refine tr_getR (pc' := 45) fl_HandRing_Village_21 (show decode cX8_addPerson 42 = .ok (.getfield 21, 3) by decide +kernel) rfl (la_vo hL ho0) (la_v4 hL ho0) ?_
    refine tr_aload_n (pc' := 46) (show decode cX8_addPerson 45 = .ok (.aload_n 0, 1) by decide +kernel) rfl rfl rfl ?_
    refine tr_getI (pc' := 49) fl_HandRing_Village_55 (show decode cX8_addPerson 46 = .ok (.getfield 55, 3) by decide +kernel) rfl (la_vo hL ho0) ?_
    refine tr_iconst (pc' := 50) (v := (0 : Int32)) (show decode cX8_addPerson 49 = .ok (.iconst 0, 1) by decide +kernel) rfl (by decide) ?_
    obtain ⟨μ5, eμ5, h⟩ := hm_bs h
    refine tp_sdI (pc' := 51) (show decode cX8_addPerson 50 = .ok (.iastore, 1) by decide +kernel) rfl (la_va4 hL ho0) eμ5 ?_
    replace hL := hL.same (hm_sd_s eμ5)
    refine tr_aload_n (pc' := 52) (show decode cX8_addPerson 51 = .ok (.aload_n 0, 1) by decide +kernel) rfl rfl rfl ?_
    refine tr_dup (pc' := 53) (show decode cX8_addPerson 52 = .ok (.dup, 1) by decide +kernel) rfl rfl ?_
    refine tr_getI (pc' := 56) fl_HandRing_Village_55 (show decode cX8_addPerson 53 = .ok (.getfield 55, 3) by decide +kernel) rfl (la_vo hL ho0) ?_
    refine tr_iconst (pc' := 57) (v := (1 : Int32)) (show decode cX8_addPerson 56 = .ok (.iconst 1, 1) by decide +kernel) rfl (by decide) ?_
    refine tr_iadd (pc' := 58) (show decode cX8_addPerson 57 = .ok (.iadd, 1) by decide +kernel) rfl ?_
    obtain ⟨μ6, eμ6, h⟩ := hm_bs h
    refine tp_pI (pc' := 61) fl_HandRing_Village_55 (show decode cX8_addPerson 58 = .ok (.putfield 55, 3) by decide +kernel) rfl (la_vo hL ho0) eμ6 ?_
    replace hL := hL.same (hm_pI_s eμ6)
    refine tr_aload_n (pc' := 62) (show decode cX8_addPerson 61 = .ok (.aload_n 0, 1) by decide +kernel) rfl rfl rfl ?_
    refine tr_getI (pc' := 65) fl_HandRing_Village_55 (show decode cX8_addPerson 62 = .ok (.getfield 55, 3) by decide +kernel) rfl (la_vo hL ho0) ?_
    refine tr_iconst (pc' := 66) (v := (1 : Int32)) (show decode cX8_addPerson 65 = .ok (.iconst 1, 1) by decide +kernel) rfl (by decide) ?_
    refine tr_isub (pc' := 67) (show decode cX8_addPerson 66 = .ok (.isub, 1) by decide +kernel) rfl ?_
    cases h
    exact tr_iret rfl (show decode cX8_addPerson 67 = .ok (.ireturn, 1) by decide +kernel) hL
  · refine tr_icmp_lt_f (tgt := 11) (pc' := 9) hc (show decode cX8_addPerson 6 = .ok (.if_icmp .lt 5, 3) by decide +kernel) (by decide) rfl ?_
    refine tr_iconst (pc' := 10) (v := (-1 : Int32)) (show decode cX8_addPerson 9 = .ok (.iconst (-1), 1) by decide +kernel) rfl (by decide) ?_
    cases h
    exact tr_iret rfl (show decode cX8_addPerson 10 = .ok (.ireturn, 1) by decide +kernel) hL
def f_X8_addLaw (o0 : Nat) (v1 : Nat) (μ : hm_M) : Option (Int32 × hm_M) :=
  (if (μ.1 o0 7) < (6 : Int32) then
  Option.bind (hm_sdR μ (o0 + 6) 6 (μ.1 o0 7) (some v1)) fun μ2 =>
  Option.bind (hm_pI μ2 o0 7 ((μ2.1 o0 7) + (1 : Int32))) fun μ3 =>
  some ((μ3.1 o0 7) - (1 : Int32), μ3)
  else
  some ((-1 : Int32), μ))
set_option maxRecDepth 100000 in
theorem ok_X8_addLaw {fr : Nat} (hfr : 0 ≤ fr) {ν : hm_N} {r : Int32} {μR : hm_M}  (o0 : Nat) (v1 : Nat) (ho0 : hm_V o0) (hv1 : hm_pg ν v1) (μ : hm_M) (hL : hm_LL ν μ) (h : f_X8_addLaw o0 v1 μ = some (r, μR)) : hm_CC (hm_LL ν) m_X8_addLaw fr 0 0 [.ref o0, .ref v1] μ (some (.int r)) μR := by
  refine hm_enter (lv := [some (.ref o0), some (.ref v1)]) (by decide) rfl (Nat.le_of_ble_eq_true rfl) ?_
  unfold f_X8_addLaw at h
  refine tr_aload_n (pc' := 1) (show decode cX8_addLaw 0 = .ok (.aload_n 0, 1) by decide +kernel) rfl rfl rfl ?_
  refine tr_getI (pc' := 4) fl_HandRing_Village_58 (show decode cX8_addLaw 1 = .ok (.getfield 58, 3) by decide +kernel) rfl (la_vo hL ho0) ?_
  refine tr_bipush (pc' := 6) (v := (6 : Int32)) (show decode cX8_addLaw 4 = .ok (.bipush 6, 2) by decide +kernel) rfl (by decide) ?_
  rcases hm_is h with ⟨hc, h⟩ | ⟨hc, h⟩
  · refine tr_icmp_lt_t (tgt := 11) hc (show decode cX8_addLaw 6 = .ok (.if_icmp .lt 5, 3) by decide +kernel) (by decide) ?_
    refine tr_aload_n (pc' := 12) (show decode cX8_addLaw 11 = .ok (.aload_n 0, 1) by decide +kernel) rfl rfl rfl ?_
    refine tr_getR (pc' := 15) fl_HandRing_Village_29 (show decode cX8_addLaw 12 = .ok (.getfield 29, 3) by decide +kernel) rfl (la_vo hL ho0) (la_v6 hL ho0) ?_
    refine tr_aload_n (pc' := 16) (show decode cX8_addLaw 15 = .ok (.aload_n 0, 1) by decide +kernel) rfl rfl rfl ?_
    refine tr_getI (pc' := 19) fl_HandRing_Village_58 (show decode cX8_addLaw 16 = .ok (.getfield 58, 3) by decide +kernel) rfl (la_vo hL ho0) ?_
    refine tr_aload_n (pc' := 20) (show decode cX8_addLaw 19 = .ok (.aload_n 1, 1) by decide +kernel) rfl rfl rfl ?_
    obtain ⟨μ2, eμ2, h⟩ := hm_bs h
    refine tp_sdR (pc' := 21) (x := (some v1)) (fun _ z => la_po hL ((fun p (z : some v1 = some p) => (by cases z; exact hv1 : hm_pg ν p)) _ z)) (show decode cX8_addLaw 20 = .ok (.aastore, 1) by decide +kernel) rfl (la_va6 hL ho0) eμ2 ?_
    replace hL := la_wlaw hL ho0 (fun p (z : some v1 = some p) => (by cases z; exact hv1 : hm_pg ν p)) eμ2
    refine tr_aload_n (pc' := 22) (show decode cX8_addLaw 21 = .ok (.aload_n 0, 1) by decide +kernel) rfl rfl rfl ?_
    refine tr_dup (pc' := 23) (show decode cX8_addLaw 22 = .ok (.dup, 1) by decide +kernel) rfl rfl ?_
    refine tr_getI (pc' := 26) fl_HandRing_Village_58 (show decode cX8_addLaw 23 = .ok (.getfield 58, 3) by decide +kernel) rfl (la_vo hL ho0) ?_
    refine tr_iconst (pc' := 27) (v := (1 : Int32)) (show decode cX8_addLaw 26 = .ok (.iconst 1, 1) by decide +kernel) rfl (by decide) ?_
    refine tr_iadd (pc' := 28) (show decode cX8_addLaw 27 = .ok (.iadd, 1) by decide +kernel) rfl ?_
    obtain ⟨μ3, eμ3, h⟩ := hm_bs h
    refine tp_pI (pc' := 31) fl_HandRing_Village_58 (show decode cX8_addLaw 28 = .ok (.putfield 58, 3) by decide +kernel) rfl (la_vo hL ho0) eμ3 ?_
    replace hL := hL.same (hm_pI_s eμ3)
    refine tr_aload_n (pc' := 32) (show decode cX8_addLaw 31 = .ok (.aload_n 0, 1) by decide +kernel) rfl rfl rfl ?_
    refine tr_getI (pc' := 35) fl_HandRing_Village_58 (show decode cX8_addLaw 32 = .ok (.getfield 58, 3) by decide +kernel) rfl (la_vo hL ho0) ?_
    refine tr_iconst (pc' := 36) (v := (1 : Int32)) (show decode cX8_addLaw 35 = .ok (.iconst 1, 1) by decide +kernel) rfl (by decide) ?_
    refine tr_isub (pc' := 37) (show decode cX8_addLaw 36 = .ok (.isub, 1) by decide +kernel) rfl ?_
    cases h
    exact tr_iret rfl (show decode cX8_addLaw 37 = .ok (.ireturn, 1) by decide +kernel) hL
  · refine tr_icmp_lt_f (tgt := 11) (pc' := 9) hc (show decode cX8_addLaw 6 = .ok (.if_icmp .lt 5, 3) by decide +kernel) (by decide) rfl ?_
    refine tr_iconst (pc' := 10) (v := (-1 : Int32)) (show decode cX8_addLaw 9 = .ok (.iconst (-1), 1) by decide +kernel) rfl (by decide) ?_
    cases h
    exact tr_iret rfl (show decode cX8_addLaw 10 = .ok (.ireturn, 1) by decide +kernel) hL
def f_X8_addSeen (o0 : Nat) (v1 : Int32) (v2 : Int32) (v3 : Int32) (μ : hm_M) : Option (Int32 × hm_M) :=
  (if (6 : Int32) ≤ (μ.1 o0 12) then
  some (μ.1 o0 12, μ)
  else
  Option.bind (hm_sd μ (o0 + 7) 6 (μ.1 o0 12) (if v2 < v1 then v2 else v1)) fun μ2 =>
  Option.bind (hm_sd μ2 (o0 + 8) 6 (μ2.1 o0 12) (if v1 < v2 then v2 else v1)) fun μ3 =>
  Option.bind (hm_sd μ3 (o0 + 9) 6 (μ3.1 o0 12) v3) fun μ4 =>
  Option.bind (hm_pI μ4 o0 12 ((μ4.1 o0 12) + (1 : Int32))) fun μ5 =>
  some (μ5.1 o0 12, μ5))
set_option maxRecDepth 100000 in
theorem ok_X8_addSeen {fr : Nat} (hfr : 1 ≤ fr) {ν : hm_N} {r : Int32} {μR : hm_M}  (o0 : Nat) (v1 : Int32) (v2 : Int32) (v3 : Int32) (ho0 : hm_V o0) (μ : hm_M) (hL : hm_LL ν μ) (h : f_X8_addSeen o0 v1 v2 v3 μ = some (r, μR)) : hm_CC (hm_LL ν) m_X8_addSeen fr 0 0 [.ref o0, .int v1, .int v2, .int v3] μ (some (.int r)) μR := by
  refine hm_enter (lv := [some (.ref o0), some (.int v1), some (.int v2), some (.int v3)]) (by decide) rfl (Nat.le_of_ble_eq_true rfl) ?_
  unfold f_X8_addSeen at h
  refine tr_aload_n (pc' := 1) (show decode cX8_addSeen 0 = .ok (.aload_n 0, 1) by decide +kernel) rfl rfl rfl ?_
  refine tr_getI (pc' := 4) fl_HandRing_Village_61 (show decode cX8_addSeen 1 = .ok (.getfield 61, 3) by decide +kernel) rfl (la_vo hL ho0) ?_
  refine tr_bipush (pc' := 6) (v := (6 : Int32)) (show decode cX8_addSeen 4 = .ok (.bipush 6, 2) by decide +kernel) rfl (by decide) ?_
  rcases hm_is h with ⟨hc, h⟩ | ⟨hc, h⟩
  · refine tr_icmp_ge_t (tgt := 57) hc (show decode cX8_addSeen 6 = .ok (.if_icmp .ge 51, 3) by decide +kernel) (by decide) ?_
    refine tr_aload_n (pc' := 58) (show decode cX8_addSeen 57 = .ok (.aload_n 0, 1) by decide +kernel) rfl rfl rfl ?_
    refine tr_getI (pc' := 61) fl_HandRing_Village_61 (show decode cX8_addSeen 58 = .ok (.getfield 61, 3) by decide +kernel) rfl (la_vo hL ho0) ?_
    cases h
    exact tr_iret rfl (show decode cX8_addSeen 61 = .ok (.ireturn, 1) by decide +kernel) hL
  · refine tr_icmp_ge_f (tgt := 57) (pc' := 9) hc (show decode cX8_addSeen 6 = .ok (.if_icmp .ge 51, 3) by decide +kernel) (by decide) rfl ?_
    refine tr_aload_n (pc' := 10) (show decode cX8_addSeen 9 = .ok (.aload_n 0, 1) by decide +kernel) rfl rfl rfl ?_
    refine tr_getR (pc' := 13) fl_HandRing_Village_37 (show decode cX8_addSeen 10 = .ok (.getfield 37, 3) by decide +kernel) rfl (la_vo hL ho0) (la_v9 hL ho0) ?_
    refine tr_aload_n (pc' := 14) (show decode cX8_addSeen 13 = .ok (.aload_n 0, 1) by decide +kernel) rfl rfl rfl ?_
    refine tr_getI (pc' := 17) fl_HandRing_Village_61 (show decode cX8_addSeen 14 = .ok (.getfield 61, 3) by decide +kernel) rfl (la_vo hL ho0) ?_
    refine tr_iload_n (pc' := 18) (show decode cX8_addSeen 17 = .ok (.iload_n 1, 1) by decide +kernel) rfl rfl rfl ?_
    refine tr_iload_n (pc' := 19) (show decode cX8_addSeen 18 = .ok (.iload_n 2, 1) by decide +kernel) rfl rfl rfl ?_
    refine tr_min (pc' := 22) lk_HandRing_Village_68 kw_min_s kw_Math_i kw_min_c (show decode cX8_addSeen 19 = .ok (.invokestatic 68, 3) by decide +kernel) rfl (Nat.le_of_ble_eq_true rfl) (by omega) ?_
    obtain ⟨μ2, eμ2, h⟩ := hm_bs h
    refine tp_sdI (pc' := 23) (show decode cX8_addSeen 22 = .ok (.iastore, 1) by decide +kernel) rfl (la_va9 hL ho0) eμ2 ?_
    replace hL := hL.same (hm_sd_s eμ2)
    refine tr_aload_n (pc' := 24) (show decode cX8_addSeen 23 = .ok (.aload_n 0, 1) by decide +kernel) rfl rfl rfl ?_
    refine tr_getR (pc' := 27) fl_HandRing_Village_40 (show decode cX8_addSeen 24 = .ok (.getfield 40, 3) by decide +kernel) rfl (la_vo hL ho0) (la_v10 hL ho0) ?_
    refine tr_aload_n (pc' := 28) (show decode cX8_addSeen 27 = .ok (.aload_n 0, 1) by decide +kernel) rfl rfl rfl ?_
    refine tr_getI (pc' := 31) fl_HandRing_Village_61 (show decode cX8_addSeen 28 = .ok (.getfield 61, 3) by decide +kernel) rfl (la_vo hL ho0) ?_
    refine tr_iload_n (pc' := 32) (show decode cX8_addSeen 31 = .ok (.iload_n 1, 1) by decide +kernel) rfl rfl rfl ?_
    refine tr_iload_n (pc' := 33) (show decode cX8_addSeen 32 = .ok (.iload_n 2, 1) by decide +kernel) rfl rfl rfl ?_
    refine tr_max (pc' := 36) lk_HandRing_Village_74 kw_max_s kw_Math_i kw_max_c (show decode cX8_addSeen 33 = .ok (.invokestatic 74, 3) by decide +kernel) rfl (Nat.le_of_ble_eq_true rfl) (by omega) ?_
    obtain ⟨μ3, eμ3, h⟩ := hm_bs h
    refine tp_sdI (pc' := 37) (show decode cX8_addSeen 36 = .ok (.iastore, 1) by decide +kernel) rfl (la_va10 hL ho0) eμ3 ?_
    replace hL := hL.same (hm_sd_s eμ3)
    refine tr_aload_n (pc' := 38) (show decode cX8_addSeen 37 = .ok (.aload_n 0, 1) by decide +kernel) rfl rfl rfl ?_
    refine tr_getR (pc' := 41) fl_HandRing_Village_43 (show decode cX8_addSeen 38 = .ok (.getfield 43, 3) by decide +kernel) rfl (la_vo hL ho0) (la_v11 hL ho0) ?_
    refine tr_aload_n (pc' := 42) (show decode cX8_addSeen 41 = .ok (.aload_n 0, 1) by decide +kernel) rfl rfl rfl ?_
    refine tr_getI (pc' := 45) fl_HandRing_Village_61 (show decode cX8_addSeen 42 = .ok (.getfield 61, 3) by decide +kernel) rfl (la_vo hL ho0) ?_
    refine tr_iload_n (pc' := 46) (show decode cX8_addSeen 45 = .ok (.iload_n 3, 1) by decide +kernel) rfl rfl rfl ?_
    obtain ⟨μ4, eμ4, h⟩ := hm_bs h
    refine tp_sdI (pc' := 47) (show decode cX8_addSeen 46 = .ok (.iastore, 1) by decide +kernel) rfl (la_va11 hL ho0) eμ4 ?_
    replace hL := hL.same (hm_sd_s eμ4)
    refine tr_aload_n (pc' := 48) (show decode cX8_addSeen 47 = .ok (.aload_n 0, 1) by decide +kernel) rfl rfl rfl ?_
    refine tr_dup (pc' := 49) (show decode cX8_addSeen 48 = .ok (.dup, 1) by decide +kernel) rfl rfl ?_
    refine tr_getI (pc' := 52) fl_HandRing_Village_61 (show decode cX8_addSeen 49 = .ok (.getfield 61, 3) by decide +kernel) rfl (la_vo hL ho0) ?_
    refine tr_iconst (pc' := 53) (v := (1 : Int32)) (show decode cX8_addSeen 52 = .ok (.iconst 1, 1) by decide +kernel) rfl (by decide) ?_
    refine tr_iadd (pc' := 54) (show decode cX8_addSeen 53 = .ok (.iadd, 1) by decide +kernel) rfl ?_
    obtain ⟨μ5, eμ5, h⟩ := hm_bs h
    refine tp_pI (pc' := 57) fl_HandRing_Village_61 (show decode cX8_addSeen 54 = .ok (.putfield 61, 3) by decide +kernel) rfl (la_vo hL ho0) eμ5 ?_
    replace hL := hL.same (hm_pI_s eμ5)
    refine tr_aload_n (pc' := 58) (show decode cX8_addSeen 57 = .ok (.aload_n 0, 1) by decide +kernel) rfl rfl rfl ?_
    refine tr_getI (pc' := 61) fl_HandRing_Village_61 (show decode cX8_addSeen 58 = .ok (.getfield 61, 3) by decide +kernel) rfl (la_vo hL ho0) ?_
    cases h
    exact tr_iret rfl (show decode cX8_addSeen 61 = .ok (.ireturn, 1) by decide +kernel) hL
def f_X8_comesTo (o0 : Nat) (μ : hm_M) : Option Int32 :=
  (if (μ.1 o0 0) = 0 then
  some (0 : Int32)
  else
  Option.bind (f_X0_spread (o0 + 4) 8 (μ.1 o0 0) (1 : Int32) (-1 : Int32) μ) fun x2 =>
  some x2)
set_option maxRecDepth 100000 in
theorem ok_X8_comesTo {fr : Nat} (hfr : 1 ≤ fr) {ν : hm_N} {r : Int32}  (o0 : Nat) (ho0 : hm_V o0) (μ : hm_M) (hL : hm_LL ν μ) (h : f_X8_comesTo o0 μ = some r) : hm_CC (hm_LL ν) m_X8_comesTo fr 0 0 [.ref o0] μ (some (.int r)) μ := by
  refine hm_enter (lv := [some (.ref o0)]) (by decide) rfl (Nat.le_of_ble_eq_true rfl) ?_
  unfold f_X8_comesTo at h
  refine tr_aload_n (pc' := 1) (show decode cX8_comesTo 0 = .ok (.aload_n 0, 1) by decide +kernel) rfl rfl rfl ?_
  refine tr_getI (pc' := 4) fl_HandRing_Village_55 (show decode cX8_comesTo 1 = .ok (.getfield 55, 3) by decide +kernel) rfl (la_vo hL ho0) ?_
  rcases hm_is h with ⟨hc, h⟩ | ⟨hc, h⟩
  · refine tr_if_ne_f (tgt := 11) (pc' := 7) hc (show decode cX8_comesTo 4 = .ok (.ifCond .ne 7, 3) by decide +kernel) (by decide) rfl ?_
    refine tr_iconst (pc' := 8) (v := (0 : Int32)) (show decode cX8_comesTo 7 = .ok (.iconst 0, 1) by decide +kernel) rfl (by decide) ?_
    refine tr_goto (tgt := 24) (show decode cX8_comesTo 8 = .ok (.goto 16, 3) by decide +kernel) rfl ?_
    cases h
    exact tr_iret rfl (show decode cX8_comesTo 24 = .ok (.ireturn, 1) by decide +kernel) hL
  · refine tr_if_ne_t (tgt := 11) hc (show decode cX8_comesTo 4 = .ok (.ifCond .ne 7, 3) by decide +kernel) (by decide) ?_
    refine tr_aload_n (pc' := 12) (show decode cX8_comesTo 11 = .ok (.aload_n 0, 1) by decide +kernel) rfl rfl rfl ?_
    refine tr_getR (pc' := 15) fl_HandRing_Village_21 (show decode cX8_comesTo 12 = .ok (.getfield 21, 3) by decide +kernel) rfl (la_vo hL ho0) (la_v4 hL ho0) ?_
    refine tr_aload_n (pc' := 16) (show decode cX8_comesTo 15 = .ok (.aload_n 0, 1) by decide +kernel) rfl rfl rfl ?_
    refine tr_getI (pc' := 19) fl_HandRing_Village_55 (show decode cX8_comesTo 16 = .ok (.getfield 55, 3) by decide +kernel) rfl (la_vo hL ho0) ?_
    refine tr_iconst (pc' := 20) (v := (1 : Int32)) (show decode cX8_comesTo 19 = .ok (.iconst 1, 1) by decide +kernel) rfl (by decide) ?_
    refine tr_iconst (pc' := 21) (v := (-1 : Int32)) (show decode cX8_comesTo 20 = .ok (.iconst (-1), 1) by decide +kernel) rfl (by decide) ?_
    obtain ⟨x2, ex2, h⟩ := hm_bs h
    have cx2 := ok_X0_spread (fr := fr - 1) (ν := ν) (by omega) (o0 + 4) 8 (μ.1 o0 0) (1 : Int32) (-1 : Int32) (la_n hL (la_va4 hL ho0)) μ hL ex2
    refine tp_callS (pc' := 24) (As := [.ref (o0 + 4), .int (μ.1 o0 0), .int (1 : Int32), .int (-1 : Int32)]) (fr1 := fr - 1) okm_X0_spread lk_HandRing_Village_91 (show decode cX8_comesTo 21 = .ok (.invokestatic 91, 3) by decide +kernel) rfl rfl rfl (Nat.le_of_ble_eq_true rfl) (by omega) cx2 (st' := [.int x2]) rfl ?_
    cases h
    exact tr_iret rfl (show decode cX8_comesTo 24 = .ok (.ireturn, 1) by decide +kernel) hL
def f_X8_holdsGoRound_L2 (o0 : Nat) (e31 : hm_M → Option Int32) : Nat → Int32 → hm_M → Option Int32
  | 0, _, _ => none
  | n + 1, y1, μ1 => (if (μ1.1 o0 0) ≤ y1 then
  e31 μ1
  else
  Option.bind (hm_ld μ1 (o0 + 4) 8 y1) fun x2 =>
  Option.bind (f_J6_bitCount_0f7a4 x2) fun x3 =>
  (if x3 = (2 : Int32) then
  (f_X8_holdsGoRound_L2 o0 e31 n) (y1 + (1 : Int32)) μ1
  else
  some (0 : Int32)))
theorem ok_X8_holdsGoRound_L2 {fr : Nat} (hfr : 2 ≤ fr) {ν : hm_N} {r : Int32}  (o0 : Nat) (e31 : hm_M → Option Int32)  (he31 : ∀   (μ1 : hm_M), hm_LL ν μ1 → e31 μ1 = some r → hm_T (hm_LL ν) m_X8_holdsGoRound fr 0 0 (some (.int r)) μ1 31 [some (.ref o0), none] [] μ1) (ho0 : hm_V o0) : ∀ (n : Nat) (y1 : Int32)  (μ1 : hm_M), hm_LL ν μ1 → f_X8_holdsGoRound_L2 o0 e31 n y1 μ1 = some r → hm_T (hm_LL ν) m_X8_holdsGoRound fr 0 0 (some (.int r)) μ1 2 [some (.ref o0), some (.int y1)] [] μ1 := by
  intro n
  induction n with
  | zero =>
    intro y1 μ1 hL h
    unfold f_X8_holdsGoRound_L2 at h
    cases h
  | succ n ih =>
    intro y1 μ1 hL h
    unfold f_X8_holdsGoRound_L2 at h
    refine tr_iload_n (pc' := 3) (show decode cX8_holdsGoRound 2 = .ok (.iload_n 1, 1) by decide +kernel) rfl rfl rfl ?_
    refine tr_aload_n (pc' := 4) (show decode cX8_holdsGoRound 3 = .ok (.aload_n 0, 1) by decide +kernel) rfl rfl rfl ?_
    refine tr_getI (pc' := 7) fl_HandRing_Village_55 (show decode cX8_holdsGoRound 4 = .ok (.getfield 55, 3) by decide +kernel) rfl (la_vo hL ho0) ?_
    rcases hm_is h with ⟨hc, h⟩ | ⟨hc, h⟩
    · refine tr_icmp_ge_t (tgt := 31) hc (show decode cX8_holdsGoRound 7 = .ok (.if_icmp .ge 24, 3) by decide +kernel) (by decide) ?_
      refine hm_fgt [true, false] (lv' := [some (.ref o0), none]) rfl ?_
      exact he31 μ1 hL h
    · refine tr_icmp_ge_f (tgt := 31) (pc' := 10) hc (show decode cX8_holdsGoRound 7 = .ok (.if_icmp .ge 24, 3) by decide +kernel) (by decide) rfl ?_
      refine tr_aload_n (pc' := 11) (show decode cX8_holdsGoRound 10 = .ok (.aload_n 0, 1) by decide +kernel) rfl rfl rfl ?_
      refine tr_getR (pc' := 14) fl_HandRing_Village_21 (show decode cX8_holdsGoRound 11 = .ok (.getfield 21, 3) by decide +kernel) rfl (la_vo hL ho0) (la_v4 hL ho0) ?_
      refine tr_iload_n (pc' := 15) (show decode cX8_holdsGoRound 14 = .ok (.iload_n 1, 1) by decide +kernel) rfl rfl rfl ?_
      obtain ⟨x2, ex2, h⟩ := hm_bs h
      refine tp_ldI (pc' := 16) (show decode cX8_holdsGoRound 15 = .ok (.iaload, 1) by decide +kernel) rfl (la_va4 hL ho0) ex2 ?_
      obtain ⟨x3, ex3, h⟩ := hm_bs h
      have cx3 := ok_J6_bitCount_0f7a4 (fr := fr - 1) (ν := ν) (by omega) x2 μ1 hL ex3
      refine tp_callS (pc' := 19) (As := [.int x2]) (fr1 := fr - 1) okm_J6_bitCount_0f7a4 lk_HandRing_Village_84 (show decode cX8_holdsGoRound 16 = .ok (.invokestatic 84, 3) by decide +kernel) rfl rfl rfl (Nat.le_of_ble_eq_true rfl) (by omega) cx3 (st' := [.int x3]) rfl ?_
      refine tr_iconst (pc' := 20) (v := (2 : Int32)) (show decode cX8_holdsGoRound 19 = .ok (.iconst 2, 1) by decide +kernel) rfl (by decide) ?_
      rcases hm_is h with ⟨hc, h⟩ | ⟨hc, h⟩
      · refine tr_icmp_eq_t (tgt := 25) hc (show decode cX8_holdsGoRound 20 = .ok (.if_icmp .eq 5, 3) by decide +kernel) (by decide) ?_
        refine tr_iinc (pc' := 28) (v := y1 + (1 : Int32)) (lv' := [some (.ref o0), some (.int (y1 + (1 : Int32)))]) (show decode cX8_holdsGoRound 25 = .ok (.iinc 1 1, 3) by decide +kernel) rfl rfl rfl (Nat.le_of_ble_eq_true rfl) rfl rfl ?_
        refine tr_goto (tgt := 2) (show decode cX8_holdsGoRound 28 = .ok (.goto (-26), 3) by decide +kernel) rfl ?_
        exact ih (y1 + (1 : Int32)) μ1 hL h
      · refine tr_icmp_eq_f (tgt := 25) (pc' := 23) hc (show decode cX8_holdsGoRound 20 = .ok (.if_icmp .eq 5, 3) by decide +kernel) (by decide) rfl ?_
        refine tr_iconst (pc' := 24) (v := (0 : Int32)) (show decode cX8_holdsGoRound 23 = .ok (.iconst 0, 1) by decide +kernel) rfl (by decide) ?_
        cases h
        exact tr_zret rfl (by decide) (show decode cX8_holdsGoRound 24 = .ok (.ireturn, 1) by decide +kernel) hL
def f_X8_holdsGoRound (o0 : Nat) (μ : hm_M) : Option Int32 :=
  f_X8_holdsGoRound_L2 o0 (fun μz4 => (if (μz4.1 o0 0) < (3 : Int32) then
  some (0 : Int32)
  else
  Option.bind (f_X8_comesTo o0 μz4) fun x5 =>
  (if x5 = (((1 : Int32) <<< ((μz4.1 o0 0) &&& 31)) - (1 : Int32)) then
  some (1 : Int32)
  else
  some (0 : Int32)))) hm_fu (0 : Int32) μ
set_option maxRecDepth 100000 in
theorem ok_X8_holdsGoRound {fr : Nat} (hfr : 2 ≤ fr) {ν : hm_N} {r : Int32}  (o0 : Nat) (ho0 : hm_V o0) (μ : hm_M) (hL : hm_LL ν μ) (h : f_X8_holdsGoRound o0 μ = some r) : hm_CC (hm_LL ν) m_X8_holdsGoRound fr 0 0 [.ref o0] μ (some (.int r)) μ := by
  refine hm_enter (lv := [some (.ref o0), none]) (by decide) rfl (Nat.le_of_ble_eq_true rfl) ?_
  unfold f_X8_holdsGoRound at h
  refine tr_iconst (pc' := 1) (v := (0 : Int32)) (show decode cX8_holdsGoRound 0 = .ok (.iconst 0, 1) by decide +kernel) rfl (by decide) ?_
  refine tr_istore_n (pc' := 2) (lv' := [some (.ref o0), some (.int (0 : Int32))]) (show decode cX8_holdsGoRound 1 = .ok (.istore_n 1, 1) by decide +kernel) rfl rfl (Nat.le_of_ble_eq_true rfl) rfl rfl ?_
  refine ok_X8_holdsGoRound_L2 hfr _ _ ?_ ho0 _ (0 : Int32) μ hL h
  · intro μz4 hL h
    refine tr_aload_n (pc' := 32) (show decode cX8_holdsGoRound 31 = .ok (.aload_n 0, 1) by decide +kernel) rfl rfl rfl ?_
    refine tr_getI (pc' := 35) fl_HandRing_Village_55 (show decode cX8_holdsGoRound 32 = .ok (.getfield 55, 3) by decide +kernel) rfl (la_vo hL ho0) ?_
    refine tr_iconst (pc' := 36) (v := (3 : Int32)) (show decode cX8_holdsGoRound 35 = .ok (.iconst 3, 1) by decide +kernel) rfl (by decide) ?_
    rcases hm_is h with ⟨hc, h⟩ | ⟨hc, h⟩
    · refine tr_icmp_lt_t (tgt := 58) hc (show decode cX8_holdsGoRound 36 = .ok (.if_icmp .lt 22, 3) by decide +kernel) (by decide) ?_
      refine tr_iconst (pc' := 59) (v := (0 : Int32)) (show decode cX8_holdsGoRound 58 = .ok (.iconst 0, 1) by decide +kernel) rfl (by decide) ?_
      cases h
      exact tr_zret rfl (by decide) (show decode cX8_holdsGoRound 59 = .ok (.ireturn, 1) by decide +kernel) hL
    · refine tr_icmp_lt_f (tgt := 58) (pc' := 39) hc (show decode cX8_holdsGoRound 36 = .ok (.if_icmp .lt 22, 3) by decide +kernel) (by decide) rfl ?_
      refine tr_aload_n (pc' := 40) (show decode cX8_holdsGoRound 39 = .ok (.aload_n 0, 1) by decide +kernel) rfl rfl rfl ?_
      obtain ⟨x5, ex5, h⟩ := hm_bs h
      have cx5 := ok_X8_comesTo (fr := fr - 1) (ν := ν) (by omega) o0 ho0 μz4 hL ex5
      refine tp_callV (pc' := 43) (As := []) (fr1 := fr - 1) (ci := 8) okm_X8_comesTo lk_HandRing_Village_95 (show decode cX8_holdsGoRound 40 = .ok (.invokevirtual 95, 3) by decide +kernel) rfl rfl rfl (by decide) (la_vo hL ho0) rfl rfl (Nat.le_of_ble_eq_true rfl) (by omega) cx5 (st' := [.int x5]) rfl ?_
      refine tr_iconst (pc' := 44) (v := (1 : Int32)) (show decode cX8_holdsGoRound 43 = .ok (.iconst 1, 1) by decide +kernel) rfl (by decide) ?_
      refine tr_aload_n (pc' := 45) (show decode cX8_holdsGoRound 44 = .ok (.aload_n 0, 1) by decide +kernel) rfl rfl rfl ?_
      refine tr_getI (pc' := 48) fl_HandRing_Village_55 (show decode cX8_holdsGoRound 45 = .ok (.getfield 55, 3) by decide +kernel) rfl (la_vo hL ho0) ?_
      refine tr_ishl (pc' := 49) (show decode cX8_holdsGoRound 48 = .ok (.ishl, 1) by decide +kernel) rfl ?_
      refine tr_iconst (pc' := 50) (v := (1 : Int32)) (show decode cX8_holdsGoRound 49 = .ok (.iconst 1, 1) by decide +kernel) rfl (by decide) ?_
      refine tr_isub (pc' := 51) (show decode cX8_holdsGoRound 50 = .ok (.isub, 1) by decide +kernel) rfl ?_
      rcases hm_is h with ⟨hc, h⟩ | ⟨hc, h⟩
      · refine tr_icmp_ne_f (tgt := 58) (pc' := 54) hc (show decode cX8_holdsGoRound 51 = .ok (.if_icmp .ne 7, 3) by decide +kernel) (by decide) rfl ?_
        refine tr_iconst (pc' := 55) (v := (1 : Int32)) (show decode cX8_holdsGoRound 54 = .ok (.iconst 1, 1) by decide +kernel) rfl (by decide) ?_
        refine tr_goto (tgt := 59) (show decode cX8_holdsGoRound 55 = .ok (.goto 4, 3) by decide +kernel) rfl ?_
        cases h
        exact tr_zret rfl (by decide) (show decode cX8_holdsGoRound 59 = .ok (.ireturn, 1) by decide +kernel) hL
      · refine tr_icmp_ne_t (tgt := 58) hc (show decode cX8_holdsGoRound 51 = .ok (.if_icmp .ne 7, 3) by decide +kernel) (by decide) ?_
        refine tr_iconst (pc' := 59) (v := (0 : Int32)) (show decode cX8_holdsGoRound 58 = .ok (.iconst 0, 1) by decide +kernel) rfl (by decide) ?_
        cases h
        exact tr_zret rfl (by decide) (show decode cX8_holdsGoRound 59 = .ok (.ireturn, 1) by decide +kernel) hL
def f_X9_canBePerson (v0 : Int32) (v1 : Int32) (v2 : Int32) : Option Int32 :=
  (if v0 < 0 then
  some (0 : Int32)
  else
  (if (25 : Int32) ≤ v0 then
  some (0 : Int32)
  else
  (if v1 < 0 then
  some (0 : Int32)
  else
  (if (4 : Int32) < v1 then
  some (0 : Int32)
  else
  (if v2 < 0 then
  some (0 : Int32)
  else
  (if (4 : Int32) ≤ v2 then
  some (0 : Int32)
  else
  some (1 : Int32)))))))
set_option maxRecDepth 100000 in
theorem ok_X9_canBePerson {fr : Nat} (hfr : 0 ≤ fr) {ν : hm_N} {r : Int32}  (v0 : Int32) (v1 : Int32) (v2 : Int32)  (μ : hm_M) (hL : hm_LL ν μ) (h : f_X9_canBePerson v0 v1 v2 = some r) : hm_CC (hm_LL ν) m_X9_canBePerson fr 0 0 [.int v0, .int v1, .int v2] μ (some (.int r)) μ := by
  refine hm_enter (lv := [some (.int v0), some (.int v1), some (.int v2)]) (by decide) rfl (Nat.le_of_ble_eq_true rfl) ?_
  unfold f_X9_canBePerson at h
  refine tr_iload_n (pc' := 1) (show decode cX9_canBePerson 0 = .ok (.iload_n 0, 1) by decide +kernel) rfl rfl rfl ?_
  rcases hm_is h with ⟨hc, h⟩ | ⟨hc, h⟩
  · refine tr_if_lt_t (tgt := 32) hc (show decode cX9_canBePerson 1 = .ok (.ifCond .lt 31, 3) by decide +kernel) (by decide) ?_
    refine tr_iconst (pc' := 33) (v := (0 : Int32)) (show decode cX9_canBePerson 32 = .ok (.iconst 0, 1) by decide +kernel) rfl (by decide) ?_
    cases h
    exact tr_zret rfl (by decide) (show decode cX9_canBePerson 33 = .ok (.ireturn, 1) by decide +kernel) hL
  · refine tr_if_lt_f (tgt := 32) (pc' := 4) hc (show decode cX9_canBePerson 1 = .ok (.ifCond .lt 31, 3) by decide +kernel) (by decide) rfl ?_
    refine tr_iload_n (pc' := 5) (show decode cX9_canBePerson 4 = .ok (.iload_n 0, 1) by decide +kernel) rfl rfl rfl ?_
    refine tr_bipush (pc' := 7) (v := (25 : Int32)) (show decode cX9_canBePerson 5 = .ok (.bipush 25, 2) by decide +kernel) rfl (by decide) ?_
    rcases hm_is h with ⟨hc, h⟩ | ⟨hc, h⟩
    · refine tr_icmp_ge_t (tgt := 32) hc (show decode cX9_canBePerson 7 = .ok (.if_icmp .ge 25, 3) by decide +kernel) (by decide) ?_
      refine tr_iconst (pc' := 33) (v := (0 : Int32)) (show decode cX9_canBePerson 32 = .ok (.iconst 0, 1) by decide +kernel) rfl (by decide) ?_
      cases h
      exact tr_zret rfl (by decide) (show decode cX9_canBePerson 33 = .ok (.ireturn, 1) by decide +kernel) hL
    · refine tr_icmp_ge_f (tgt := 32) (pc' := 10) hc (show decode cX9_canBePerson 7 = .ok (.if_icmp .ge 25, 3) by decide +kernel) (by decide) rfl ?_
      refine tr_iload_n (pc' := 11) (show decode cX9_canBePerson 10 = .ok (.iload_n 1, 1) by decide +kernel) rfl rfl rfl ?_
      rcases hm_is h with ⟨hc, h⟩ | ⟨hc, h⟩
      · refine tr_if_lt_t (tgt := 32) hc (show decode cX9_canBePerson 11 = .ok (.ifCond .lt 21, 3) by decide +kernel) (by decide) ?_
        refine tr_iconst (pc' := 33) (v := (0 : Int32)) (show decode cX9_canBePerson 32 = .ok (.iconst 0, 1) by decide +kernel) rfl (by decide) ?_
        cases h
        exact tr_zret rfl (by decide) (show decode cX9_canBePerson 33 = .ok (.ireturn, 1) by decide +kernel) hL
      · refine tr_if_lt_f (tgt := 32) (pc' := 14) hc (show decode cX9_canBePerson 11 = .ok (.ifCond .lt 21, 3) by decide +kernel) (by decide) rfl ?_
        refine tr_iload_n (pc' := 15) (show decode cX9_canBePerson 14 = .ok (.iload_n 1, 1) by decide +kernel) rfl rfl rfl ?_
        refine tr_iconst (pc' := 16) (v := (4 : Int32)) (show decode cX9_canBePerson 15 = .ok (.iconst 4, 1) by decide +kernel) rfl (by decide) ?_
        rcases hm_is h with ⟨hc, h⟩ | ⟨hc, h⟩
        · refine tr_icmp_gt_t (tgt := 32) hc (show decode cX9_canBePerson 16 = .ok (.if_icmp .gt 16, 3) by decide +kernel) (by decide) ?_
          refine tr_iconst (pc' := 33) (v := (0 : Int32)) (show decode cX9_canBePerson 32 = .ok (.iconst 0, 1) by decide +kernel) rfl (by decide) ?_
          cases h
          exact tr_zret rfl (by decide) (show decode cX9_canBePerson 33 = .ok (.ireturn, 1) by decide +kernel) hL
        · refine tr_icmp_gt_f (tgt := 32) (pc' := 19) hc (show decode cX9_canBePerson 16 = .ok (.if_icmp .gt 16, 3) by decide +kernel) (by decide) rfl ?_
          refine tr_iload_n (pc' := 20) (show decode cX9_canBePerson 19 = .ok (.iload_n 2, 1) by decide +kernel) rfl rfl rfl ?_
          rcases hm_is h with ⟨hc, h⟩ | ⟨hc, h⟩
          · refine tr_if_lt_t (tgt := 32) hc (show decode cX9_canBePerson 20 = .ok (.ifCond .lt 12, 3) by decide +kernel) (by decide) ?_
            refine tr_iconst (pc' := 33) (v := (0 : Int32)) (show decode cX9_canBePerson 32 = .ok (.iconst 0, 1) by decide +kernel) rfl (by decide) ?_
            cases h
            exact tr_zret rfl (by decide) (show decode cX9_canBePerson 33 = .ok (.ireturn, 1) by decide +kernel) hL
          · refine tr_if_lt_f (tgt := 32) (pc' := 23) hc (show decode cX9_canBePerson 20 = .ok (.ifCond .lt 12, 3) by decide +kernel) (by decide) rfl ?_
            refine tr_iload_n (pc' := 24) (show decode cX9_canBePerson 23 = .ok (.iload_n 2, 1) by decide +kernel) rfl rfl rfl ?_
            refine tr_iconst (pc' := 25) (v := (4 : Int32)) (show decode cX9_canBePerson 24 = .ok (.iconst 4, 1) by decide +kernel) rfl (by decide) ?_
            rcases hm_is h with ⟨hc, h⟩ | ⟨hc, h⟩
            · refine tr_icmp_ge_t (tgt := 32) hc (show decode cX9_canBePerson 25 = .ok (.if_icmp .ge 7, 3) by decide +kernel) (by decide) ?_
              refine tr_iconst (pc' := 33) (v := (0 : Int32)) (show decode cX9_canBePerson 32 = .ok (.iconst 0, 1) by decide +kernel) rfl (by decide) ?_
              cases h
              exact tr_zret rfl (by decide) (show decode cX9_canBePerson 33 = .ok (.ireturn, 1) by decide +kernel) hL
            · refine tr_icmp_ge_f (tgt := 32) (pc' := 28) hc (show decode cX9_canBePerson 25 = .ok (.if_icmp .ge 7, 3) by decide +kernel) (by decide) rfl ?_
              refine tr_iconst (pc' := 29) (v := (1 : Int32)) (show decode cX9_canBePerson 28 = .ok (.iconst 1, 1) by decide +kernel) rfl (by decide) ?_
              refine tr_goto (tgt := 33) (show decode cX9_canBePerson 29 = .ok (.goto 4, 3) by decide +kernel) rfl ?_
              cases h
              exact tr_zret rfl (by decide) (show decode cX9_canBePerson 33 = .ok (.ireturn, 1) by decide +kernel) hL
def f_X9_refused_J21 (v1 : Int32) (s0 : Int32) (μ1 : hm_M) : Option (Int32 × hm_M) :=
  (if s0 < 0 then
  some (v1, μ1)
  else
  (if (5 : Int32) ≤ s0 then
  some (v1, μ1)
  else
  Option.bind (hm_ld μ1 157 5 s0) fun x3 =>
  Option.bind (hm_sd μ1 157 5 s0 (x3 + (1 : Int32))) fun μ4 =>
  some (v1, μ4)))
theorem ok_X9_refused_J21 {fr : Nat} (hfr : 0 ≤ fr) {ν : hm_N} {r : Int32} {μR : hm_M}  (v1 : Int32)    (s0 : Int32) (μ1 : hm_M) (hL : hm_LL ν μ1) (h : f_X9_refused_J21 v1 s0 μ1 = some (r, μR)) : hm_T (hm_LL ν) m_X9_refused fr 0 0 (some (.int r)) μR 21 [some (.ref 64), some (.int v1), none] [.int s0] μ1 := by
  unfold f_X9_refused_J21 at h
  refine tr_istore_n (pc' := 22) (lv' := [some (.ref 64), some (.int v1), some (.int s0)]) (show decode cX9_refused 21 = .ok (.istore_n 2, 1) by decide +kernel) rfl rfl (Nat.le_of_ble_eq_true rfl) rfl rfl ?_
  refine tr_iload_n (pc' := 23) (show decode cX9_refused 22 = .ok (.iload_n 2, 1) by decide +kernel) rfl rfl rfl ?_
  rcases hm_is h with ⟨hc, h⟩ | ⟨hc, h⟩
  · refine tr_if_lt_t (tgt := 41) hc (show decode cX9_refused 23 = .ok (.ifCond .lt 18, 3) by decide +kernel) (by decide) ?_
    refine tr_iload_n (pc' := 42) (show decode cX9_refused 41 = .ok (.iload_n 1, 1) by decide +kernel) rfl rfl rfl ?_
    cases h
    exact tr_iret rfl (show decode cX9_refused 42 = .ok (.ireturn, 1) by decide +kernel) hL
  · refine tr_if_lt_f (tgt := 41) (pc' := 26) hc (show decode cX9_refused 23 = .ok (.ifCond .lt 18, 3) by decide +kernel) (by decide) rfl ?_
    refine tr_iload_n (pc' := 27) (show decode cX9_refused 26 = .ok (.iload_n 2, 1) by decide +kernel) rfl rfl rfl ?_
    refine tr_iconst (pc' := 28) (v := (5 : Int32)) (show decode cX9_refused 27 = .ok (.iconst 5, 1) by decide +kernel) rfl (by decide) ?_
    rcases hm_is h with ⟨hc, h⟩ | ⟨hc, h⟩
    · refine tr_icmp_ge_t (tgt := 41) hc (show decode cX9_refused 28 = .ok (.if_icmp .ge 13, 3) by decide +kernel) (by decide) ?_
      refine tr_iload_n (pc' := 42) (show decode cX9_refused 41 = .ok (.iload_n 1, 1) by decide +kernel) rfl rfl rfl ?_
      cases h
      exact tr_iret rfl (show decode cX9_refused 42 = .ok (.ireturn, 1) by decide +kernel) hL
    · refine tr_icmp_ge_f (tgt := 41) (pc' := 31) hc (show decode cX9_refused 28 = .ok (.if_icmp .ge 13, 3) by decide +kernel) (by decide) rfl ?_
      refine tr_aload_n (pc' := 32) (show decode cX9_refused 31 = .ok (.aload_n 0, 1) by decide +kernel) rfl rfl rfl ?_
      refine tr_getR (pc' := 35) fl_HandRing_84 (show decode cX9_refused 32 = .ok (.getfield 84, 3) by decide +kernel) rfl (la_o hL (by decide) rfl) (la_r hL 11 rfl) ?_
      refine tr_iload_n (pc' := 36) (show decode cX9_refused 35 = .ok (.iload_n 2, 1) by decide +kernel) rfl rfl rfl ?_
      refine tr_dup2 (pc' := 37) (show decode cX9_refused 36 = .ok (.dup2, 1) by decide +kernel) rfl rfl rfl ?_
      obtain ⟨x3, ex3, h⟩ := hm_bs h
      refine tp_ldI (pc' := 38) (show decode cX9_refused 37 = .ok (.iaload, 1) by decide +kernel) rfl (la_a hL (by decide) rfl) ex3 ?_
      refine tr_iconst (pc' := 39) (v := (1 : Int32)) (show decode cX9_refused 38 = .ok (.iconst 1, 1) by decide +kernel) rfl (by decide) ?_
      refine tr_iadd (pc' := 40) (show decode cX9_refused 39 = .ok (.iadd, 1) by decide +kernel) rfl ?_
      obtain ⟨μ4, eμ4, h⟩ := hm_bs h
      refine tp_sdI (pc' := 41) (show decode cX9_refused 40 = .ok (.iastore, 1) by decide +kernel) rfl (la_a hL (by decide) rfl) eμ4 ?_
      replace hL := hL.same (hm_sd_s eμ4)
      refine tr_iload_n (pc' := 42) (show decode cX9_refused 41 = .ok (.iload_n 1, 1) by decide +kernel) rfl rfl rfl ?_
      cases h
      exact tr_iret rfl (show decode cX9_refused 42 = .ok (.ireturn, 1) by decide +kernel) hL
def f_X9_refused (v1 : Int32) (μ : hm_M) : Option (Int32 × hm_M) :=
  Option.bind (hm_pI μ 64 16 v1) fun μ2 =>
  (if v1 < (-3 : Int32) then
  f_X9_refused_J21 v1 ((-2 : Int32) - v1) μ2
  else
  f_X9_refused_J21 v1 ((-1 : Int32) - v1) μ2)
set_option maxRecDepth 100000 in
theorem ok_X9_refused {fr : Nat} (hfr : 0 ≤ fr) {ν : hm_N} {r : Int32} {μR : hm_M}  (v1 : Int32)  (μ : hm_M) (hL : hm_LL ν μ) (h : f_X9_refused v1 μ = some (r, μR)) : hm_CC (hm_LL ν) m_X9_refused fr 0 0 [.ref 64, .int v1] μ (some (.int r)) μR := by
  refine hm_enter (lv := [some (.ref 64), some (.int v1), none]) (by decide) rfl (Nat.le_of_ble_eq_true rfl) ?_
  unfold f_X9_refused at h
  refine tr_aload_n (pc' := 1) (show decode cX9_refused 0 = .ok (.aload_n 0, 1) by decide +kernel) rfl rfl rfl ?_
  refine tr_iload_n (pc' := 2) (show decode cX9_refused 1 = .ok (.iload_n 1, 1) by decide +kernel) rfl rfl rfl ?_
  obtain ⟨μ2, eμ2, h⟩ := hm_bs h
  refine tp_pI (pc' := 5) fl_HandRing_339 (show decode cX9_refused 2 = .ok (.putfield 339, 3) by decide +kernel) rfl (la_o hL (by decide) rfl) eμ2 ?_
  replace hL := hL.same (hm_pI_s eμ2)
  refine tr_iload_n (pc' := 6) (show decode cX9_refused 5 = .ok (.iload_n 1, 1) by decide +kernel) rfl rfl rfl ?_
  refine tr_bipush (pc' := 8) (v := (-3 : Int32)) (show decode cX9_refused 6 = .ok (.bipush (-3), 2) by decide +kernel) rfl (by decide) ?_
  rcases hm_is h with ⟨hc, h⟩ | ⟨hc, h⟩
  · refine tr_icmp_lt_t (tgt := 17) hc (show decode cX9_refused 8 = .ok (.if_icmp .lt 9, 3) by decide +kernel) (by decide) ?_
    refine tr_bipush (pc' := 19) (v := (-2 : Int32)) (show decode cX9_refused 17 = .ok (.bipush (-2), 2) by decide +kernel) rfl (by decide) ?_
    refine tr_iload_n (pc' := 20) (show decode cX9_refused 19 = .ok (.iload_n 1, 1) by decide +kernel) rfl rfl rfl ?_
    refine tr_isub (pc' := 21) (show decode cX9_refused 20 = .ok (.isub, 1) by decide +kernel) rfl ?_
    exact ok_X9_refused_J21 hfr _ ((-2 : Int32) - v1) μ2 hL h
  · refine tr_icmp_lt_f (tgt := 17) (pc' := 11) hc (show decode cX9_refused 8 = .ok (.if_icmp .lt 9, 3) by decide +kernel) (by decide) rfl ?_
    refine tr_iconst (pc' := 12) (v := (-1 : Int32)) (show decode cX9_refused 11 = .ok (.iconst (-1), 1) by decide +kernel) rfl (by decide) ?_
    refine tr_iload_n (pc' := 13) (show decode cX9_refused 12 = .ok (.iload_n 1, 1) by decide +kernel) rfl rfl rfl ?_
    refine tr_isub (pc' := 14) (show decode cX9_refused 13 = .ok (.isub, 1) by decide +kernel) rfl ?_
    refine tr_goto (tgt := 21) (show decode cX9_refused 14 = .ok (.goto 7, 3) by decide +kernel) rfl ?_
    exact ok_X9_refused_J21 hfr _ ((-1 : Int32) - v1) μ2 hL h
def f_X9_granted (v1 : Int32) (μ : hm_M) : Option (Int32 × hm_M) :=
  Option.bind (hm_pI μ 64 16 (0 : Int32)) fun μ2 =>
  some (v1, μ2)
set_option maxRecDepth 100000 in
theorem ok_X9_granted {fr : Nat} (hfr : 0 ≤ fr) {ν : hm_N} {r : Int32} {μR : hm_M}  (v1 : Int32)  (μ : hm_M) (hL : hm_LL ν μ) (h : f_X9_granted v1 μ = some (r, μR)) : hm_CC (hm_LL ν) m_X9_granted fr 0 0 [.ref 64, .int v1] μ (some (.int r)) μR := by
  refine hm_enter (lv := [some (.ref 64), some (.int v1)]) (by decide) rfl (Nat.le_of_ble_eq_true rfl) ?_
  unfold f_X9_granted at h
  refine tr_aload_n (pc' := 1) (show decode cX9_granted 0 = .ok (.aload_n 0, 1) by decide +kernel) rfl rfl rfl ?_
  refine tr_iconst (pc' := 2) (v := (0 : Int32)) (show decode cX9_granted 1 = .ok (.iconst 0, 1) by decide +kernel) rfl (by decide) ?_
  obtain ⟨μ2, eμ2, h⟩ := hm_bs h
  refine tp_pI (pc' := 5) fl_HandRing_339 (show decode cX9_granted 2 = .ok (.putfield 339, 3) by decide +kernel) rfl (la_o hL (by decide) rfl) eμ2 ?_
  replace hL := hL.same (hm_pI_s eμ2)
  refine tr_iload_n (pc' := 6) (show decode cX9_granted 5 = .ok (.iload_n 1, 1) by decide +kernel) rfl rfl rfl ?_
  cases h
  exact tr_iret rfl (show decode cX9_granted 6 = .ok (.ireturn, 1) by decide +kernel) hL
def f_X9_person (v1 : Int32) (v2 : Int32) (v3 : Int32) (μ : hm_M) : Option (Int32 × hm_M) :=
  Option.bind (f_X9_canBePerson v1 v2 v3) fun x2 =>
  (if x2 = 0 then
  hm_b2 (f_X9_refused (-1 : Int32) μ) fun x11 μ12 =>
  some (x11, μ12)
  else
  (if (μ.1 65 0) < (8 : Int32) then
  Option.bind (f_X7_clear 87 μ) fun μ4 =>
  hm_b2 (f_X8_addPerson 65 v1 v2 v3 μ4) fun x5 μ6 =>
  hm_b2 (f_X9_granted x5 μ6) fun x7 μ8 =>
  some (x7, μ8)
  else
  hm_b2 (f_X9_refused (-5 : Int32) μ) fun x9 μ10 =>
  some (x9, μ10)))
set_option maxRecDepth 100000 in
theorem ok_X9_person {fr : Nat} (hfr : 1 ≤ fr) {ν : hm_N} {r : Int32} {μR : hm_M}  (v1 : Int32) (v2 : Int32) (v3 : Int32)  (μ : hm_M) (hL : hm_LL ν μ) (h : f_X9_person v1 v2 v3 μ = some (r, μR)) : hm_CC (hm_LL ν) m_X9_person fr 0 0 [.ref 64, .int v1, .int v2, .int v3] μ (some (.int r)) μR := by
  refine hm_enter (lv := [some (.ref 64), some (.int v1), some (.int v2), some (.int v3)]) (by decide) rfl (Nat.le_of_ble_eq_true rfl) ?_
  unfold f_X9_person at h
  refine tr_iload_n (pc' := 1) (show decode cX9_person 0 = .ok (.iload_n 1, 1) by decide +kernel) rfl rfl rfl ?_
  refine tr_iload_n (pc' := 2) (show decode cX9_person 1 = .ok (.iload_n 2, 1) by decide +kernel) rfl rfl rfl ?_
  refine tr_iload_n (pc' := 3) (show decode cX9_person 2 = .ok (.iload_n 3, 1) by decide +kernel) rfl rfl rfl ?_
  obtain ⟨x2, ex2, h⟩ := hm_bs h
  have cx2 := ok_X9_canBePerson (fr := fr - 1) (ν := ν) (by omega) v1 v2 v3 μ hL ex2
  refine tp_callS (pc' := 6) (As := [.int v1, .int v2, .int v3]) (fr1 := fr - 1) okm_X9_canBePerson lk_HandRing_92 (show decode cX9_person 3 = .ok (.invokestatic 92, 3) by decide +kernel) rfl rfl rfl (Nat.le_of_ble_eq_true rfl) (by omega) cx2 (st' := [.int x2]) rfl ?_
  rcases hm_is h with ⟨hc, h⟩ | ⟨hc, h⟩
  · refine tr_if_ne_f (tgt := 15) (pc' := 9) hc (show decode cX9_person 6 = .ok (.ifCond .ne 9, 3) by decide +kernel) (by decide) rfl ?_
    refine tr_aload_n (pc' := 10) (show decode cX9_person 9 = .ok (.aload_n 0, 1) by decide +kernel) rfl rfl rfl ?_
    refine tr_iconst (pc' := 11) (v := (-1 : Int32)) (show decode cX9_person 10 = .ok (.iconst (-1), 1) by decide +kernel) rfl (by decide) ?_
    obtain ⟨x11, μ12, ex11, h⟩ := hm_b2s h
    have cx11 := ok_X9_refused (fr := fr - 1) (ν := ν) (by omega) (-1 : Int32) μ hL ex11
    refine tp_callV (pc' := 14) (As := [.int (-1 : Int32)]) (fr1 := fr - 1) (ci := 9) okm_X9_refused lk_HandRing_96 (show decode cX9_person 11 = .ok (.invokevirtual 96, 3) by decide +kernel) rfl rfl rfl (by decide) (la_o hL (by decide) rfl) rfl rfl (Nat.le_of_ble_eq_true rfl) (by omega) cx11 (st' := [.int x11]) rfl ?_
    replace hL := cx11.1
    cases h
    exact tr_iret rfl (show decode cX9_person 14 = .ok (.ireturn, 1) by decide +kernel) hL
  · refine tr_if_ne_t (tgt := 15) hc (show decode cX9_person 6 = .ok (.ifCond .ne 9, 3) by decide +kernel) (by decide) ?_
    refine tr_aload_n (pc' := 16) (show decode cX9_person 15 = .ok (.aload_n 0, 1) by decide +kernel) rfl rfl rfl ?_
    refine tr_getR (pc' := 19) fl_HandRing_12 (show decode cX9_person 16 = .ok (.getfield 12, 3) by decide +kernel) rfl (la_o hL (by decide) rfl) (la_r hL 0 rfl) ?_
    refine tr_getI (pc' := 22) fl_HandRing_100 (show decode cX9_person 19 = .ok (.getfield 100, 3) by decide +kernel) rfl (la_o hL (by decide) rfl) ?_
    refine tr_bipush (pc' := 24) (v := (8 : Int32)) (show decode cX9_person 22 = .ok (.bipush 8, 2) by decide +kernel) rfl (by decide) ?_
    rcases hm_is h with ⟨hc, h⟩ | ⟨hc, h⟩
    · refine tr_icmp_lt_t (tgt := 34) hc (show decode cX9_person 24 = .ok (.if_icmp .lt 10, 3) by decide +kernel) (by decide) ?_
      refine tr_aload_n (pc' := 35) (show decode cX9_person 34 = .ok (.aload_n 0, 1) by decide +kernel) rfl rfl rfl ?_
      refine tr_getR (pc' := 38) fl_HandRing_30 (show decode cX9_person 35 = .ok (.getfield 30, 3) by decide +kernel) rfl (la_o hL (by decide) rfl) (la_r hL 4 rfl) ?_
      obtain ⟨μ4, ex3, h⟩ := hm_bs h
      have cx3 := ok_X7_clear (fr := fr - 1) (ν := ν) (by omega) 87 (by unfold hm_S; decide) μ hL ex3
      refine tp_callV (pc' := 41) (As := []) (fr1 := fr - 1) (ci := 7) okm_X7_clear lk_HandRing_103 (show decode cX9_person 38 = .ok (.invokevirtual 103, 3) by decide +kernel) rfl rfl rfl (by decide) (la_o hL (by decide) rfl) rfl rfl (Nat.le_of_ble_eq_true rfl) (by omega) cx3 (st' := []) rfl ?_
      replace hL := cx3.1
      refine tr_aload_n (pc' := 42) (show decode cX9_person 41 = .ok (.aload_n 0, 1) by decide +kernel) rfl rfl rfl ?_
      refine tr_aload_n (pc' := 43) (show decode cX9_person 42 = .ok (.aload_n 0, 1) by decide +kernel) rfl rfl rfl ?_
      refine tr_getR (pc' := 46) fl_HandRing_12 (show decode cX9_person 43 = .ok (.getfield 12, 3) by decide +kernel) rfl (la_o hL (by decide) rfl) (la_r hL 0 rfl) ?_
      refine tr_iload_n (pc' := 47) (show decode cX9_person 46 = .ok (.iload_n 1, 1) by decide +kernel) rfl rfl rfl ?_
      refine tr_iload_n (pc' := 48) (show decode cX9_person 47 = .ok (.iload_n 2, 1) by decide +kernel) rfl rfl rfl ?_
      refine tr_iload_n (pc' := 49) (show decode cX9_person 48 = .ok (.iload_n 3, 1) by decide +kernel) rfl rfl rfl ?_
      obtain ⟨x5, μ6, ex5, h⟩ := hm_b2s h
      have cx5 := ok_X8_addPerson (fr := fr - 1) (ν := ν) (by omega) 65 v1 v2 v3 (by unfold hm_V; decide) μ4 hL ex5
      refine tp_callV (pc' := 52) (As := [.int v1, .int v2, .int v3]) (fr1 := fr - 1) (ci := 8) okm_X8_addPerson lk_HandRing_106 (show decode cX9_person 49 = .ok (.invokevirtual 106, 3) by decide +kernel) rfl rfl rfl (by decide) (la_o hL (by decide) rfl) rfl rfl (Nat.le_of_ble_eq_true rfl) (by omega) cx5 (st' := [.int x5, .ref 64]) rfl ?_
      replace hL := cx5.1
      obtain ⟨x7, μ8, ex7, h⟩ := hm_b2s h
      have cx7 := ok_X9_granted (fr := fr - 1) (ν := ν) (by omega) x5 μ6 hL ex7
      refine tp_callV (pc' := 55) (As := [.int x5]) (fr1 := fr - 1) (ci := 9) okm_X9_granted lk_HandRing_110 (show decode cX9_person 52 = .ok (.invokevirtual 110, 3) by decide +kernel) rfl rfl rfl (by decide) (la_o hL (by decide) rfl) rfl rfl (Nat.le_of_ble_eq_true rfl) (by omega) cx7 (st' := [.int x7]) rfl ?_
      replace hL := cx7.1
      cases h
      exact tr_iret rfl (show decode cX9_person 55 = .ok (.ireturn, 1) by decide +kernel) hL
    · refine tr_icmp_lt_f (tgt := 34) (pc' := 27) hc (show decode cX9_person 24 = .ok (.if_icmp .lt 10, 3) by decide +kernel) (by decide) rfl ?_
      refine tr_aload_n (pc' := 28) (show decode cX9_person 27 = .ok (.aload_n 0, 1) by decide +kernel) rfl rfl rfl ?_
      refine tr_bipush (pc' := 30) (v := (-5 : Int32)) (show decode cX9_person 28 = .ok (.bipush (-5), 2) by decide +kernel) rfl (by decide) ?_
      obtain ⟨x9, μ10, ex9, h⟩ := hm_b2s h
      have cx9 := ok_X9_refused (fr := fr - 1) (ν := ν) (by omega) (-5 : Int32) μ hL ex9
      refine tp_callV (pc' := 33) (As := [.int (-5 : Int32)]) (fr1 := fr - 1) (ci := 9) okm_X9_refused lk_HandRing_96 (show decode cX9_person 30 = .ok (.invokevirtual 96, 3) by decide +kernel) rfl rfl rfl (by decide) (la_o hL (by decide) rfl) rfl rfl (Nat.le_of_ble_eq_true rfl) (by omega) cx9 (st' := [.int x9]) rfl ?_
      replace hL := cx9.1
      cases h
      exact tr_iret rfl (show decode cX9_person 33 = .ok (.ireturn, 1) by decide +kernel) hL
def f_X9_of (v1 : Int32) (v2 : Int32) (μ : hm_M) : Option (Int32 × hm_M) :=
  Option.bind (f_X8_has 65 v1 μ) fun x2 =>
  (if x2 = 0 then
  some ((-1 : Int32), μ)
  else
  (if v2 < (0 : Int32) ∨ (5 : Int32) < v2 then
  some ((-1 : Int32), μ)
  else
  (if v2 = (0 : Int32) then
  Option.bind (hm_ld μ 66 8 v1) fun x12 =>
  some (x12, μ)
  else
  (if v2 = (1 : Int32) then
  Option.bind (hm_ld μ 67 8 v1) fun x11 =>
  some (x11, μ)
  else
  (if v2 = (2 : Int32) then
  Option.bind (hm_ld μ 68 8 v1) fun x10 =>
  some (x10, μ)
  else
  (if v2 = (3 : Int32) then
  Option.bind (hm_ld μ 69 8 v1) fun x9 =>
  some (x9, μ)
  else
  (if v2 = (4 : Int32) then
  Option.bind (f_X8_lawInForce 65 μ) fun x6 =>
  hm_b2 (f_X3_canBits 65 x6 v1 μ) fun x7 μ8 =>
  some (x7, μ8)
  else
  (if v2 = (5 : Int32) then
  Option.bind (f_X8_lawInForce 65 μ) fun x3 =>
  hm_b2 (f_X3_tiresBy 65 x3 v1 μ) fun x4 μ5 =>
  some (x4, μ5)
  else
  none))))))))
set_option maxRecDepth 100000 in
theorem ok_X9_of {fr : Nat} (hfr : 5 ≤ fr) {ν : hm_N} {r : Int32} {μR : hm_M}  (v1 : Int32) (v2 : Int32)  (μ : hm_M) (hL : hm_LL ν μ) (h : f_X9_of v1 v2 μ = some (r, μR)) : hm_CC (hm_LL ν) m_X9_of fr 0 0 [.ref 64, .int v1, .int v2] μ (some (.int r)) μR := by
  refine hm_enter (lv := [some (.ref 64), some (.int v1), some (.int v2)]) (by decide) rfl (Nat.le_of_ble_eq_true rfl) ?_
  unfold f_X9_of at h
  refine tr_aload_n (pc' := 1) (show decode cX9_of 0 = .ok (.aload_n 0, 1) by decide +kernel) rfl rfl rfl ?_
  refine tr_getR (pc' := 4) fl_HandRing_12 (show decode cX9_of 1 = .ok (.getfield 12, 3) by decide +kernel) rfl (la_o hL (by decide) rfl) (la_r hL 0 rfl) ?_
  refine tr_iload_n (pc' := 5) (show decode cX9_of 4 = .ok (.iload_n 1, 1) by decide +kernel) rfl rfl rfl ?_
  obtain ⟨x2, ex2, h⟩ := hm_bs h
  have cx2 := ok_X8_has (fr := fr - 1) (ν := ν) (by omega) 65 v1 (by unfold hm_V; decide) μ hL ex2
  refine tp_callV (pc' := 8) (As := [.int v1]) (fr1 := fr - 1) (ci := 8) okm_X8_has lk_HandRing_113 (show decode cX9_of 5 = .ok (.invokevirtual 113, 3) by decide +kernel) rfl rfl rfl (by decide) (la_o hL (by decide) rfl) rfl rfl (Nat.le_of_ble_eq_true rfl) (by omega) cx2 (st' := [.int x2]) rfl ?_
  rcases hm_is h with ⟨hc, h⟩ | ⟨hc, h⟩
  · refine tr_if_ne_f (tgt := 13) (pc' := 11) hc (show decode cX9_of 8 = .ok (.ifCond .ne 5, 3) by decide +kernel) (by decide) rfl ?_
    refine tr_iconst (pc' := 12) (v := (-1 : Int32)) (show decode cX9_of 11 = .ok (.iconst (-1), 1) by decide +kernel) rfl (by decide) ?_
    cases h
    exact tr_iret rfl (show decode cX9_of 12 = .ok (.ireturn, 1) by decide +kernel) hL
  · refine tr_if_ne_t (tgt := 13) hc (show decode cX9_of 8 = .ok (.ifCond .ne 5, 3) by decide +kernel) (by decide) ?_
    refine tr_iload_n (pc' := 14) (show decode cX9_of 13 = .ok (.iload_n 2, 1) by decide +kernel) rfl rfl rfl ?_
    rcases hm_is h with ⟨hc, h⟩ | ⟨-, h⟩
    · refine tp_tout (tgt := 132) hc (by decide) (by decide) (show decode cX9_of 14 = .ok (.tableswitch 118 0 5 #[38, 48, 58, 68, 78, 98], 38) by decide +kernel) (by decide) ?_
      refine tr_iconst (pc' := 133) (v := (-1 : Int32)) (show decode cX9_of 132 = .ok (.iconst (-1), 1) by decide +kernel) rfl (by decide) ?_
      cases h
      exact tr_iret rfl (show decode cX9_of 133 = .ok (.ireturn, 1) by decide +kernel) hL
    · rcases hm_is h with ⟨hc, h⟩ | ⟨-, h⟩
      · refine tp_tin (tgt := 52) (off := 38) hc (show decode cX9_of 14 = .ok (.tableswitch 118 0 5 #[38, 48, 58, 68, 78, 98], 38) by decide +kernel) (by decide) (by decide) (by decide) (by decide) ?_
        refine tr_aload_n (pc' := 53) (show decode cX9_of 52 = .ok (.aload_n 0, 1) by decide +kernel) rfl rfl rfl ?_
        refine tr_getR (pc' := 56) fl_HandRing_12 (show decode cX9_of 53 = .ok (.getfield 12, 3) by decide +kernel) rfl (la_o hL (by decide) rfl) (la_r hL 0 rfl) ?_
        refine tr_getR (pc' := 59) fl_HandRing_117 (show decode cX9_of 56 = .ok (.getfield 117, 3) by decide +kernel) rfl (la_o hL (by decide) rfl) (la_r hL 13 rfl) ?_
        refine tr_iload_n (pc' := 60) (show decode cX9_of 59 = .ok (.iload_n 1, 1) by decide +kernel) rfl rfl rfl ?_
        obtain ⟨x12, ex12, h⟩ := hm_bs h
        refine tp_ldI (pc' := 61) (show decode cX9_of 60 = .ok (.iaload, 1) by decide +kernel) rfl (la_a hL (by decide) rfl) ex12 ?_
        cases h
        exact tr_iret rfl (show decode cX9_of 61 = .ok (.ireturn, 1) by decide +kernel) hL
      · rcases hm_is h with ⟨hc, h⟩ | ⟨-, h⟩
        · refine tp_tin (tgt := 62) (off := 48) hc (show decode cX9_of 14 = .ok (.tableswitch 118 0 5 #[38, 48, 58, 68, 78, 98], 38) by decide +kernel) (by decide) (by decide) (by decide) (by decide) ?_
          refine tr_aload_n (pc' := 63) (show decode cX9_of 62 = .ok (.aload_n 0, 1) by decide +kernel) rfl rfl rfl ?_
          refine tr_getR (pc' := 66) fl_HandRing_12 (show decode cX9_of 63 = .ok (.getfield 12, 3) by decide +kernel) rfl (la_o hL (by decide) rfl) (la_r hL 0 rfl) ?_
          refine tr_getR (pc' := 69) fl_HandRing_120 (show decode cX9_of 66 = .ok (.getfield 120, 3) by decide +kernel) rfl (la_o hL (by decide) rfl) (la_r hL 14 rfl) ?_
          refine tr_iload_n (pc' := 70) (show decode cX9_of 69 = .ok (.iload_n 1, 1) by decide +kernel) rfl rfl rfl ?_
          obtain ⟨x11, ex11, h⟩ := hm_bs h
          refine tp_ldI (pc' := 71) (show decode cX9_of 70 = .ok (.iaload, 1) by decide +kernel) rfl (la_a hL (by decide) rfl) ex11 ?_
          cases h
          exact tr_iret rfl (show decode cX9_of 71 = .ok (.ireturn, 1) by decide +kernel) hL
        · rcases hm_is h with ⟨hc, h⟩ | ⟨-, h⟩
          · refine tp_tin (tgt := 72) (off := 58) hc (show decode cX9_of 14 = .ok (.tableswitch 118 0 5 #[38, 48, 58, 68, 78, 98], 38) by decide +kernel) (by decide) (by decide) (by decide) (by decide) ?_
            refine tr_aload_n (pc' := 73) (show decode cX9_of 72 = .ok (.aload_n 0, 1) by decide +kernel) rfl rfl rfl ?_
            refine tr_getR (pc' := 76) fl_HandRing_12 (show decode cX9_of 73 = .ok (.getfield 12, 3) by decide +kernel) rfl (la_o hL (by decide) rfl) (la_r hL 0 rfl) ?_
            refine tr_getR (pc' := 79) fl_HandRing_123 (show decode cX9_of 76 = .ok (.getfield 123, 3) by decide +kernel) rfl (la_o hL (by decide) rfl) (la_r hL 15 rfl) ?_
            refine tr_iload_n (pc' := 80) (show decode cX9_of 79 = .ok (.iload_n 1, 1) by decide +kernel) rfl rfl rfl ?_
            obtain ⟨x10, ex10, h⟩ := hm_bs h
            refine tp_ldI (pc' := 81) (show decode cX9_of 80 = .ok (.iaload, 1) by decide +kernel) rfl (la_a hL (by decide) rfl) ex10 ?_
            cases h
            exact tr_iret rfl (show decode cX9_of 81 = .ok (.ireturn, 1) by decide +kernel) hL
          · rcases hm_is h with ⟨hc, h⟩ | ⟨-, h⟩
            · refine tp_tin (tgt := 82) (off := 68) hc (show decode cX9_of 14 = .ok (.tableswitch 118 0 5 #[38, 48, 58, 68, 78, 98], 38) by decide +kernel) (by decide) (by decide) (by decide) (by decide) ?_
              refine tr_aload_n (pc' := 83) (show decode cX9_of 82 = .ok (.aload_n 0, 1) by decide +kernel) rfl rfl rfl ?_
              refine tr_getR (pc' := 86) fl_HandRing_12 (show decode cX9_of 83 = .ok (.getfield 12, 3) by decide +kernel) rfl (la_o hL (by decide) rfl) (la_r hL 0 rfl) ?_
              refine tr_getR (pc' := 89) fl_HandRing_126 (show decode cX9_of 86 = .ok (.getfield 126, 3) by decide +kernel) rfl (la_o hL (by decide) rfl) (la_r hL 16 rfl) ?_
              refine tr_iload_n (pc' := 90) (show decode cX9_of 89 = .ok (.iload_n 1, 1) by decide +kernel) rfl rfl rfl ?_
              obtain ⟨x9, ex9, h⟩ := hm_bs h
              refine tp_ldI (pc' := 91) (show decode cX9_of 90 = .ok (.iaload, 1) by decide +kernel) rfl (la_a hL (by decide) rfl) ex9 ?_
              cases h
              exact tr_iret rfl (show decode cX9_of 91 = .ok (.ireturn, 1) by decide +kernel) hL
            · rcases hm_is h with ⟨hc, h⟩ | ⟨-, h⟩
              · refine tp_tin (tgt := 92) (off := 78) hc (show decode cX9_of 14 = .ok (.tableswitch 118 0 5 #[38, 48, 58, 68, 78, 98], 38) by decide +kernel) (by decide) (by decide) (by decide) (by decide) ?_
                refine tr_aload_n (pc' := 93) (show decode cX9_of 92 = .ok (.aload_n 0, 1) by decide +kernel) rfl rfl rfl ?_
                refine tr_getR (pc' := 96) fl_HandRing_37 (show decode cX9_of 93 = .ok (.getfield 37, 3) by decide +kernel) rfl (la_o hL (by decide) rfl) (la_r hL 5 rfl) ?_
                refine tr_aload_n (pc' := 97) (show decode cX9_of 96 = .ok (.aload_n 0, 1) by decide +kernel) rfl rfl rfl ?_
                refine tr_getR (pc' := 100) fl_HandRing_12 (show decode cX9_of 97 = .ok (.getfield 12, 3) by decide +kernel) rfl (la_o hL (by decide) rfl) (la_r hL 0 rfl) ?_
                refine tr_aload_n (pc' := 101) (show decode cX9_of 100 = .ok (.aload_n 0, 1) by decide +kernel) rfl rfl rfl ?_
                refine tr_getR (pc' := 104) fl_HandRing_12 (show decode cX9_of 101 = .ok (.getfield 12, 3) by decide +kernel) rfl (la_o hL (by decide) rfl) (la_r hL 0 rfl) ?_
                obtain ⟨x6, ex6, h⟩ := hm_bs h
                have cx6 := ok_X8_lawInForce (fr := fr - 1) (ν := ν) (by omega) 65 (by unfold hm_V; decide) μ hL ex6
                refine tp_callV (pc' := 107) (As := []) (fr1 := fr - 1) (ci := 8) okm_X8_lawInForce lk_HandRing_129 (show decode cX9_of 104 = .ok (.invokevirtual 129, 3) by decide +kernel) rfl rfl rfl (by decide) (la_o hL (by decide) rfl) rfl rfl (Nat.le_of_ble_eq_true rfl) (by omega) cx6 (st' := [va_rf x6, .ref 65, .ref 106]) rfl ?_
                have hx6 := la_lif hL (by unfold hm_V; decide) ex6
                refine tr_iload_n (pc' := 108) (show decode cX9_of 107 = .ok (.iload_n 1, 1) by decide +kernel) rfl rfl rfl ?_
                obtain ⟨x7, μ8, ex7, h⟩ := hm_b2s h
                have cx7 := ok_X3_canBits (fr := fr - 1) (ν := ν) (by omega) 65 x6 v1 (by unfold hm_V; decide) hx6 μ hL ex7
                refine tp_callV (pc' := 111) (As := [.ref 65, va_rf x6, .int v1]) (fr1 := fr - 1) (ci := 3) okm_X3_canBits lk_HandRing_133 (show decode cX9_of 108 = .ok (.invokevirtual 133, 3) by decide +kernel) rfl rfl rfl (by decide) (la_o hL (by decide) rfl) rfl rfl (Nat.le_of_ble_eq_true rfl) (by omega) cx7 (st' := [.int x7]) rfl ?_
                replace hL := cx7.1
                cases h
                exact tr_iret rfl (show decode cX9_of 111 = .ok (.ireturn, 1) by decide +kernel) hL
              · rcases hm_is h with ⟨hc, h⟩ | ⟨-, h⟩
                · refine tp_tin (tgt := 112) (off := 98) hc (show decode cX9_of 14 = .ok (.tableswitch 118 0 5 #[38, 48, 58, 68, 78, 98], 38) by decide +kernel) (by decide) (by decide) (by decide) (by decide) ?_
                  refine tr_aload_n (pc' := 113) (show decode cX9_of 112 = .ok (.aload_n 0, 1) by decide +kernel) rfl rfl rfl ?_
                  refine tr_getR (pc' := 116) fl_HandRing_37 (show decode cX9_of 113 = .ok (.getfield 37, 3) by decide +kernel) rfl (la_o hL (by decide) rfl) (la_r hL 5 rfl) ?_
                  refine tr_aload_n (pc' := 117) (show decode cX9_of 116 = .ok (.aload_n 0, 1) by decide +kernel) rfl rfl rfl ?_
                  refine tr_getR (pc' := 120) fl_HandRing_12 (show decode cX9_of 117 = .ok (.getfield 12, 3) by decide +kernel) rfl (la_o hL (by decide) rfl) (la_r hL 0 rfl) ?_
                  refine tr_aload_n (pc' := 121) (show decode cX9_of 120 = .ok (.aload_n 0, 1) by decide +kernel) rfl rfl rfl ?_
                  refine tr_getR (pc' := 124) fl_HandRing_12 (show decode cX9_of 121 = .ok (.getfield 12, 3) by decide +kernel) rfl (la_o hL (by decide) rfl) (la_r hL 0 rfl) ?_
                  obtain ⟨x3, ex3, h⟩ := hm_bs h
                  have cx3 := ok_X8_lawInForce (fr := fr - 1) (ν := ν) (by omega) 65 (by unfold hm_V; decide) μ hL ex3
                  refine tp_callV (pc' := 127) (As := []) (fr1 := fr - 1) (ci := 8) okm_X8_lawInForce lk_HandRing_129 (show decode cX9_of 124 = .ok (.invokevirtual 129, 3) by decide +kernel) rfl rfl rfl (by decide) (la_o hL (by decide) rfl) rfl rfl (Nat.le_of_ble_eq_true rfl) (by omega) cx3 (st' := [va_rf x3, .ref 65, .ref 106]) rfl ?_
                  have hx3 := la_lif hL (by unfold hm_V; decide) ex3
                  refine tr_iload_n (pc' := 128) (show decode cX9_of 127 = .ok (.iload_n 1, 1) by decide +kernel) rfl rfl rfl ?_
                  obtain ⟨x4, μ5, ex4, h⟩ := hm_b2s h
                  have cx4 := ok_X3_tiresBy (fr := fr - 1) (ν := ν) (by omega) 65 x3 v1 (by unfold hm_V; decide) hx3 μ hL ex4
                  refine tp_callV (pc' := 131) (As := [.ref 65, va_rf x3, .int v1]) (fr1 := fr - 1) (ci := 3) okm_X3_tiresBy lk_HandRing_137 (show decode cX9_of 128 = .ok (.invokevirtual 137, 3) by decide +kernel) rfl rfl rfl (by decide) (la_o hL (by decide) rfl) rfl rfl (Nat.le_of_ble_eq_true rfl) (by omega) cx4 (st' := [.int x4]) rfl ?_
                  replace hL := cx4.1
                  cases h
                  exact tr_iret rfl (show decode cX9_of 131 = .ok (.ireturn, 1) by decide +kernel) hL
                · cases h
def f_X9_asks (v1 : Int32) (v2 : Int32) (v3 : Int32) (μ : hm_M) : Option (Int32 × hm_M) :=
  Option.bind (f_X8_has 65 v1 μ) fun x2 =>
  (if x2 = 0 then
  some ((-1 : Int32), μ)
  else
  Option.bind (f_X8_has 65 v2 μ) fun x3 =>
  (if x3 = 0 then
  some ((-1 : Int32), μ)
  else
  (if v1 = v2 then
  some ((-1 : Int32), μ)
  else
  (if v3 < (0 : Int32) ∨ (2 : Int32) < v3 then
  some ((-1 : Int32), μ)
  else
  (if v3 = (0 : Int32) then
  Option.bind (f_X8_farBetween 65 v1 v2 μ) fun x10 =>
  some (x10, μ)
  else
  (if v3 = (1 : Int32) then
  Option.bind (f_X8_lawInForce 65 μ) fun x7 =>
  hm_b2 (f_X3_lostBetween 65 x7 v1 v2 μ) fun x8 μ9 =>
  some (x8, μ9)
  else
  (if v3 = (2 : Int32) then
  Option.bind (f_X8_lawInForce 65 μ) fun x4 =>
  hm_b2 (f_X3_isBarred 65 x4 v1 v2 μ) fun x5 μ6 =>
  (if x5 = 0 then
  some ((0 : Int32), μ6)
  else
  some ((1 : Int32), μ6))
  else
  none)))))))
set_option maxRecDepth 100000 in
theorem ok_X9_asks {fr : Nat} (hfr : 4 ≤ fr) {ν : hm_N} {r : Int32} {μR : hm_M}  (v1 : Int32) (v2 : Int32) (v3 : Int32)  (μ : hm_M) (hL : hm_LL ν μ) (h : f_X9_asks v1 v2 v3 μ = some (r, μR)) : hm_CC (hm_LL ν) m_X9_asks fr 0 0 [.ref 64, .int v1, .int v2, .int v3] μ (some (.int r)) μR := by
  refine hm_enter (lv := [some (.ref 64), some (.int v1), some (.int v2), some (.int v3)]) (by decide) rfl (Nat.le_of_ble_eq_true rfl) ?_
  unfold f_X9_asks at h
  refine tr_aload_n (pc' := 1) (show decode cX9_asks 0 = .ok (.aload_n 0, 1) by decide +kernel) rfl rfl rfl ?_
  refine tr_getR (pc' := 4) fl_HandRing_12 (show decode cX9_asks 1 = .ok (.getfield 12, 3) by decide +kernel) rfl (la_o hL (by decide) rfl) (la_r hL 0 rfl) ?_
  refine tr_iload_n (pc' := 5) (show decode cX9_asks 4 = .ok (.iload_n 1, 1) by decide +kernel) rfl rfl rfl ?_
  obtain ⟨x2, ex2, h⟩ := hm_bs h
  have cx2 := ok_X8_has (fr := fr - 1) (ν := ν) (by omega) 65 v1 (by unfold hm_V; decide) μ hL ex2
  refine tp_callV (pc' := 8) (As := [.int v1]) (fr1 := fr - 1) (ci := 8) okm_X8_has lk_HandRing_113 (show decode cX9_asks 5 = .ok (.invokevirtual 113, 3) by decide +kernel) rfl rfl rfl (by decide) (la_o hL (by decide) rfl) rfl rfl (Nat.le_of_ble_eq_true rfl) (by omega) cx2 (st' := [.int x2]) rfl ?_
  rcases hm_is h with ⟨hc, h⟩ | ⟨hc, h⟩
  · refine tr_if_eq_t (tgt := 27) hc (show decode cX9_asks 8 = .ok (.ifCond .eq 19, 3) by decide +kernel) (by decide) ?_
    refine tr_iconst (pc' := 28) (v := (-1 : Int32)) (show decode cX9_asks 27 = .ok (.iconst (-1), 1) by decide +kernel) rfl (by decide) ?_
    cases h
    exact tr_iret rfl (show decode cX9_asks 28 = .ok (.ireturn, 1) by decide +kernel) hL
  · refine tr_if_eq_f (tgt := 27) (pc' := 11) hc (show decode cX9_asks 8 = .ok (.ifCond .eq 19, 3) by decide +kernel) (by decide) rfl ?_
    refine tr_aload_n (pc' := 12) (show decode cX9_asks 11 = .ok (.aload_n 0, 1) by decide +kernel) rfl rfl rfl ?_
    refine tr_getR (pc' := 15) fl_HandRing_12 (show decode cX9_asks 12 = .ok (.getfield 12, 3) by decide +kernel) rfl (la_o hL (by decide) rfl) (la_r hL 0 rfl) ?_
    refine tr_iload_n (pc' := 16) (show decode cX9_asks 15 = .ok (.iload_n 2, 1) by decide +kernel) rfl rfl rfl ?_
    obtain ⟨x3, ex3, h⟩ := hm_bs h
    have cx3 := ok_X8_has (fr := fr - 1) (ν := ν) (by omega) 65 v2 (by unfold hm_V; decide) μ hL ex3
    refine tp_callV (pc' := 19) (As := [.int v2]) (fr1 := fr - 1) (ci := 8) okm_X8_has lk_HandRing_113 (show decode cX9_asks 16 = .ok (.invokevirtual 113, 3) by decide +kernel) rfl rfl rfl (by decide) (la_o hL (by decide) rfl) rfl rfl (Nat.le_of_ble_eq_true rfl) (by omega) cx3 (st' := [.int x3]) rfl ?_
    rcases hm_is h with ⟨hc, h⟩ | ⟨hc, h⟩
    · refine tr_if_eq_t (tgt := 27) hc (show decode cX9_asks 19 = .ok (.ifCond .eq 8, 3) by decide +kernel) (by decide) ?_
      refine tr_iconst (pc' := 28) (v := (-1 : Int32)) (show decode cX9_asks 27 = .ok (.iconst (-1), 1) by decide +kernel) rfl (by decide) ?_
      cases h
      exact tr_iret rfl (show decode cX9_asks 28 = .ok (.ireturn, 1) by decide +kernel) hL
    · refine tr_if_eq_f (tgt := 27) (pc' := 22) hc (show decode cX9_asks 19 = .ok (.ifCond .eq 8, 3) by decide +kernel) (by decide) rfl ?_
      refine tr_iload_n (pc' := 23) (show decode cX9_asks 22 = .ok (.iload_n 1, 1) by decide +kernel) rfl rfl rfl ?_
      refine tr_iload_n (pc' := 24) (show decode cX9_asks 23 = .ok (.iload_n 2, 1) by decide +kernel) rfl rfl rfl ?_
      rcases hm_is h with ⟨hc, h⟩ | ⟨hc, h⟩
      · refine tr_icmp_ne_f (tgt := 29) (pc' := 27) hc (show decode cX9_asks 24 = .ok (.if_icmp .ne 5, 3) by decide +kernel) (by decide) rfl ?_
        refine tr_iconst (pc' := 28) (v := (-1 : Int32)) (show decode cX9_asks 27 = .ok (.iconst (-1), 1) by decide +kernel) rfl (by decide) ?_
        cases h
        exact tr_iret rfl (show decode cX9_asks 28 = .ok (.ireturn, 1) by decide +kernel) hL
      · refine tr_icmp_ne_t (tgt := 29) hc (show decode cX9_asks 24 = .ok (.if_icmp .ne 5, 3) by decide +kernel) (by decide) ?_
        refine tr_iload_n (pc' := 30) (show decode cX9_asks 29 = .ok (.iload_n 3, 1) by decide +kernel) rfl rfl rfl ?_
        rcases hm_is h with ⟨hc, h⟩ | ⟨-, h⟩
        · refine tp_tout (tgt := 116) hc (by decide) (by decide) (show decode cX9_asks 30 = .ok (.tableswitch 86 0 2 #[26, 36, 57], 26) by decide +kernel) (by decide) ?_
          refine tr_iconst (pc' := 117) (v := (-1 : Int32)) (show decode cX9_asks 116 = .ok (.iconst (-1), 1) by decide +kernel) rfl (by decide) ?_
          cases h
          exact tr_iret rfl (show decode cX9_asks 117 = .ok (.ireturn, 1) by decide +kernel) hL
        · rcases hm_is h with ⟨hc, h⟩ | ⟨-, h⟩
          · refine tp_tin (tgt := 56) (off := 26) hc (show decode cX9_asks 30 = .ok (.tableswitch 86 0 2 #[26, 36, 57], 26) by decide +kernel) (by decide) (by decide) (by decide) (by decide) ?_
            refine tr_aload_n (pc' := 57) (show decode cX9_asks 56 = .ok (.aload_n 0, 1) by decide +kernel) rfl rfl rfl ?_
            refine tr_getR (pc' := 60) fl_HandRing_12 (show decode cX9_asks 57 = .ok (.getfield 12, 3) by decide +kernel) rfl (la_o hL (by decide) rfl) (la_r hL 0 rfl) ?_
            refine tr_iload_n (pc' := 61) (show decode cX9_asks 60 = .ok (.iload_n 1, 1) by decide +kernel) rfl rfl rfl ?_
            refine tr_iload_n (pc' := 62) (show decode cX9_asks 61 = .ok (.iload_n 2, 1) by decide +kernel) rfl rfl rfl ?_
            obtain ⟨x10, ex10, h⟩ := hm_bs h
            have cx10 := ok_X8_farBetween (fr := fr - 1) (ν := ν) (by omega) 65 v1 v2 (by unfold hm_V; decide) μ hL ex10
            refine tp_callV (pc' := 65) (As := [.int v1, .int v2]) (fr1 := fr - 1) (ci := 8) okm_X8_farBetween lk_HandRing_140 (show decode cX9_asks 62 = .ok (.invokevirtual 140, 3) by decide +kernel) rfl rfl rfl (by decide) (la_o hL (by decide) rfl) rfl rfl (Nat.le_of_ble_eq_true rfl) (by omega) cx10 (st' := [.int x10]) rfl ?_
            cases h
            exact tr_iret rfl (show decode cX9_asks 65 = .ok (.ireturn, 1) by decide +kernel) hL
          · rcases hm_is h with ⟨hc, h⟩ | ⟨-, h⟩
            · refine tp_tin (tgt := 66) (off := 36) hc (show decode cX9_asks 30 = .ok (.tableswitch 86 0 2 #[26, 36, 57], 26) by decide +kernel) (by decide) (by decide) (by decide) (by decide) ?_
              refine tr_aload_n (pc' := 67) (show decode cX9_asks 66 = .ok (.aload_n 0, 1) by decide +kernel) rfl rfl rfl ?_
              refine tr_getR (pc' := 70) fl_HandRing_37 (show decode cX9_asks 67 = .ok (.getfield 37, 3) by decide +kernel) rfl (la_o hL (by decide) rfl) (la_r hL 5 rfl) ?_
              refine tr_aload_n (pc' := 71) (show decode cX9_asks 70 = .ok (.aload_n 0, 1) by decide +kernel) rfl rfl rfl ?_
              refine tr_getR (pc' := 74) fl_HandRing_12 (show decode cX9_asks 71 = .ok (.getfield 12, 3) by decide +kernel) rfl (la_o hL (by decide) rfl) (la_r hL 0 rfl) ?_
              refine tr_aload_n (pc' := 75) (show decode cX9_asks 74 = .ok (.aload_n 0, 1) by decide +kernel) rfl rfl rfl ?_
              refine tr_getR (pc' := 78) fl_HandRing_12 (show decode cX9_asks 75 = .ok (.getfield 12, 3) by decide +kernel) rfl (la_o hL (by decide) rfl) (la_r hL 0 rfl) ?_
              obtain ⟨x7, ex7, h⟩ := hm_bs h
              have cx7 := ok_X8_lawInForce (fr := fr - 1) (ν := ν) (by omega) 65 (by unfold hm_V; decide) μ hL ex7
              refine tp_callV (pc' := 81) (As := []) (fr1 := fr - 1) (ci := 8) okm_X8_lawInForce lk_HandRing_129 (show decode cX9_asks 78 = .ok (.invokevirtual 129, 3) by decide +kernel) rfl rfl rfl (by decide) (la_o hL (by decide) rfl) rfl rfl (Nat.le_of_ble_eq_true rfl) (by omega) cx7 (st' := [va_rf x7, .ref 65, .ref 106]) rfl ?_
              have hx7 := la_lif hL (by unfold hm_V; decide) ex7
              refine tr_iload_n (pc' := 82) (show decode cX9_asks 81 = .ok (.iload_n 1, 1) by decide +kernel) rfl rfl rfl ?_
              refine tr_iload_n (pc' := 83) (show decode cX9_asks 82 = .ok (.iload_n 2, 1) by decide +kernel) rfl rfl rfl ?_
              obtain ⟨x8, μ9, ex8, h⟩ := hm_b2s h
              have cx8 := ok_X3_lostBetween (fr := fr - 1) (ν := ν) (by omega) 65 x7 v1 v2 (by unfold hm_V; decide) hx7 μ hL ex8
              refine tp_callV (pc' := 86) (As := [.ref 65, va_rf x7, .int v1, .int v2]) (fr1 := fr - 1) (ci := 3) okm_X3_lostBetween lk_HandRing_144 (show decode cX9_asks 83 = .ok (.invokevirtual 144, 3) by decide +kernel) rfl rfl rfl (by decide) (la_o hL (by decide) rfl) rfl rfl (Nat.le_of_ble_eq_true rfl) (by omega) cx8 (st' := [.int x8]) rfl ?_
              replace hL := cx8.1
              cases h
              exact tr_iret rfl (show decode cX9_asks 86 = .ok (.ireturn, 1) by decide +kernel) hL
            · rcases hm_is h with ⟨hc, h⟩ | ⟨-, h⟩
              · refine tp_tin (tgt := 87) (off := 57) hc (show decode cX9_asks 30 = .ok (.tableswitch 86 0 2 #[26, 36, 57], 26) by decide +kernel) (by decide) (by decide) (by decide) (by decide) ?_
                refine tr_aload_n (pc' := 88) (show decode cX9_asks 87 = .ok (.aload_n 0, 1) by decide +kernel) rfl rfl rfl ?_
                refine tr_getR (pc' := 91) fl_HandRing_37 (show decode cX9_asks 88 = .ok (.getfield 37, 3) by decide +kernel) rfl (la_o hL (by decide) rfl) (la_r hL 5 rfl) ?_
                refine tr_aload_n (pc' := 92) (show decode cX9_asks 91 = .ok (.aload_n 0, 1) by decide +kernel) rfl rfl rfl ?_
                refine tr_getR (pc' := 95) fl_HandRing_12 (show decode cX9_asks 92 = .ok (.getfield 12, 3) by decide +kernel) rfl (la_o hL (by decide) rfl) (la_r hL 0 rfl) ?_
                refine tr_aload_n (pc' := 96) (show decode cX9_asks 95 = .ok (.aload_n 0, 1) by decide +kernel) rfl rfl rfl ?_
                refine tr_getR (pc' := 99) fl_HandRing_12 (show decode cX9_asks 96 = .ok (.getfield 12, 3) by decide +kernel) rfl (la_o hL (by decide) rfl) (la_r hL 0 rfl) ?_
                obtain ⟨x4, ex4, h⟩ := hm_bs h
                have cx4 := ok_X8_lawInForce (fr := fr - 1) (ν := ν) (by omega) 65 (by unfold hm_V; decide) μ hL ex4
                refine tp_callV (pc' := 102) (As := []) (fr1 := fr - 1) (ci := 8) okm_X8_lawInForce lk_HandRing_129 (show decode cX9_asks 99 = .ok (.invokevirtual 129, 3) by decide +kernel) rfl rfl rfl (by decide) (la_o hL (by decide) rfl) rfl rfl (Nat.le_of_ble_eq_true rfl) (by omega) cx4 (st' := [va_rf x4, .ref 65, .ref 106]) rfl ?_
                have hx4 := la_lif hL (by unfold hm_V; decide) ex4
                refine tr_iload_n (pc' := 103) (show decode cX9_asks 102 = .ok (.iload_n 1, 1) by decide +kernel) rfl rfl rfl ?_
                refine tr_iload_n (pc' := 104) (show decode cX9_asks 103 = .ok (.iload_n 2, 1) by decide +kernel) rfl rfl rfl ?_
                obtain ⟨x5, μ6, ex5, h⟩ := hm_b2s h
                have cx5 := ok_X3_isBarred (fr := fr - 1) (ν := ν) (by omega) 65 x4 v1 v2 (by unfold hm_V; decide) hx4 μ hL ex5
                refine tp_callV (pc' := 107) (As := [.ref 65, va_rf x4, .int v1, .int v2]) (fr1 := fr - 1) (ci := 3) okm_X3_isBarred lk_HandRing_148 (show decode cX9_asks 104 = .ok (.invokevirtual 148, 3) by decide +kernel) rfl rfl rfl (by decide) (la_o hL (by decide) rfl) rfl rfl (Nat.le_of_ble_eq_true rfl) (by omega) cx5 (st' := [.int x5]) rfl ?_
                replace hL := cx5.1
                rcases hm_is h with ⟨hc, h⟩ | ⟨hc, h⟩
                · refine tr_if_eq_t (tgt := 114) hc (show decode cX9_asks 107 = .ok (.ifCond .eq 7, 3) by decide +kernel) (by decide) ?_
                  refine tr_iconst (pc' := 115) (v := (0 : Int32)) (show decode cX9_asks 114 = .ok (.iconst 0, 1) by decide +kernel) rfl (by decide) ?_
                  cases h
                  exact tr_iret rfl (show decode cX9_asks 115 = .ok (.ireturn, 1) by decide +kernel) hL
                · refine tr_if_eq_f (tgt := 114) (pc' := 110) hc (show decode cX9_asks 107 = .ok (.ifCond .eq 7, 3) by decide +kernel) (by decide) rfl ?_
                  refine tr_iconst (pc' := 111) (v := (1 : Int32)) (show decode cX9_asks 110 = .ok (.iconst 1, 1) by decide +kernel) rfl (by decide) ?_
                  refine tr_goto (tgt := 115) (show decode cX9_asks 111 = .ok (.goto 4, 3) by decide +kernel) rfl ?_
                  cases h
                  exact tr_iret rfl (show decode cX9_asks 115 = .ok (.ireturn, 1) by decide +kernel) hL
              · cases h
def f_X9_terms_J22 (v1 : Int32) (v2 : Int32) (μ1 : hm_M) : Option (Int32 × hm_M) :=
  hm_b2 (f_X9_refused (-1 : Int32) μ1) fun x2 μ3 =>
  some (x2, μ3)
theorem ok_X9_terms_J22 {fr : Nat} (hfr : 1 ≤ fr) {ν : hm_N} {r : Int32} {μR : hm_M}  (v1 : Int32) (v2 : Int32)     (μ1 : hm_M) (hL : hm_LL ν μ1) (h : f_X9_terms_J22 v1 v2 μ1 = some (r, μR)) : hm_T (hm_LL ν) m_X9_terms fr 0 0 (some (.int r)) μR 22 [some (.ref 64), none, none, none] [] μ1 := by
  unfold f_X9_terms_J22 at h
  refine tr_aload_n (pc' := 23) (show decode cX9_terms 22 = .ok (.aload_n 0, 1) by decide +kernel) rfl rfl rfl ?_
  refine tr_iconst (pc' := 24) (v := (-1 : Int32)) (show decode cX9_terms 23 = .ok (.iconst (-1), 1) by decide +kernel) rfl (by decide) ?_
  obtain ⟨x2, μ3, ex2, h⟩ := hm_b2s h
  have cx2 := ok_X9_refused (fr := fr - 1) (ν := ν) (by omega) (-1 : Int32) μ1 hL ex2
  refine tp_callV (pc' := 27) (As := [.int (-1 : Int32)]) (fr1 := fr - 1) (ci := 9) okm_X9_refused lk_HandRing_96 (show decode cX9_terms 24 = .ok (.invokevirtual 96, 3) by decide +kernel) rfl rfl rfl (by decide) (la_o hL (by decide) rfl) rfl rfl (Nat.le_of_ble_eq_true rfl) (by omega) cx2 (st' := [.int x2]) rfl ?_
  replace hL := cx2.1
  cases h
  exact tr_iret rfl (show decode cX9_terms 27 = .ok (.ireturn, 1) by decide +kernel) hL
def f_X9_terms (v1 : Int32) (v2 : Int32) (μ : hm_M) : Option (Int32 × hm_M) :=
  (if v1 < 0 then
  f_X9_terms_J22 v1 v2 μ
  else
  (if (4 : Int32) ≤ v1 then
  f_X9_terms_J22 v1 v2 μ
  else
  (if v2 < 0 then
  f_X9_terms_J22 v1 v2 μ
  else
  Option.bind (hm_ldX 1 v1) fun x4 =>
  (if v2 ≤ x4 then
  Option.bind (hm_ld μ 70 4 v1) fun x5 =>
  Option.bind (hm_sd μ 70 4 v1 v2) fun μ6 =>
  Option.bind (f_X7_clear 87 μ6) fun μ8 =>
  hm_b2 (f_X9_granted x5 μ8) fun x9 μ10 =>
  some (x9, μ10)
  else
  f_X9_terms_J22 v1 v2 μ))))
set_option maxRecDepth 100000 in
theorem ok_X9_terms {fr : Nat} (hfr : 1 ≤ fr) {ν : hm_N} {r : Int32} {μR : hm_M}  (v1 : Int32) (v2 : Int32)  (μ : hm_M) (hL : hm_LL ν μ) (h : f_X9_terms v1 v2 μ = some (r, μR)) : hm_CC (hm_LL ν) m_X9_terms fr 0 0 [.ref 64, .int v1, .int v2] μ (some (.int r)) μR := by
  refine hm_enter (lv := [some (.ref 64), some (.int v1), some (.int v2), none]) (by decide) rfl (Nat.le_of_ble_eq_true rfl) ?_
  unfold f_X9_terms at h
  refine tr_iload_n (pc' := 1) (show decode cX9_terms 0 = .ok (.iload_n 1, 1) by decide +kernel) rfl rfl rfl ?_
  rcases hm_is h with ⟨hc, h⟩ | ⟨hc, h⟩
  · refine tr_if_lt_t (tgt := 22) hc (show decode cX9_terms 1 = .ok (.ifCond .lt 21, 3) by decide +kernel) (by decide) ?_
    refine hm_fgt [true, false, false, false] (lv' := [some (.ref 64), none, none, none]) rfl ?_
    exact ok_X9_terms_J22 hfr _ _ μ hL h
  · refine tr_if_lt_f (tgt := 22) (pc' := 4) hc (show decode cX9_terms 1 = .ok (.ifCond .lt 21, 3) by decide +kernel) (by decide) rfl ?_
    refine tr_iload_n (pc' := 5) (show decode cX9_terms 4 = .ok (.iload_n 1, 1) by decide +kernel) rfl rfl rfl ?_
    refine tr_iconst (pc' := 6) (v := (4 : Int32)) (show decode cX9_terms 5 = .ok (.iconst 4, 1) by decide +kernel) rfl (by decide) ?_
    rcases hm_is h with ⟨hc, h⟩ | ⟨hc, h⟩
    · refine tr_icmp_ge_t (tgt := 22) hc (show decode cX9_terms 6 = .ok (.if_icmp .ge 16, 3) by decide +kernel) (by decide) ?_
      refine hm_fgt [true, false, false, false] (lv' := [some (.ref 64), none, none, none]) rfl ?_
      exact ok_X9_terms_J22 hfr _ _ μ hL h
    · refine tr_icmp_ge_f (tgt := 22) (pc' := 9) hc (show decode cX9_terms 6 = .ok (.if_icmp .ge 16, 3) by decide +kernel) (by decide) rfl ?_
      refine tr_iload_n (pc' := 10) (show decode cX9_terms 9 = .ok (.iload_n 2, 1) by decide +kernel) rfl rfl rfl ?_
      rcases hm_is h with ⟨hc, h⟩ | ⟨hc, h⟩
      · refine tr_if_lt_t (tgt := 22) hc (show decode cX9_terms 10 = .ok (.ifCond .lt 12, 3) by decide +kernel) (by decide) ?_
        refine hm_fgt [true, false, false, false] (lv' := [some (.ref 64), none, none, none]) rfl ?_
        exact ok_X9_terms_J22 hfr _ _ μ hL h
      · refine tr_if_lt_f (tgt := 22) (pc' := 13) hc (show decode cX9_terms 10 = .ok (.ifCond .lt 12, 3) by decide +kernel) (by decide) rfl ?_
        refine tr_iload_n (pc' := 14) (show decode cX9_terms 13 = .ok (.iload_n 2, 1) by decide +kernel) rfl rfl rfl ?_
        refine tr_gets (pc' := 17) (i := 1) rfl (by decide) fs_HandRing_152 (show decode cX9_terms 14 = .ok (.getstatic 152, 3) by decide +kernel) rfl ?_
        refine tr_iload_n (pc' := 18) (show decode cX9_terms 17 = .ok (.iload_n 1, 1) by decide +kernel) rfl rfl rfl ?_
        obtain ⟨x4, ex4, h⟩ := hm_bs h
        refine tr_ldX (pc' := 19) (i0 := 1) (by decide) (show decode cX9_terms 18 = .ok (.iaload, 1) by decide +kernel) rfl ex4 ?_
        rcases hm_is h with ⟨hc, h⟩ | ⟨hc, h⟩
        · refine tr_icmp_le_t (tgt := 28) hc (show decode cX9_terms 19 = .ok (.if_icmp .le 9, 3) by decide +kernel) (by decide) ?_
          refine tr_aload_n (pc' := 29) (show decode cX9_terms 28 = .ok (.aload_n 0, 1) by decide +kernel) rfl rfl rfl ?_
          refine tr_getR (pc' := 32) fl_HandRing_12 (show decode cX9_terms 29 = .ok (.getfield 12, 3) by decide +kernel) rfl (la_o hL (by decide) rfl) (la_r hL 0 rfl) ?_
          refine tr_getR (pc' := 35) fl_HandRing_155 (show decode cX9_terms 32 = .ok (.getfield 155, 3) by decide +kernel) rfl (la_o hL (by decide) rfl) (la_r hL 17 rfl) ?_
          refine tr_iload_n (pc' := 36) (show decode cX9_terms 35 = .ok (.iload_n 1, 1) by decide +kernel) rfl rfl rfl ?_
          obtain ⟨x5, ex5, h⟩ := hm_bs h
          refine tp_ldI (pc' := 37) (show decode cX9_terms 36 = .ok (.iaload, 1) by decide +kernel) rfl (la_a hL (by decide) rfl) ex5 ?_
          refine tr_istore_n (pc' := 38) (lv' := [some (.ref 64), some (.int v1), some (.int v2), some (.int x5)]) (show decode cX9_terms 37 = .ok (.istore_n 3, 1) by decide +kernel) rfl rfl (Nat.le_of_ble_eq_true rfl) rfl rfl ?_
          refine tr_aload_n (pc' := 39) (show decode cX9_terms 38 = .ok (.aload_n 0, 1) by decide +kernel) rfl rfl rfl ?_
          refine tr_getR (pc' := 42) fl_HandRing_12 (show decode cX9_terms 39 = .ok (.getfield 12, 3) by decide +kernel) rfl (la_o hL (by decide) rfl) (la_r hL 0 rfl) ?_
          refine tr_getR (pc' := 45) fl_HandRing_155 (show decode cX9_terms 42 = .ok (.getfield 155, 3) by decide +kernel) rfl (la_o hL (by decide) rfl) (la_r hL 17 rfl) ?_
          refine tr_iload_n (pc' := 46) (show decode cX9_terms 45 = .ok (.iload_n 1, 1) by decide +kernel) rfl rfl rfl ?_
          refine tr_iload_n (pc' := 47) (show decode cX9_terms 46 = .ok (.iload_n 2, 1) by decide +kernel) rfl rfl rfl ?_
          obtain ⟨μ6, eμ6, h⟩ := hm_bs h
          refine tp_sdI (pc' := 48) (show decode cX9_terms 47 = .ok (.iastore, 1) by decide +kernel) rfl (la_a hL (by decide) rfl) eμ6 ?_
          replace hL := hL.same (hm_sd_s eμ6)
          refine tr_aload_n (pc' := 49) (show decode cX9_terms 48 = .ok (.aload_n 0, 1) by decide +kernel) rfl rfl rfl ?_
          refine tr_getR (pc' := 52) fl_HandRing_30 (show decode cX9_terms 49 = .ok (.getfield 30, 3) by decide +kernel) rfl (la_o hL (by decide) rfl) (la_r hL 4 rfl) ?_
          obtain ⟨μ8, ex7, h⟩ := hm_bs h
          have cx7 := ok_X7_clear (fr := fr - 1) (ν := ν) (by omega) 87 (by unfold hm_S; decide) μ6 hL ex7
          refine tp_callV (pc' := 55) (As := []) (fr1 := fr - 1) (ci := 7) okm_X7_clear lk_HandRing_103 (show decode cX9_terms 52 = .ok (.invokevirtual 103, 3) by decide +kernel) rfl rfl rfl (by decide) (la_o hL (by decide) rfl) rfl rfl (Nat.le_of_ble_eq_true rfl) (by omega) cx7 (st' := []) rfl ?_
          replace hL := cx7.1
          refine tr_aload_n (pc' := 56) (show decode cX9_terms 55 = .ok (.aload_n 0, 1) by decide +kernel) rfl rfl rfl ?_
          refine tr_iload_n (pc' := 57) (show decode cX9_terms 56 = .ok (.iload_n 3, 1) by decide +kernel) rfl rfl rfl ?_
          obtain ⟨x9, μ10, ex9, h⟩ := hm_b2s h
          have cx9 := ok_X9_granted (fr := fr - 1) (ν := ν) (by omega) x5 μ8 hL ex9
          refine tp_callV (pc' := 60) (As := [.int x5]) (fr1 := fr - 1) (ci := 9) okm_X9_granted lk_HandRing_110 (show decode cX9_terms 57 = .ok (.invokevirtual 110, 3) by decide +kernel) rfl rfl rfl (by decide) (la_o hL (by decide) rfl) rfl rfl (Nat.le_of_ble_eq_true rfl) (by omega) cx9 (st' := [.int x9]) rfl ?_
          replace hL := cx9.1
          cases h
          exact tr_iret rfl (show decode cX9_terms 60 = .ok (.ireturn, 1) by decide +kernel) hL
        · refine tr_icmp_le_f (tgt := 28) (pc' := 22) hc (show decode cX9_terms 19 = .ok (.if_icmp .le 9, 3) by decide +kernel) (by decide) rfl ?_
          refine hm_fgt [true, false, false, false] (lv' := [some (.ref 64), none, none, none]) rfl ?_
          exact ok_X9_terms_J22 hfr _ _ μ hL h
def f_X9_putNumber_J44 (v1 : Int32) (c3 : Int32 → hm_M → Option hm_M) (e50 : hm_M → Option hm_M) (y2 : Int32) (μ1 : hm_M) : Option hm_M :=
  c3 (y2 + (-8 : Int32)) μ1
theorem ok_X9_putNumber_J44 {fr : Nat} (hfr : 0 ≤ fr) {ν : hm_N} {μR : hm_M}  (v1 : Int32) (c3 : Int32 → hm_M → Option hm_M) (e50 : hm_M → Option hm_M) (hc3 : ∀ (y2 : Int32)  (μ1 : hm_M), hm_LL ν μ1 → c3 y2 μ1 = some μR → hm_T (hm_LL ν) m_X9_putNumber fr 0 0 none μR 3 [some (.ref 64), some (.int v1), some (.int y2)] [] μ1) (he50 : ∀   (μ1 : hm_M), hm_LL ν μ1 → e50 μ1 = some μR → hm_T (hm_LL ν) m_X9_putNumber fr 0 0 none μR 50 [none, none, none] [] μ1)  (y2 : Int32) (μ1 : hm_M) (hL : hm_LL ν μ1) (h : f_X9_putNumber_J44 v1 c3 e50 y2 μ1 = some μR) : hm_T (hm_LL ν) m_X9_putNumber fr 0 0 none μR 44 [some (.ref 64), some (.int v1), some (.int y2)] [] μ1 := by
  unfold f_X9_putNumber_J44 at h
  refine tr_iinc (pc' := 47) (v := y2 + (-8 : Int32)) (lv' := [some (.ref 64), some (.int v1), some (.int (y2 + (-8 : Int32)))]) (show decode cX9_putNumber 44 = .ok (.iinc 2 (-8), 3) by decide +kernel) rfl rfl rfl (Nat.le_of_ble_eq_true rfl) rfl rfl ?_
  refine tr_goto (tgt := 3) (show decode cX9_putNumber 47 = .ok (.goto (-44), 3) by decide +kernel) rfl ?_
  exact hc3 (y2 + (-8 : Int32)) μ1 hL h
def f_X9_putNumber_L3 (v1 : Int32) (e50 : hm_M → Option hm_M) : Nat → Int32 → hm_M → Option hm_M
  | 0, _, _ => none
  | n + 1, y2, μ1 => (if y2 < 0 then
  e50 μ1
  else
  (if (400 : Int32) ≤ (μ1.1 64 12) then
  f_X9_putNumber_J44 v1 (f_X9_putNumber_L3 v1 e50 n) e50 y2 μ1
  else
  Option.bind (hm_sd μ1 156 400 (μ1.1 64 12) (vp_nar .char (((((v1.toUInt32 >>> (y2.toUInt32 &&& Int32.toUInt32 31)).toInt32) &&& (255 : Int32)).toUInt32 % 65536).toInt32))) fun μ2 =>
  Option.bind (hm_pI μ2 64 12 ((μ2.1 64 12) + (1 : Int32))) fun μ3 =>
  f_X9_putNumber_J44 v1 (f_X9_putNumber_L3 v1 e50 n) e50 y2 μ3))
theorem ok_X9_putNumber_L3 {fr : Nat} (hfr : 0 ≤ fr) {ν : hm_N} {μR : hm_M}  (v1 : Int32) (e50 : hm_M → Option hm_M)  (he50 : ∀   (μ1 : hm_M), hm_LL ν μ1 → e50 μ1 = some μR → hm_T (hm_LL ν) m_X9_putNumber fr 0 0 none μR 50 [none, none, none] [] μ1)  : ∀ (n : Nat) (y2 : Int32)  (μ1 : hm_M), hm_LL ν μ1 → f_X9_putNumber_L3 v1 e50 n y2 μ1 = some μR → hm_T (hm_LL ν) m_X9_putNumber fr 0 0 none μR 3 [some (.ref 64), some (.int v1), some (.int y2)] [] μ1 := by
  intro n
  induction n with
  | zero =>
    intro y2 μ1 hL h
    unfold f_X9_putNumber_L3 at h
    cases h
  | succ n ih =>
    intro y2 μ1 hL h
    unfold f_X9_putNumber_L3 at h
    refine tr_iload_n (pc' := 4) (show decode cX9_putNumber 3 = .ok (.iload_n 2, 1) by decide +kernel) rfl rfl rfl ?_
    rcases hm_is h with ⟨hc, h⟩ | ⟨hc, h⟩
    · refine tr_if_lt_t (tgt := 50) hc (show decode cX9_putNumber 4 = .ok (.ifCond .lt 46, 3) by decide +kernel) (by decide) ?_
      refine hm_fgt [false, false, false] (lv' := [none, none, none]) rfl ?_
      exact he50 μ1 hL h
    · refine tr_if_lt_f (tgt := 50) (pc' := 7) hc (show decode cX9_putNumber 4 = .ok (.ifCond .lt 46, 3) by decide +kernel) (by decide) rfl ?_
      refine tr_aload_n (pc' := 8) (show decode cX9_putNumber 7 = .ok (.aload_n 0, 1) by decide +kernel) rfl rfl rfl ?_
      refine tr_getI (pc' := 11) fl_HandRing_158 (show decode cX9_putNumber 8 = .ok (.getfield 158, 3) by decide +kernel) rfl (la_o hL (by decide) rfl) ?_
      refine tr_sipush (pc' := 14) (v := (400 : Int32)) (show decode cX9_putNumber 11 = .ok (.sipush 400, 3) by decide +kernel) rfl (by decide) ?_
      rcases hm_is h with ⟨hc, h⟩ | ⟨hc, h⟩
      · refine tr_icmp_ge_t (tgt := 44) hc (show decode cX9_putNumber 14 = .ok (.if_icmp .ge 30, 3) by decide +kernel) (by decide) ?_
        exact ok_X9_putNumber_J44 hfr _ (f_X9_putNumber_L3 v1 e50 n) e50 ih he50 y2 μ1 hL h
      · refine tr_icmp_ge_f (tgt := 44) (pc' := 17) hc (show decode cX9_putNumber 14 = .ok (.if_icmp .ge 30, 3) by decide +kernel) (by decide) rfl ?_
        refine tr_aload_n (pc' := 18) (show decode cX9_putNumber 17 = .ok (.aload_n 0, 1) by decide +kernel) rfl rfl rfl ?_
        refine tr_getR (pc' := 21) fl_HandRing_73 (show decode cX9_putNumber 18 = .ok (.getfield 73, 3) by decide +kernel) rfl (la_o hL (by decide) rfl) (la_r hL 10 rfl) ?_
        refine tr_aload_n (pc' := 22) (show decode cX9_putNumber 21 = .ok (.aload_n 0, 1) by decide +kernel) rfl rfl rfl ?_
        refine tr_getI (pc' := 25) fl_HandRing_158 (show decode cX9_putNumber 22 = .ok (.getfield 158, 3) by decide +kernel) rfl (la_o hL (by decide) rfl) ?_
        refine tr_iload_n (pc' := 26) (show decode cX9_putNumber 25 = .ok (.iload_n 1, 1) by decide +kernel) rfl rfl rfl ?_
        refine tr_iload_n (pc' := 27) (show decode cX9_putNumber 26 = .ok (.iload_n 2, 1) by decide +kernel) rfl rfl rfl ?_
        refine tr_iushr (pc' := 28) (show decode cX9_putNumber 27 = .ok (.iushr, 1) by decide +kernel) rfl ?_
        refine tr_sipush (pc' := 31) (v := (255 : Int32)) (show decode cX9_putNumber 28 = .ok (.sipush 255, 3) by decide +kernel) rfl (by decide) ?_
        refine tr_iand (pc' := 32) (show decode cX9_putNumber 31 = .ok (.iand, 1) by decide +kernel) rfl ?_
        refine tr_i2c (pc' := 33) (show decode cX9_putNumber 32 = .ok (.i2c, 1) by decide +kernel) rfl ?_
        obtain ⟨μ2, eμ2, h⟩ := hm_bs h
        refine tp_sdC (pc' := 34) (show decode cX9_putNumber 33 = .ok (.castore, 1) by decide +kernel) rfl (la_a hL (by decide) rfl) eμ2 ?_
        replace hL := hL.same (hm_sd_s eμ2)
        refine tr_aload_n (pc' := 35) (show decode cX9_putNumber 34 = .ok (.aload_n 0, 1) by decide +kernel) rfl rfl rfl ?_
        refine tr_dup (pc' := 36) (show decode cX9_putNumber 35 = .ok (.dup, 1) by decide +kernel) rfl rfl ?_
        refine tr_getI (pc' := 39) fl_HandRing_158 (show decode cX9_putNumber 36 = .ok (.getfield 158, 3) by decide +kernel) rfl (la_o hL (by decide) rfl) ?_
        refine tr_iconst (pc' := 40) (v := (1 : Int32)) (show decode cX9_putNumber 39 = .ok (.iconst 1, 1) by decide +kernel) rfl (by decide) ?_
        refine tr_iadd (pc' := 41) (show decode cX9_putNumber 40 = .ok (.iadd, 1) by decide +kernel) rfl ?_
        obtain ⟨μ3, eμ3, h⟩ := hm_bs h
        refine tp_pI (pc' := 44) fl_HandRing_158 (show decode cX9_putNumber 41 = .ok (.putfield 158, 3) by decide +kernel) rfl (la_o hL (by decide) rfl) eμ3 ?_
        replace hL := hL.same (hm_pI_s eμ3)
        exact ok_X9_putNumber_J44 hfr _ (f_X9_putNumber_L3 v1 e50 n) e50 ih he50 y2 μ3 hL h
def f_X9_putNumber (v1 : Int32) (μ : hm_M) : Option hm_M :=
  f_X9_putNumber_L3 v1 (fun μz4 => some μz4) hm_fu (24 : Int32) μ
set_option maxRecDepth 100000 in
theorem ok_X9_putNumber {fr : Nat} (hfr : 0 ≤ fr) {ν : hm_N} {μR : hm_M}  (v1 : Int32)  (μ : hm_M) (hL : hm_LL ν μ) (h : f_X9_putNumber v1 μ = some μR) : hm_CC (hm_LL ν) m_X9_putNumber fr 0 0 [.ref 64, .int v1] μ none μR := by
  refine hm_enter (lv := [some (.ref 64), some (.int v1), none]) (by decide) rfl (Nat.le_of_ble_eq_true rfl) ?_
  unfold f_X9_putNumber at h
  refine tr_bipush (pc' := 2) (v := (24 : Int32)) (show decode cX9_putNumber 0 = .ok (.bipush 24, 2) by decide +kernel) rfl (by decide) ?_
  refine tr_istore_n (pc' := 3) (lv' := [some (.ref 64), some (.int v1), some (.int (24 : Int32))]) (show decode cX9_putNumber 2 = .ok (.istore_n 2, 1) by decide +kernel) rfl rfl (Nat.le_of_ble_eq_true rfl) rfl rfl ?_
  refine ok_X9_putNumber_L3 hfr _ _ ?_ _ (24 : Int32) μ hL h
  · intro μz4 hL h
    cases h
    exact tr_vret rfl (show decode cX9_putNumber 50 = .ok (.return_, 1) by decide +kernel) hL
def f_X9_feed (v1 : Int32) (v2 : Int32) (v3 : Int32) (v4 : Int32) (v5 : Int32) (μ : hm_M) : Option (Int32 × hm_M) :=
  (if ((μ.1 64 12) + (20 : Int32)) ≤ (400 : Int32) then
  Option.bind (f_X9_putNumber v1 μ) fun μ3 =>
  Option.bind (f_X9_putNumber v2 μ3) fun μ5 =>
  Option.bind (f_X9_putNumber v3 μ5) fun μ7 =>
  Option.bind (f_X9_putNumber v4 μ7) fun μ9 =>
  Option.bind (f_X9_putNumber v5 μ9) fun μ11 =>
  some (μ11.1 64 12, μ11)
  else
  some ((-1 : Int32), μ))
set_option maxRecDepth 100000 in
theorem ok_X9_feed {fr : Nat} (hfr : 1 ≤ fr) {ν : hm_N} {r : Int32} {μR : hm_M}  (v1 : Int32) (v2 : Int32) (v3 : Int32) (v4 : Int32) (v5 : Int32)  (μ : hm_M) (hL : hm_LL ν μ) (h : f_X9_feed v1 v2 v3 v4 v5 μ = some (r, μR)) : hm_CC (hm_LL ν) m_X9_feed fr 0 0 [.ref 64, .int v1, .int v2, .int v3, .int v4, .int v5] μ (some (.int r)) μR := by
  refine hm_enter (lv := [some (.ref 64), some (.int v1), some (.int v2), some (.int v3), some (.int v4), some (.int v5)]) (by decide) rfl (Nat.le_of_ble_eq_true rfl) ?_
  unfold f_X9_feed at h
  refine tr_aload_n (pc' := 1) (show decode cX9_feed 0 = .ok (.aload_n 0, 1) by decide +kernel) rfl rfl rfl ?_
  refine tr_getI (pc' := 4) fl_HandRing_158 (show decode cX9_feed 1 = .ok (.getfield 158, 3) by decide +kernel) rfl (la_o hL (by decide) rfl) ?_
  refine tr_bipush (pc' := 6) (v := (20 : Int32)) (show decode cX9_feed 4 = .ok (.bipush 20, 2) by decide +kernel) rfl (by decide) ?_
  refine tr_iadd (pc' := 7) (show decode cX9_feed 6 = .ok (.iadd, 1) by decide +kernel) rfl ?_
  refine tr_sipush (pc' := 10) (v := (400 : Int32)) (show decode cX9_feed 7 = .ok (.sipush 400, 3) by decide +kernel) rfl (by decide) ?_
  rcases hm_is h with ⟨hc, h⟩ | ⟨hc, h⟩
  · refine tr_icmp_le_t (tgt := 15) hc (show decode cX9_feed 10 = .ok (.if_icmp .le 5, 3) by decide +kernel) (by decide) ?_
    refine tr_aload_n (pc' := 16) (show decode cX9_feed 15 = .ok (.aload_n 0, 1) by decide +kernel) rfl rfl rfl ?_
    refine tr_iload_n (pc' := 17) (show decode cX9_feed 16 = .ok (.iload_n 1, 1) by decide +kernel) rfl rfl rfl ?_
    obtain ⟨μ3, ex2, h⟩ := hm_bs h
    have cx2 := ok_X9_putNumber (fr := fr - 1) (ν := ν) (by omega) v1 μ hL ex2
    refine tp_callV (pc' := 20) (As := [.int v1]) (fr1 := fr - 1) (ci := 9) okm_X9_putNumber lk_HandRing_161 (show decode cX9_feed 17 = .ok (.invokevirtual 161, 3) by decide +kernel) rfl rfl rfl (by decide) (la_o hL (by decide) rfl) rfl rfl (Nat.le_of_ble_eq_true rfl) (by omega) cx2 (st' := []) rfl ?_
    replace hL := cx2.1
    refine tr_aload_n (pc' := 21) (show decode cX9_feed 20 = .ok (.aload_n 0, 1) by decide +kernel) rfl rfl rfl ?_
    refine tr_iload_n (pc' := 22) (show decode cX9_feed 21 = .ok (.iload_n 2, 1) by decide +kernel) rfl rfl rfl ?_
    obtain ⟨μ5, ex4, h⟩ := hm_bs h
    have cx4 := ok_X9_putNumber (fr := fr - 1) (ν := ν) (by omega) v2 μ3 hL ex4
    refine tp_callV (pc' := 25) (As := [.int v2]) (fr1 := fr - 1) (ci := 9) okm_X9_putNumber lk_HandRing_161 (show decode cX9_feed 22 = .ok (.invokevirtual 161, 3) by decide +kernel) rfl rfl rfl (by decide) (la_o hL (by decide) rfl) rfl rfl (Nat.le_of_ble_eq_true rfl) (by omega) cx4 (st' := []) rfl ?_
    replace hL := cx4.1
    refine tr_aload_n (pc' := 26) (show decode cX9_feed 25 = .ok (.aload_n 0, 1) by decide +kernel) rfl rfl rfl ?_
    refine tr_iload_n (pc' := 27) (show decode cX9_feed 26 = .ok (.iload_n 3, 1) by decide +kernel) rfl rfl rfl ?_
    obtain ⟨μ7, ex6, h⟩ := hm_bs h
    have cx6 := ok_X9_putNumber (fr := fr - 1) (ν := ν) (by omega) v3 μ5 hL ex6
    refine tp_callV (pc' := 30) (As := [.int v3]) (fr1 := fr - 1) (ci := 9) okm_X9_putNumber lk_HandRing_161 (show decode cX9_feed 27 = .ok (.invokevirtual 161, 3) by decide +kernel) rfl rfl rfl (by decide) (la_o hL (by decide) rfl) rfl rfl (Nat.le_of_ble_eq_true rfl) (by omega) cx6 (st' := []) rfl ?_
    replace hL := cx6.1
    refine tr_aload_n (pc' := 31) (show decode cX9_feed 30 = .ok (.aload_n 0, 1) by decide +kernel) rfl rfl rfl ?_
    refine tr_iload (pc' := 33) (show decode cX9_feed 31 = .ok (.iload 4, 2) by decide +kernel) rfl rfl ?_
    obtain ⟨μ9, ex8, h⟩ := hm_bs h
    have cx8 := ok_X9_putNumber (fr := fr - 1) (ν := ν) (by omega) v4 μ7 hL ex8
    refine tp_callV (pc' := 36) (As := [.int v4]) (fr1 := fr - 1) (ci := 9) okm_X9_putNumber lk_HandRing_161 (show decode cX9_feed 33 = .ok (.invokevirtual 161, 3) by decide +kernel) rfl rfl rfl (by decide) (la_o hL (by decide) rfl) rfl rfl (Nat.le_of_ble_eq_true rfl) (by omega) cx8 (st' := []) rfl ?_
    replace hL := cx8.1
    refine tr_aload_n (pc' := 37) (show decode cX9_feed 36 = .ok (.aload_n 0, 1) by decide +kernel) rfl rfl rfl ?_
    refine tr_iload (pc' := 39) (show decode cX9_feed 37 = .ok (.iload 5, 2) by decide +kernel) rfl rfl ?_
    obtain ⟨μ11, ex10, h⟩ := hm_bs h
    have cx10 := ok_X9_putNumber (fr := fr - 1) (ν := ν) (by omega) v5 μ9 hL ex10
    refine tp_callV (pc' := 42) (As := [.int v5]) (fr1 := fr - 1) (ci := 9) okm_X9_putNumber lk_HandRing_161 (show decode cX9_feed 39 = .ok (.invokevirtual 161, 3) by decide +kernel) rfl rfl rfl (by decide) (la_o hL (by decide) rfl) rfl rfl (Nat.le_of_ble_eq_true rfl) (by omega) cx10 (st' := []) rfl ?_
    replace hL := cx10.1
    refine tr_aload_n (pc' := 43) (show decode cX9_feed 42 = .ok (.aload_n 0, 1) by decide +kernel) rfl rfl rfl ?_
    refine tr_getI (pc' := 46) fl_HandRing_158 (show decode cX9_feed 43 = .ok (.getfield 158, 3) by decide +kernel) rfl (la_o hL (by decide) rfl) ?_
    cases h
    exact tr_iret rfl (show decode cX9_feed 46 = .ok (.ireturn, 1) by decide +kernel) hL
  · refine tr_icmp_le_f (tgt := 15) (pc' := 13) hc (show decode cX9_feed 10 = .ok (.if_icmp .le 5, 3) by decide +kernel) (by decide) rfl ?_
    refine tr_iconst (pc' := 14) (v := (-1 : Int32)) (show decode cX9_feed 13 = .ok (.iconst (-1), 1) by decide +kernel) rfl (by decide) ?_
    cases h
    exact tr_iret rfl (show decode cX9_feed 14 = .ok (.ireturn, 1) by decide +kernel) hL
def f_X9_end (v1 : Int32) (μ : hm_M) : Option (Int32 × hm_M) :=
  (if v1 < 0 then
  some ((-1 : Int32), μ)
  else
  (if v1 ≤ (μ.1 64 12) then
  Option.bind (hm_pI μ 64 12 v1) fun μ2 =>
  some (v1, μ2)
  else
  some ((-1 : Int32), μ)))
set_option maxRecDepth 100000 in
theorem ok_X9_end {fr : Nat} (hfr : 0 ≤ fr) {ν : hm_N} {r : Int32} {μR : hm_M}  (v1 : Int32)  (μ : hm_M) (hL : hm_LL ν μ) (h : f_X9_end v1 μ = some (r, μR)) : hm_CC (hm_LL ν) m_X9_end fr 0 0 [.ref 64, .int v1] μ (some (.int r)) μR := by
  refine hm_enter (lv := [some (.ref 64), some (.int v1)]) (by decide) rfl (Nat.le_of_ble_eq_true rfl) ?_
  unfold f_X9_end at h
  refine tr_iload_n (pc' := 1) (show decode cX9_end 0 = .ok (.iload_n 1, 1) by decide +kernel) rfl rfl rfl ?_
  rcases hm_is h with ⟨hc, h⟩ | ⟨hc, h⟩
  · refine tr_if_lt_t (tgt := 12) hc (show decode cX9_end 1 = .ok (.ifCond .lt 11, 3) by decide +kernel) (by decide) ?_
    refine tr_iconst (pc' := 13) (v := (-1 : Int32)) (show decode cX9_end 12 = .ok (.iconst (-1), 1) by decide +kernel) rfl (by decide) ?_
    cases h
    exact tr_iret rfl (show decode cX9_end 13 = .ok (.ireturn, 1) by decide +kernel) hL
  · refine tr_if_lt_f (tgt := 12) (pc' := 4) hc (show decode cX9_end 1 = .ok (.ifCond .lt 11, 3) by decide +kernel) (by decide) rfl ?_
    refine tr_iload_n (pc' := 5) (show decode cX9_end 4 = .ok (.iload_n 1, 1) by decide +kernel) rfl rfl rfl ?_
    refine tr_aload_n (pc' := 6) (show decode cX9_end 5 = .ok (.aload_n 0, 1) by decide +kernel) rfl rfl rfl ?_
    refine tr_getI (pc' := 9) fl_HandRing_158 (show decode cX9_end 6 = .ok (.getfield 158, 3) by decide +kernel) rfl (la_o hL (by decide) rfl) ?_
    rcases hm_is h with ⟨hc, h⟩ | ⟨hc, h⟩
    · refine tr_icmp_le_t (tgt := 14) hc (show decode cX9_end 9 = .ok (.if_icmp .le 5, 3) by decide +kernel) (by decide) ?_
      refine tr_aload_n (pc' := 15) (show decode cX9_end 14 = .ok (.aload_n 0, 1) by decide +kernel) rfl rfl rfl ?_
      refine tr_iload_n (pc' := 16) (show decode cX9_end 15 = .ok (.iload_n 1, 1) by decide +kernel) rfl rfl rfl ?_
      obtain ⟨μ2, eμ2, h⟩ := hm_bs h
      refine tp_pI (pc' := 19) fl_HandRing_158 (show decode cX9_end 16 = .ok (.putfield 158, 3) by decide +kernel) rfl (la_o hL (by decide) rfl) eμ2 ?_
      replace hL := hL.same (hm_pI_s eμ2)
      refine tr_iload_n (pc' := 20) (show decode cX9_end 19 = .ok (.iload_n 1, 1) by decide +kernel) rfl rfl rfl ?_
      cases h
      exact tr_iret rfl (show decode cX9_end 20 = .ok (.ireturn, 1) by decide +kernel) hL
    · refine tr_icmp_le_f (tgt := 14) (pc' := 12) hc (show decode cX9_end 9 = .ok (.if_icmp .le 5, 3) by decide +kernel) (by decide) rfl ?_
      refine tr_iconst (pc' := 13) (v := (-1 : Int32)) (show decode cX9_end 12 = .ok (.iconst (-1), 1) by decide +kernel) rfl (by decide) ?_
      cases h
      exact tr_iret rfl (show decode cX9_end 13 = .ok (.ireturn, 1) by decide +kernel) hL
def f_X9_emptiedTape (μ : hm_M) : Option (Int32 × hm_M) :=
  Option.bind (hm_pI μ 64 12 (0 : Int32)) fun μ2 =>
  some (μ.1 64 12, μ2)
set_option maxRecDepth 100000 in
theorem ok_X9_emptiedTape {fr : Nat} (hfr : 0 ≤ fr) {ν : hm_N} {r : Int32} {μR : hm_M}    (μ : hm_M) (hL : hm_LL ν μ) (h : f_X9_emptiedTape μ = some (r, μR)) : hm_CC (hm_LL ν) m_X9_emptiedTape fr 0 0 [.ref 64] μ (some (.int r)) μR := by
  refine hm_enter (lv := [some (.ref 64), none]) (by decide) rfl (Nat.le_of_ble_eq_true rfl) ?_
  unfold f_X9_emptiedTape at h
  refine tr_aload_n (pc' := 1) (show decode cX9_emptiedTape 0 = .ok (.aload_n 0, 1) by decide +kernel) rfl rfl rfl ?_
  refine tr_getI (pc' := 4) fl_HandRing_158 (show decode cX9_emptiedTape 1 = .ok (.getfield 158, 3) by decide +kernel) rfl (la_o hL (by decide) rfl) ?_
  refine tr_istore_n (pc' := 5) (lv' := [some (.ref 64), some (.int (μ.1 64 12))]) (show decode cX9_emptiedTape 4 = .ok (.istore_n 1, 1) by decide +kernel) rfl rfl (Nat.le_of_ble_eq_true rfl) rfl rfl ?_
  refine tr_aload_n (pc' := 6) (show decode cX9_emptiedTape 5 = .ok (.aload_n 0, 1) by decide +kernel) rfl rfl rfl ?_
  refine tr_iconst (pc' := 7) (v := (0 : Int32)) (show decode cX9_emptiedTape 6 = .ok (.iconst 0, 1) by decide +kernel) rfl (by decide) ?_
  obtain ⟨μ2, eμ2, h⟩ := hm_bs h
  refine tp_pI (pc' := 10) fl_HandRing_158 (show decode cX9_emptiedTape 7 = .ok (.putfield 158, 3) by decide +kernel) rfl (la_o hL (by decide) rfl) eμ2 ?_
  replace hL := hL.same (hm_pI_s eμ2)
  refine tr_iload_n (pc' := 11) (show decode cX9_emptiedTape 10 = .ok (.iload_n 1, 1) by decide +kernel) rfl rfl rfl ?_
  cases h
  exact tr_iret rfl (show decode cX9_emptiedTape 11 = .ok (.ireturn, 1) by decide +kernel) hL
def f_X9_row_J122 (w23_1 : Int32) (c23 : Int32 → Int32 → Int32 → hm_M → Option (Int32 × hm_M)) (e128 : Int32 → Int32 → hm_M → Option (Int32 × hm_M)) (y2 : Int32) (y3 : Int32) (y4 : Int32) (μ1 : hm_M) : Option (Int32 × hm_M) :=
  c23 y2 y3 (y4 + (3 : Int32)) μ1
theorem ok_X9_row_J122 {fr : Nat} (hfr : 1 ≤ fr) {ν : hm_N} {r : Int32} {μR : hm_M}  (w23_1 : Int32) (c23 : Int32 → Int32 → Int32 → hm_M → Option (Int32 × hm_M)) (e128 : Int32 → Int32 → hm_M → Option (Int32 × hm_M)) (hc23 : ∀ (y2 : Int32) (y3 : Int32) (y4 : Int32)  (μ1 : hm_M), hm_LL ν μ1 → c23 y2 y3 y4 μ1 = some (r, μR) → hm_T (hm_LL ν) m_X9_row fr 0 0 (some (.int r)) μR 23 [some (.ref 64), some (.int w23_1), some (.int y2), some (.int y3), some (.int y4)] [] μ1) (he128 : ∀ (y2 : Int32) (y3 : Int32)  (μ1 : hm_M), hm_LL ν μ1 → e128 y2 y3 μ1 = some (r, μR) → hm_T (hm_LL ν) m_X9_row fr 0 0 (some (.int r)) μR 128 [some (.ref 64), none, some (.int y2), some (.int y3), none] [] μ1)  (y2 : Int32) (y3 : Int32) (y4 : Int32) (μ1 : hm_M) (hL : hm_LL ν μ1) (h : f_X9_row_J122 w23_1 c23 e128 y2 y3 y4 μ1 = some (r, μR)) : hm_T (hm_LL ν) m_X9_row fr 0 0 (some (.int r)) μR 122 [some (.ref 64), some (.int w23_1), some (.int y2), some (.int y3), some (.int y4)] [] μ1 := by
  unfold f_X9_row_J122 at h
  refine tr_iinc (pc' := 125) (v := y4 + (3 : Int32)) (lv' := [some (.ref 64), some (.int w23_1), some (.int y2), some (.int y3), some (.int (y4 + (3 : Int32)))]) (show decode cX9_row 122 = .ok (.iinc 4 3, 3) by decide +kernel) rfl rfl rfl (Nat.le_of_ble_eq_true rfl) rfl rfl ?_
  refine tr_goto (tgt := 23) (show decode cX9_row 125 = .ok (.goto (-102), 3) by decide +kernel) rfl ?_
  exact hc23 y2 y3 (y4 + (3 : Int32)) μ1 hL h
def f_X9_row_J119 (w23_1 : Int32) (c23 : Int32 → Int32 → Int32 → hm_M → Option (Int32 × hm_M)) (e128 : Int32 → Int32 → hm_M → Option (Int32 × hm_M)) (y2 : Int32) (y3 : Int32) (y4 : Int32) (μ1 : hm_M) : Option (Int32 × hm_M) :=
  f_X9_row_J122 w23_1 c23 e128 y2 (y3 + (1 : Int32)) y4 μ1
theorem ok_X9_row_J119 {fr : Nat} (hfr : 1 ≤ fr) {ν : hm_N} {r : Int32} {μR : hm_M}  (w23_1 : Int32) (c23 : Int32 → Int32 → Int32 → hm_M → Option (Int32 × hm_M)) (e128 : Int32 → Int32 → hm_M → Option (Int32 × hm_M)) (hc23 : ∀ (y2 : Int32) (y3 : Int32) (y4 : Int32)  (μ1 : hm_M), hm_LL ν μ1 → c23 y2 y3 y4 μ1 = some (r, μR) → hm_T (hm_LL ν) m_X9_row fr 0 0 (some (.int r)) μR 23 [some (.ref 64), some (.int w23_1), some (.int y2), some (.int y3), some (.int y4)] [] μ1) (he128 : ∀ (y2 : Int32) (y3 : Int32)  (μ1 : hm_M), hm_LL ν μ1 → e128 y2 y3 μ1 = some (r, μR) → hm_T (hm_LL ν) m_X9_row fr 0 0 (some (.int r)) μR 128 [some (.ref 64), none, some (.int y2), some (.int y3), none] [] μ1)  (y2 : Int32) (y3 : Int32) (y4 : Int32) (μ1 : hm_M) (hL : hm_LL ν μ1) (h : f_X9_row_J119 w23_1 c23 e128 y2 y3 y4 μ1 = some (r, μR)) : hm_T (hm_LL ν) m_X9_row fr 0 0 (some (.int r)) μR 119 [some (.ref 64), some (.int w23_1), some (.int y2), some (.int y3), some (.int y4)] [] μ1 := by
  unfold f_X9_row_J119 at h
  refine tr_iinc (pc' := 122) (v := y3 + (1 : Int32)) (lv' := [some (.ref 64), some (.int w23_1), some (.int y2), some (.int (y3 + (1 : Int32))), some (.int y4)]) (show decode cX9_row 119 = .ok (.iinc 3 1, 3) by decide +kernel) rfl rfl rfl (Nat.le_of_ble_eq_true rfl) rfl rfl ?_
  exact ok_X9_row_J122 hfr w23_1 c23 e128 hc23 he128 y2 (y3 + (1 : Int32)) y4 μ1 hL h
def f_X9_row_L23 (w23_1 : Int32) (e128 : Int32 → Int32 → hm_M → Option (Int32 × hm_M)) : Nat → Int32 → Int32 → Int32 → hm_M → Option (Int32 × hm_M)
  | 0, _, _, _, _ => none
  | n + 1, y2, y3, y4, μ1 => (if w23_1 ≤ y4 then
  e128 y2 y3 μ1
  else
  (if w23_1 ≤ (y4 + (2 : Int32)) then
  f_X9_row_J119 w23_1 (f_X9_row_L23 w23_1 e128 n) e128 y2 y3 y4 μ1
  else
  (if (8 : Int32) ≤ (μ1.1 65 0) then
  f_X9_row_J119 w23_1 (f_X9_row_L23 w23_1 e128 n) e128 y2 y3 y4 μ1
  else
  Option.bind (hm_ld μ1 156 400 y4) fun x4 =>
  Option.bind (hm_ld μ1 156 400 (y4 + (1 : Int32))) fun x5 =>
  Option.bind (hm_ld μ1 156 400 (y4 + (2 : Int32))) fun x6 =>
  Option.bind (f_X9_canBePerson x4 x5 x6) fun x7 =>
  (if x7 = 0 then
  f_X9_row_J119 w23_1 (f_X9_row_L23 w23_1 e128 n) e128 y2 y3 y4 μ1
  else
  Option.bind (hm_ld μ1 156 400 y4) fun x8 =>
  Option.bind (hm_ld μ1 156 400 (y4 + (1 : Int32))) fun x9 =>
  Option.bind (hm_ld μ1 156 400 (y4 + (2 : Int32))) fun x10 =>
  hm_b2 (f_X8_addPerson 65 x8 x9 x10 μ1) fun x11 μ12 =>
  f_X9_row_J122 w23_1 (f_X9_row_L23 w23_1 e128 n) e128 (y2 + (1 : Int32)) y3 y4 μ12))))
theorem ok_X9_row_L23 {fr : Nat} (hfr : 1 ≤ fr) {ν : hm_N} {r : Int32} {μR : hm_M}  (w23_1 : Int32) (e128 : Int32 → Int32 → hm_M → Option (Int32 × hm_M))  (he128 : ∀ (y2 : Int32) (y3 : Int32)  (μ1 : hm_M), hm_LL ν μ1 → e128 y2 y3 μ1 = some (r, μR) → hm_T (hm_LL ν) m_X9_row fr 0 0 (some (.int r)) μR 128 [some (.ref 64), none, some (.int y2), some (.int y3), none] [] μ1)  : ∀ (n : Nat) (y2 : Int32) (y3 : Int32) (y4 : Int32)  (μ1 : hm_M), hm_LL ν μ1 → f_X9_row_L23 w23_1 e128 n y2 y3 y4 μ1 = some (r, μR) → hm_T (hm_LL ν) m_X9_row fr 0 0 (some (.int r)) μR 23 [some (.ref 64), some (.int w23_1), some (.int y2), some (.int y3), some (.int y4)] [] μ1 := by
  intro n
  induction n with
  | zero =>
    intro y2 y3 y4 μ1 hL h
    unfold f_X9_row_L23 at h
    cases h
  | succ n ih =>
    intro y2 y3 y4 μ1 hL h
    unfold f_X9_row_L23 at h
    refine tr_iload (pc' := 25) (show decode cX9_row 23 = .ok (.iload 4, 2) by decide +kernel) rfl rfl ?_
    refine tr_iload_n (pc' := 26) (show decode cX9_row 25 = .ok (.iload_n 1, 1) by decide +kernel) rfl rfl rfl ?_
    rcases hm_is h with ⟨hc, h⟩ | ⟨hc, h⟩
    · refine tr_icmp_ge_t (tgt := 128) hc (show decode cX9_row 26 = .ok (.if_icmp .ge 102, 3) by decide +kernel) (by decide) ?_
      refine hm_fgt [true, false, true, true, false] (lv' := [some (.ref 64), none, some (.int y2), some (.int y3), none]) rfl ?_
      exact he128 y2 y3 μ1 hL h
    · refine tr_icmp_ge_f (tgt := 128) (pc' := 29) hc (show decode cX9_row 26 = .ok (.if_icmp .ge 102, 3) by decide +kernel) (by decide) rfl ?_
      refine tr_iload (pc' := 31) (show decode cX9_row 29 = .ok (.iload 4, 2) by decide +kernel) rfl rfl ?_
      refine tr_iconst (pc' := 32) (v := (2 : Int32)) (show decode cX9_row 31 = .ok (.iconst 2, 1) by decide +kernel) rfl (by decide) ?_
      refine tr_iadd (pc' := 33) (show decode cX9_row 32 = .ok (.iadd, 1) by decide +kernel) rfl ?_
      refine tr_iload_n (pc' := 34) (show decode cX9_row 33 = .ok (.iload_n 1, 1) by decide +kernel) rfl rfl rfl ?_
      rcases hm_is h with ⟨hc, h⟩ | ⟨hc, h⟩
      · refine tr_icmp_ge_t (tgt := 119) hc (show decode cX9_row 34 = .ok (.if_icmp .ge 85, 3) by decide +kernel) (by decide) ?_
        exact ok_X9_row_J119 hfr w23_1 (f_X9_row_L23 w23_1 e128 n) e128 ih he128 y2 y3 y4 μ1 hL h
      · refine tr_icmp_ge_f (tgt := 119) (pc' := 37) hc (show decode cX9_row 34 = .ok (.if_icmp .ge 85, 3) by decide +kernel) (by decide) rfl ?_
        refine tr_aload_n (pc' := 38) (show decode cX9_row 37 = .ok (.aload_n 0, 1) by decide +kernel) rfl rfl rfl ?_
        refine tr_getR (pc' := 41) fl_HandRing_12 (show decode cX9_row 38 = .ok (.getfield 12, 3) by decide +kernel) rfl (la_o hL (by decide) rfl) (la_r hL 0 rfl) ?_
        refine tr_getI (pc' := 44) fl_HandRing_100 (show decode cX9_row 41 = .ok (.getfield 100, 3) by decide +kernel) rfl (la_o hL (by decide) rfl) ?_
        refine tr_bipush (pc' := 46) (v := (8 : Int32)) (show decode cX9_row 44 = .ok (.bipush 8, 2) by decide +kernel) rfl (by decide) ?_
        rcases hm_is h with ⟨hc, h⟩ | ⟨hc, h⟩
        · refine tr_icmp_ge_t (tgt := 119) hc (show decode cX9_row 46 = .ok (.if_icmp .ge 73, 3) by decide +kernel) (by decide) ?_
          exact ok_X9_row_J119 hfr w23_1 (f_X9_row_L23 w23_1 e128 n) e128 ih he128 y2 y3 y4 μ1 hL h
        · refine tr_icmp_ge_f (tgt := 119) (pc' := 49) hc (show decode cX9_row 46 = .ok (.if_icmp .ge 73, 3) by decide +kernel) (by decide) rfl ?_
          refine tr_aload_n (pc' := 50) (show decode cX9_row 49 = .ok (.aload_n 0, 1) by decide +kernel) rfl rfl rfl ?_
          refine tr_getR (pc' := 53) fl_HandRing_73 (show decode cX9_row 50 = .ok (.getfield 73, 3) by decide +kernel) rfl (la_o hL (by decide) rfl) (la_r hL 10 rfl) ?_
          refine tr_iload (pc' := 55) (show decode cX9_row 53 = .ok (.iload 4, 2) by decide +kernel) rfl rfl ?_
          obtain ⟨x4, ex4, h⟩ := hm_bs h
          refine tp_ldC (pc' := 56) (show decode cX9_row 55 = .ok (.caload, 1) by decide +kernel) rfl (la_a hL (by decide) rfl) ex4 ?_
          refine tr_aload_n (pc' := 57) (show decode cX9_row 56 = .ok (.aload_n 0, 1) by decide +kernel) rfl rfl rfl ?_
          refine tr_getR (pc' := 60) fl_HandRing_73 (show decode cX9_row 57 = .ok (.getfield 73, 3) by decide +kernel) rfl (la_o hL (by decide) rfl) (la_r hL 10 rfl) ?_
          refine tr_iload (pc' := 62) (show decode cX9_row 60 = .ok (.iload 4, 2) by decide +kernel) rfl rfl ?_
          refine tr_iconst (pc' := 63) (v := (1 : Int32)) (show decode cX9_row 62 = .ok (.iconst 1, 1) by decide +kernel) rfl (by decide) ?_
          refine tr_iadd (pc' := 64) (show decode cX9_row 63 = .ok (.iadd, 1) by decide +kernel) rfl ?_
          obtain ⟨x5, ex5, h⟩ := hm_bs h
          refine tp_ldC (pc' := 65) (show decode cX9_row 64 = .ok (.caload, 1) by decide +kernel) rfl (la_a hL (by decide) rfl) ex5 ?_
          refine tr_aload_n (pc' := 66) (show decode cX9_row 65 = .ok (.aload_n 0, 1) by decide +kernel) rfl rfl rfl ?_
          refine tr_getR (pc' := 69) fl_HandRing_73 (show decode cX9_row 66 = .ok (.getfield 73, 3) by decide +kernel) rfl (la_o hL (by decide) rfl) (la_r hL 10 rfl) ?_
          refine tr_iload (pc' := 71) (show decode cX9_row 69 = .ok (.iload 4, 2) by decide +kernel) rfl rfl ?_
          refine tr_iconst (pc' := 72) (v := (2 : Int32)) (show decode cX9_row 71 = .ok (.iconst 2, 1) by decide +kernel) rfl (by decide) ?_
          refine tr_iadd (pc' := 73) (show decode cX9_row 72 = .ok (.iadd, 1) by decide +kernel) rfl ?_
          obtain ⟨x6, ex6, h⟩ := hm_bs h
          refine tp_ldC (pc' := 74) (show decode cX9_row 73 = .ok (.caload, 1) by decide +kernel) rfl (la_a hL (by decide) rfl) ex6 ?_
          obtain ⟨x7, ex7, h⟩ := hm_bs h
          have cx7 := ok_X9_canBePerson (fr := fr - 1) (ν := ν) (by omega) x4 x5 x6 μ1 hL ex7
          refine tp_callS (pc' := 77) (As := [.int x4, .int x5, .int x6]) (fr1 := fr - 1) okm_X9_canBePerson lk_HandRing_92 (show decode cX9_row 74 = .ok (.invokestatic 92, 3) by decide +kernel) rfl rfl rfl (Nat.le_of_ble_eq_true rfl) (by omega) cx7 (st' := [.int x7]) rfl ?_
          rcases hm_is h with ⟨hc, h⟩ | ⟨hc, h⟩
          · refine tr_if_eq_t (tgt := 119) hc (show decode cX9_row 77 = .ok (.ifCond .eq 42, 3) by decide +kernel) (by decide) ?_
            exact ok_X9_row_J119 hfr w23_1 (f_X9_row_L23 w23_1 e128 n) e128 ih he128 y2 y3 y4 μ1 hL h
          · refine tr_if_eq_f (tgt := 119) (pc' := 80) hc (show decode cX9_row 77 = .ok (.ifCond .eq 42, 3) by decide +kernel) (by decide) rfl ?_
            refine tr_aload_n (pc' := 81) (show decode cX9_row 80 = .ok (.aload_n 0, 1) by decide +kernel) rfl rfl rfl ?_
            refine tr_getR (pc' := 84) fl_HandRing_12 (show decode cX9_row 81 = .ok (.getfield 12, 3) by decide +kernel) rfl (la_o hL (by decide) rfl) (la_r hL 0 rfl) ?_
            refine tr_aload_n (pc' := 85) (show decode cX9_row 84 = .ok (.aload_n 0, 1) by decide +kernel) rfl rfl rfl ?_
            refine tr_getR (pc' := 88) fl_HandRing_73 (show decode cX9_row 85 = .ok (.getfield 73, 3) by decide +kernel) rfl (la_o hL (by decide) rfl) (la_r hL 10 rfl) ?_
            refine tr_iload (pc' := 90) (show decode cX9_row 88 = .ok (.iload 4, 2) by decide +kernel) rfl rfl ?_
            obtain ⟨x8, ex8, h⟩ := hm_bs h
            refine tp_ldC (pc' := 91) (show decode cX9_row 90 = .ok (.caload, 1) by decide +kernel) rfl (la_a hL (by decide) rfl) ex8 ?_
            refine tr_aload_n (pc' := 92) (show decode cX9_row 91 = .ok (.aload_n 0, 1) by decide +kernel) rfl rfl rfl ?_
            refine tr_getR (pc' := 95) fl_HandRing_73 (show decode cX9_row 92 = .ok (.getfield 73, 3) by decide +kernel) rfl (la_o hL (by decide) rfl) (la_r hL 10 rfl) ?_
            refine tr_iload (pc' := 97) (show decode cX9_row 95 = .ok (.iload 4, 2) by decide +kernel) rfl rfl ?_
            refine tr_iconst (pc' := 98) (v := (1 : Int32)) (show decode cX9_row 97 = .ok (.iconst 1, 1) by decide +kernel) rfl (by decide) ?_
            refine tr_iadd (pc' := 99) (show decode cX9_row 98 = .ok (.iadd, 1) by decide +kernel) rfl ?_
            obtain ⟨x9, ex9, h⟩ := hm_bs h
            refine tp_ldC (pc' := 100) (show decode cX9_row 99 = .ok (.caload, 1) by decide +kernel) rfl (la_a hL (by decide) rfl) ex9 ?_
            refine tr_aload_n (pc' := 101) (show decode cX9_row 100 = .ok (.aload_n 0, 1) by decide +kernel) rfl rfl rfl ?_
            refine tr_getR (pc' := 104) fl_HandRing_73 (show decode cX9_row 101 = .ok (.getfield 73, 3) by decide +kernel) rfl (la_o hL (by decide) rfl) (la_r hL 10 rfl) ?_
            refine tr_iload (pc' := 106) (show decode cX9_row 104 = .ok (.iload 4, 2) by decide +kernel) rfl rfl ?_
            refine tr_iconst (pc' := 107) (v := (2 : Int32)) (show decode cX9_row 106 = .ok (.iconst 2, 1) by decide +kernel) rfl (by decide) ?_
            refine tr_iadd (pc' := 108) (show decode cX9_row 107 = .ok (.iadd, 1) by decide +kernel) rfl ?_
            obtain ⟨x10, ex10, h⟩ := hm_bs h
            refine tp_ldC (pc' := 109) (show decode cX9_row 108 = .ok (.caload, 1) by decide +kernel) rfl (la_a hL (by decide) rfl) ex10 ?_
            obtain ⟨x11, μ12, ex11, h⟩ := hm_b2s h
            have cx11 := ok_X8_addPerson (fr := fr - 1) (ν := ν) (by omega) 65 x8 x9 x10 (by unfold hm_V; decide) μ1 hL ex11
            refine tp_callV (pc' := 112) (As := [.int x8, .int x9, .int x10]) (fr1 := fr - 1) (ci := 8) okm_X8_addPerson lk_HandRing_106 (show decode cX9_row 109 = .ok (.invokevirtual 106, 3) by decide +kernel) rfl rfl rfl (by decide) (la_o hL (by decide) rfl) rfl rfl (Nat.le_of_ble_eq_true rfl) (by omega) cx11 (st' := [.int x11]) rfl ?_
            replace hL := cx11.1
            refine tr_pop (pc' := 113) (show decode cX9_row 112 = .ok (.pop, 1) by decide +kernel) rfl rfl ?_
            refine tr_iinc (pc' := 116) (v := y2 + (1 : Int32)) (lv' := [some (.ref 64), some (.int w23_1), some (.int (y2 + (1 : Int32))), some (.int y3), some (.int y4)]) (show decode cX9_row 113 = .ok (.iinc 2 1, 3) by decide +kernel) rfl rfl rfl (Nat.le_of_ble_eq_true rfl) rfl rfl ?_
            refine tr_goto (tgt := 122) (show decode cX9_row 116 = .ok (.goto 6, 3) by decide +kernel) rfl ?_
            exact ok_X9_row_J122 hfr w23_1 (f_X9_row_L23 w23_1 e128 n) e128 ih he128 (y2 + (1 : Int32)) y3 y4 μ12 hL h
def f_X9_row (μ : hm_M) : Option (Int32 × hm_M) :=
  hm_b2 (f_X9_emptiedTape μ) fun x2 μ3 =>
  (if x2 = 0 then
  hm_b2 (f_X9_refused (-6 : Int32) μ3) fun x19 μ20 =>
  some (x19, μ20)
  else
  f_X9_row_L23 x2 (fun z13_2 z13_3 μz13 => Option.bind (hm_pI μz13 64 15 z13_3) fun μ14 =>
  Option.bind (f_X7_clear 87 μ14) fun μ16 =>
  hm_b2 (f_X9_granted z13_2 μ16) fun x17 μ18 =>
  some (x17, μ18)) hm_fu (0 : Int32) (0 : Int32) (0 : Int32) μ3)
set_option maxRecDepth 100000 in
theorem ok_X9_row {fr : Nat} (hfr : 1 ≤ fr) {ν : hm_N} {r : Int32} {μR : hm_M}    (μ : hm_M) (hL : hm_LL ν μ) (h : f_X9_row μ = some (r, μR)) : hm_CC (hm_LL ν) m_X9_row fr 0 0 [.ref 64] μ (some (.int r)) μR := by
  refine hm_enter (lv := [some (.ref 64), none, none, none, none]) (by decide) rfl (Nat.le_of_ble_eq_true rfl) ?_
  unfold f_X9_row at h
  refine tr_aload_n (pc' := 1) (show decode cX9_row 0 = .ok (.aload_n 0, 1) by decide +kernel) rfl rfl rfl ?_
  obtain ⟨x2, μ3, ex2, h⟩ := hm_b2s h
  have cx2 := ok_X9_emptiedTape (fr := fr - 1) (ν := ν) (by omega) μ hL ex2
  refine tp_callV (pc' := 4) (As := []) (fr1 := fr - 1) (ci := 9) okm_X9_emptiedTape lk_HandRing_165 (show decode cX9_row 1 = .ok (.invokevirtual 165, 3) by decide +kernel) rfl rfl rfl (by decide) (la_o hL (by decide) rfl) rfl rfl (Nat.le_of_ble_eq_true rfl) (by omega) cx2 (st' := [.int x2]) rfl ?_
  replace hL := cx2.1
  refine tr_istore_n (pc' := 5) (lv' := [some (.ref 64), some (.int x2), none, none, none]) (show decode cX9_row 4 = .ok (.istore_n 1, 1) by decide +kernel) rfl rfl (Nat.le_of_ble_eq_true rfl) rfl rfl ?_
  refine tr_iload_n (pc' := 6) (show decode cX9_row 5 = .ok (.iload_n 1, 1) by decide +kernel) rfl rfl rfl ?_
  rcases hm_is h with ⟨hc, h⟩ | ⟨hc, h⟩
  · refine tr_if_ne_f (tgt := 16) (pc' := 9) hc (show decode cX9_row 6 = .ok (.ifCond .ne 10, 3) by decide +kernel) (by decide) rfl ?_
    refine tr_aload_n (pc' := 10) (show decode cX9_row 9 = .ok (.aload_n 0, 1) by decide +kernel) rfl rfl rfl ?_
    refine tr_bipush (pc' := 12) (v := (-6 : Int32)) (show decode cX9_row 10 = .ok (.bipush (-6), 2) by decide +kernel) rfl (by decide) ?_
    obtain ⟨x19, μ20, ex19, h⟩ := hm_b2s h
    have cx19 := ok_X9_refused (fr := fr - 1) (ν := ν) (by omega) (-6 : Int32) μ3 hL ex19
    refine tp_callV (pc' := 15) (As := [.int (-6 : Int32)]) (fr1 := fr - 1) (ci := 9) okm_X9_refused lk_HandRing_96 (show decode cX9_row 12 = .ok (.invokevirtual 96, 3) by decide +kernel) rfl rfl rfl (by decide) (la_o hL (by decide) rfl) rfl rfl (Nat.le_of_ble_eq_true rfl) (by omega) cx19 (st' := [.int x19]) rfl ?_
    replace hL := cx19.1
    cases h
    exact tr_iret rfl (show decode cX9_row 15 = .ok (.ireturn, 1) by decide +kernel) hL
  · refine tr_if_ne_t (tgt := 16) hc (show decode cX9_row 6 = .ok (.ifCond .ne 10, 3) by decide +kernel) (by decide) ?_
    refine tr_iconst (pc' := 17) (v := (0 : Int32)) (show decode cX9_row 16 = .ok (.iconst 0, 1) by decide +kernel) rfl (by decide) ?_
    refine tr_istore_n (pc' := 18) (lv' := [some (.ref 64), some (.int x2), some (.int (0 : Int32)), none, none]) (show decode cX9_row 17 = .ok (.istore_n 2, 1) by decide +kernel) rfl rfl (Nat.le_of_ble_eq_true rfl) rfl rfl ?_
    refine tr_iconst (pc' := 19) (v := (0 : Int32)) (show decode cX9_row 18 = .ok (.iconst 0, 1) by decide +kernel) rfl (by decide) ?_
    refine tr_istore_n (pc' := 20) (lv' := [some (.ref 64), some (.int x2), some (.int (0 : Int32)), some (.int (0 : Int32)), none]) (show decode cX9_row 19 = .ok (.istore_n 3, 1) by decide +kernel) rfl rfl (Nat.le_of_ble_eq_true rfl) rfl rfl ?_
    refine tr_iconst (pc' := 21) (v := (0 : Int32)) (show decode cX9_row 20 = .ok (.iconst 0, 1) by decide +kernel) rfl (by decide) ?_
    refine tr_istore (pc' := 23) (lv' := [some (.ref 64), some (.int x2), some (.int (0 : Int32)), some (.int (0 : Int32)), some (.int (0 : Int32))]) (show decode cX9_row 21 = .ok (.istore 4, 2) by decide +kernel) rfl (Nat.le_of_ble_eq_true rfl) rfl rfl ?_
    refine ok_X9_row_L23 hfr x2 _ ?_ _ (0 : Int32) (0 : Int32) (0 : Int32) μ3 hL h
    · intro z13_2 z13_3 μz13 hL h
      refine tr_aload_n (pc' := 129) (show decode cX9_row 128 = .ok (.aload_n 0, 1) by decide +kernel) rfl rfl rfl ?_
      refine tr_iload_n (pc' := 130) (show decode cX9_row 129 = .ok (.iload_n 3, 1) by decide +kernel) rfl rfl rfl ?_
      obtain ⟨μ14, eμ14, h⟩ := hm_bs h
      refine tp_pI (pc' := 133) fl_HandRing_169 (show decode cX9_row 130 = .ok (.putfield 169, 3) by decide +kernel) rfl (la_o hL (by decide) rfl) eμ14 ?_
      replace hL := hL.same (hm_pI_s eμ14)
      refine tr_aload_n (pc' := 134) (show decode cX9_row 133 = .ok (.aload_n 0, 1) by decide +kernel) rfl rfl rfl ?_
      refine tr_getR (pc' := 137) fl_HandRing_30 (show decode cX9_row 134 = .ok (.getfield 30, 3) by decide +kernel) rfl (la_o hL (by decide) rfl) (la_r hL 4 rfl) ?_
      obtain ⟨μ16, ex15, h⟩ := hm_bs h
      have cx15 := ok_X7_clear (fr := fr - 1) (ν := ν) (by omega) 87 (by unfold hm_S; decide) μ14 hL ex15
      refine tp_callV (pc' := 140) (As := []) (fr1 := fr - 1) (ci := 7) okm_X7_clear lk_HandRing_103 (show decode cX9_row 137 = .ok (.invokevirtual 103, 3) by decide +kernel) rfl rfl rfl (by decide) (la_o hL (by decide) rfl) rfl rfl (Nat.le_of_ble_eq_true rfl) (by omega) cx15 (st' := []) rfl ?_
      replace hL := cx15.1
      refine tr_aload_n (pc' := 141) (show decode cX9_row 140 = .ok (.aload_n 0, 1) by decide +kernel) rfl rfl rfl ?_
      refine tr_iload_n (pc' := 142) (show decode cX9_row 141 = .ok (.iload_n 2, 1) by decide +kernel) rfl rfl rfl ?_
      obtain ⟨x17, μ18, ex17, h⟩ := hm_b2s h
      have cx17 := ok_X9_granted (fr := fr - 1) (ν := ν) (by omega) z13_2 μ16 hL ex17
      refine tp_callV (pc' := 145) (As := [.int z13_2]) (fr1 := fr - 1) (ci := 9) okm_X9_granted lk_HandRing_110 (show decode cX9_row 142 = .ok (.invokevirtual 110, 3) by decide +kernel) rfl rfl rfl (by decide) (la_o hL (by decide) rfl) rfl rfl (Nat.le_of_ble_eq_true rfl) (by omega) cx17 (st' := [.int x17]) rfl ?_
      replace hL := cx17.1
      cases h
      exact tr_iret rfl (show decode cX9_row 145 = .ok (.ireturn, 1) by decide +kernel) hL
