def f_X10_rings (μ : hm_M) : Option (Int32 × hm_M) :=
  Option.bind (f_X10_laysRings μ) fun μ3 =>
  some (μ3.1 179 41, μ3)
set_option maxRecDepth 100000 in
theorem ok_X10_rings {fr : Nat} (hfr : 92 ≤ fr) {ν : hm_N} {r : Int32} {μR : hm_M}    (μ : hm_M) (hL : hm_LL ν μ) (h : f_X10_rings μ = some (r, μR)) : hm_CC (hm_LL ν) m_X10_rings fr 0 0 [.ref 179] μ (some (.int r)) μR := by
  refine hm_enter (lv := [some (.ref 179)]) (by decide) rfl (Nat.le_of_ble_eq_true rfl) ?_
  unfold f_X10_rings at h
  refine tr_aload_n (pc' := 1) (show decode cX10_rings 0 = .ok (.aload_n 0, 1) by decide +kernel) rfl rfl rfl ?_
  obtain ⟨μ3, ex2, h⟩ := hm_bs h
  have cx2 := ok_X10_laysRings (fr := fr - 1) (ν := ν) (by omega) μ hL ex2
  refine tp_callV (pc' := 4) (As := []) (fr1 := fr - 1) (ci := 10) okm_X10_laysRings lk_HandRingModel_448 (show decode cX10_rings 1 = .ok (.invokevirtual 448, 3) by decide +kernel) rfl rfl rfl (by decide) (la_o hL (by decide) rfl) rfl rfl (Nat.le_of_ble_eq_true rfl) (by omega) cx2 (st' := []) rfl ?_
  replace hL := cx2.1
  refine tr_aload_n (pc' := 5) (show decode cX10_rings 4 = .ok (.aload_n 0, 1) by decide +kernel) rfl rfl rfl ?_
  refine tr_getI (pc' := 8) fl_HandRingModel_433 (show decode cX10_rings 5 = .ok (.getfield 433, 3) by decide +kernel) rfl (la_o hL (by decide) rfl) ?_
  cases h
  exact tr_iret rfl (show decode cX10_rings 8 = .ok (.ireturn, 1) by decide +kernel) hL
def f_X10_seen_J14 (v1 : Int32) (v2 : Int32) (v3 : Int32) (μ1 : hm_M) : Option (Int32 × hm_M) :=
  hm_b2 (f_X10_refuses (-1 : Int32) μ1) fun x2 μ3 =>
  some (x2, μ3)
theorem ok_X10_seen_J14 {fr : Nat} (hfr : 2 ≤ fr) {ν : hm_N} {r : Int32} {μR : hm_M}  (v1 : Int32) (v2 : Int32) (v3 : Int32)     (μ1 : hm_M) (hL : hm_LL ν μ1) (h : f_X10_seen_J14 v1 v2 v3 μ1 = some (r, μR)) : hm_T (hm_LL ν) m_X10_seen fr 0 0 (some (.int r)) μR 14 [some (.ref 179), none, none, none, none] [] μ1 := by
  unfold f_X10_seen_J14 at h
  refine tr_aload_n (pc' := 15) (show decode cX10_seen 14 = .ok (.aload_n 0, 1) by decide +kernel) rfl rfl rfl ?_
  refine tr_iconst (pc' := 16) (v := (-1 : Int32)) (show decode cX10_seen 15 = .ok (.iconst (-1), 1) by decide +kernel) rfl (by decide) ?_
  obtain ⟨x2, μ3, ex2, h⟩ := hm_b2s h
  have cx2 := ok_X10_refuses (fr := fr - 1) (ν := ν) (by omega) (-1 : Int32) μ1 hL ex2
  refine tp_callV (pc' := 19) (As := [.int (-1 : Int32)]) (fr1 := fr - 1) (ci := 10) okm_X10_refuses lk_HandRingModel_112 (show decode cX10_seen 16 = .ok (.invokevirtual 112, 3) by decide +kernel) rfl rfl rfl (by decide) (la_o hL (by decide) rfl) rfl rfl (Nat.le_of_ble_eq_true rfl) (by omega) cx2 (st' := [.int x2]) rfl ?_
  replace hL := cx2.1
  cases h
  exact tr_iret rfl (show decode cX10_seen 19 = .ok (.ireturn, 1) by decide +kernel) hL
def f_X10_seen_J36 (v1 : Int32) (v2 : Int32) (v3 : Int32) (μ1 : hm_M) : Option (Int32 × hm_M) :=
  hm_b2 (f_X10_refuses (-2 : Int32) μ1) fun x6 μ7 =>
  some (x6, μ7)
theorem ok_X10_seen_J36 {fr : Nat} (hfr : 2 ≤ fr) {ν : hm_N} {r : Int32} {μR : hm_M}  (v1 : Int32) (v2 : Int32) (v3 : Int32)     (μ1 : hm_M) (hL : hm_LL ν μ1) (h : f_X10_seen_J36 v1 v2 v3 μ1 = some (r, μR)) : hm_T (hm_LL ν) m_X10_seen fr 0 0 (some (.int r)) μR 36 [some (.ref 179), none, none, none, none] [] μ1 := by
  unfold f_X10_seen_J36 at h
  refine tr_aload_n (pc' := 37) (show decode cX10_seen 36 = .ok (.aload_n 0, 1) by decide +kernel) rfl rfl rfl ?_
  refine tr_bipush (pc' := 39) (v := (-2 : Int32)) (show decode cX10_seen 37 = .ok (.bipush (-2), 2) by decide +kernel) rfl (by decide) ?_
  obtain ⟨x6, μ7, ex6, h⟩ := hm_b2s h
  have cx6 := ok_X10_refuses (fr := fr - 1) (ν := ν) (by omega) (-2 : Int32) μ1 hL ex6
  refine tp_callV (pc' := 42) (As := [.int (-2 : Int32)]) (fr1 := fr - 1) (ci := 10) okm_X10_refuses lk_HandRingModel_112 (show decode cX10_seen 39 = .ok (.invokevirtual 112, 3) by decide +kernel) rfl rfl rfl (by decide) (la_o hL (by decide) rfl) rfl rfl (Nat.le_of_ble_eq_true rfl) (by omega) cx6 (st' := [.int x6]) rfl ?_
  replace hL := cx6.1
  cases h
  exact tr_iret rfl (show decode cX10_seen 42 = .ok (.ireturn, 1) by decide +kernel) hL
def f_X10_seen (v1 : Int32) (v2 : Int32) (v3 : Int32) (μ : hm_M) : Option (Int32 × hm_M) :=
  (if v1 = v2 then
  f_X10_seen_J14 v1 v2 v3 μ
  else
  Option.bind (f_X10_lies v3 (0 : Int32) (1 : Int32)) fun x4 =>
  (if x4 = 0 then
  f_X10_seen_J14 v1 v2 v3 μ
  else
  Option.bind (f_X10_isPerson v1 μ) fun x5 =>
  (if x5 = 0 then
  f_X10_seen_J36 v1 v2 v3 μ
  else
  Option.bind (f_X10_isPerson v2 μ) fun x8 =>
  (if x8 = 0 then
  f_X10_seen_J36 v1 v2 v3 μ
  else
  Option.bind (hm_ld μ 181 5665 (55 : Int32)) fun x9 =>
  Option.bind (some ((33 : Int32) + ((3 : Int32) * x9))) fun x10 =>
  Option.bind (hm_ld μ 181 5665 (55 : Int32)) fun x11 =>
  (if x11 = (6 : Int32) then
  hm_b2 (f_X10_refuses (-5 : Int32) μ) fun x20 μ21 =>
  some (x20, μ21)
  else
  Option.bind (hm_sd μ 181 5665 x10 v1) fun μ12 =>
  Option.bind (hm_sd μ12 181 5665 (x10 + (1 : Int32)) v2) fun μ13 =>
  Option.bind (hm_sd μ13 181 5665 (x10 + (2 : Int32)) v3) fun μ14 =>
  Option.bind (hm_ld μ14 181 5665 (55 : Int32)) fun x15 =>
  Option.bind (hm_sd μ14 181 5665 (55 : Int32) (x15 + (1 : Int32))) fun μ16 =>
  Option.bind (hm_ld μ16 181 5665 (55 : Int32)) fun x17 =>
  hm_b2 (f_X10_good x17 μ16) fun x18 μ19 =>
  some (x18, μ19))))))
set_option maxRecDepth 100000 in
theorem ok_X10_seen {fr : Nat} (hfr : 2 ≤ fr) {ν : hm_N} {r : Int32} {μR : hm_M}  (v1 : Int32) (v2 : Int32) (v3 : Int32)  (μ : hm_M) (hL : hm_LL ν μ) (h : f_X10_seen v1 v2 v3 μ = some (r, μR)) : hm_CC (hm_LL ν) m_X10_seen fr 0 0 [.ref 179, .int v1, .int v2, .int v3] μ (some (.int r)) μR := by
  refine hm_enter (lv := [some (.ref 179), some (.int v1), some (.int v2), some (.int v3), none]) (by decide) rfl (Nat.le_of_ble_eq_true rfl) ?_
  unfold f_X10_seen at h
  refine tr_iload_n (pc' := 1) (show decode cX10_seen 0 = .ok (.iload_n 1, 1) by decide +kernel) rfl rfl rfl ?_
  refine tr_iload_n (pc' := 2) (show decode cX10_seen 1 = .ok (.iload_n 2, 1) by decide +kernel) rfl rfl rfl ?_
  rcases hm_is h with ⟨hc, h⟩ | ⟨hc, h⟩
  · refine tr_icmp_eq_t (tgt := 14) hc (show decode cX10_seen 2 = .ok (.if_icmp .eq 12, 3) by decide +kernel) (by decide) ?_
    refine hm_fgt [true, false, false, false, false] (lv' := [some (.ref 179), none, none, none, none]) rfl ?_
    exact ok_X10_seen_J14 hfr _ _ _ μ hL h
  · refine tr_icmp_eq_f (tgt := 14) (pc' := 5) hc (show decode cX10_seen 2 = .ok (.if_icmp .eq 12, 3) by decide +kernel) (by decide) rfl ?_
    refine tr_iload_n (pc' := 6) (show decode cX10_seen 5 = .ok (.iload_n 3, 1) by decide +kernel) rfl rfl rfl ?_
    refine tr_iconst (pc' := 7) (v := (0 : Int32)) (show decode cX10_seen 6 = .ok (.iconst 0, 1) by decide +kernel) rfl (by decide) ?_
    refine tr_iconst (pc' := 8) (v := (1 : Int32)) (show decode cX10_seen 7 = .ok (.iconst 1, 1) by decide +kernel) rfl (by decide) ?_
    obtain ⟨x4, ex4, h⟩ := hm_bs h
    have cx4 := ok_X10_lies (fr := fr - 1) (ν := ν) (by omega) v3 (0 : Int32) (1 : Int32) μ hL ex4
    refine tp_callS (pc' := 11) (As := [.int v3, .int (0 : Int32), .int (1 : Int32)]) (fr1 := fr - 1) okm_X10_lies lk_HandRingModel_108 (show decode cX10_seen 8 = .ok (.invokestatic 108, 3) by decide +kernel) rfl rfl rfl (Nat.le_of_ble_eq_true rfl) (by omega) cx4 (st' := [.int x4]) rfl ?_
    rcases hm_is h with ⟨hc, h⟩ | ⟨hc, h⟩
    · refine tr_if_ne_f (tgt := 20) (pc' := 14) hc (show decode cX10_seen 11 = .ok (.ifCond .ne 9, 3) by decide +kernel) (by decide) rfl ?_
      refine hm_fgt [true, false, false, false, false] (lv' := [some (.ref 179), none, none, none, none]) rfl ?_
      exact ok_X10_seen_J14 hfr _ _ _ μ hL h
    · refine tr_if_ne_t (tgt := 20) hc (show decode cX10_seen 11 = .ok (.ifCond .ne 9, 3) by decide +kernel) (by decide) ?_
      refine tr_aload_n (pc' := 21) (show decode cX10_seen 20 = .ok (.aload_n 0, 1) by decide +kernel) rfl rfl rfl ?_
      refine tr_iload_n (pc' := 22) (show decode cX10_seen 21 = .ok (.iload_n 1, 1) by decide +kernel) rfl rfl rfl ?_
      obtain ⟨x5, ex5, h⟩ := hm_bs h
      have cx5 := ok_X10_isPerson (fr := fr - 1) (ν := ν) (by omega) v1 μ hL ex5
      refine tp_callV (pc' := 25) (As := [.int v1]) (fr1 := fr - 1) (ci := 10) okm_X10_isPerson lk_HandRingModel_122 (show decode cX10_seen 22 = .ok (.invokevirtual 122, 3) by decide +kernel) rfl rfl rfl (by decide) (la_o hL (by decide) rfl) rfl rfl (Nat.le_of_ble_eq_true rfl) (by omega) cx5 (st' := [.int x5]) rfl ?_
      rcases hm_is h with ⟨hc, h⟩ | ⟨hc, h⟩
      · refine tr_if_eq_t (tgt := 36) hc (show decode cX10_seen 25 = .ok (.ifCond .eq 11, 3) by decide +kernel) (by decide) ?_
        refine hm_fgt [true, false, false, false, false] (lv' := [some (.ref 179), none, none, none, none]) rfl ?_
        exact ok_X10_seen_J36 hfr _ _ _ μ hL h
      · refine tr_if_eq_f (tgt := 36) (pc' := 28) hc (show decode cX10_seen 25 = .ok (.ifCond .eq 11, 3) by decide +kernel) (by decide) rfl ?_
        refine tr_aload_n (pc' := 29) (show decode cX10_seen 28 = .ok (.aload_n 0, 1) by decide +kernel) rfl rfl rfl ?_
        refine tr_iload_n (pc' := 30) (show decode cX10_seen 29 = .ok (.iload_n 2, 1) by decide +kernel) rfl rfl rfl ?_
        obtain ⟨x8, ex8, h⟩ := hm_bs h
        have cx8 := ok_X10_isPerson (fr := fr - 1) (ν := ν) (by omega) v2 μ hL ex8
        refine tp_callV (pc' := 33) (As := [.int v2]) (fr1 := fr - 1) (ci := 10) okm_X10_isPerson lk_HandRingModel_122 (show decode cX10_seen 30 = .ok (.invokevirtual 122, 3) by decide +kernel) rfl rfl rfl (by decide) (la_o hL (by decide) rfl) rfl rfl (Nat.le_of_ble_eq_true rfl) (by omega) cx8 (st' := [.int x8]) rfl ?_
        rcases hm_is h with ⟨hc, h⟩ | ⟨hc, h⟩
        · refine tr_if_ne_f (tgt := 43) (pc' := 36) hc (show decode cX10_seen 33 = .ok (.ifCond .ne 10, 3) by decide +kernel) (by decide) rfl ?_
          refine hm_fgt [true, false, false, false, false] (lv' := [some (.ref 179), none, none, none, none]) rfl ?_
          exact ok_X10_seen_J36 hfr _ _ _ μ hL h
        · refine tr_if_ne_t (tgt := 43) hc (show decode cX10_seen 33 = .ok (.ifCond .ne 10, 3) by decide +kernel) (by decide) ?_
          refine tr_bipush (pc' := 45) (v := (33 : Int32)) (show decode cX10_seen 43 = .ok (.bipush 33, 2) by decide +kernel) rfl (by decide) ?_
          refine tr_iconst (pc' := 46) (v := (3 : Int32)) (show decode cX10_seen 45 = .ok (.iconst 3, 1) by decide +kernel) rfl (by decide) ?_
          refine tr_aload_n (pc' := 47) (show decode cX10_seen 46 = .ok (.aload_n 0, 1) by decide +kernel) rfl rfl rfl ?_
          refine tr_getR (pc' := 50) fl_HandRingModel_24 (show decode cX10_seen 47 = .ok (.getfield 24, 3) by decide +kernel) rfl (la_o hL (by decide) rfl) (la_r hL 118 rfl) ?_
          refine tr_bipush (pc' := 52) (v := (55 : Int32)) (show decode cX10_seen 50 = .ok (.bipush 55, 2) by decide +kernel) rfl (by decide) ?_
          obtain ⟨x9, ex9, h⟩ := hm_bs h
          refine tp_ldI (pc' := 53) (show decode cX10_seen 52 = .ok (.iaload, 1) by decide +kernel) rfl (la_a hL (by decide) rfl) ex9 ?_
          refine tr_imul (pc' := 54) (show decode cX10_seen 53 = .ok (.imul, 1) by decide +kernel) rfl ?_
          refine tr_iadd (pc' := 55) (show decode cX10_seen 54 = .ok (.iadd, 1) by decide +kernel) rfl ?_
          obtain ⟨x10, ex10, h⟩ := hm_bs h
          have ex10 := Option.some.inj ex10
          rw [ex10]
          refine tr_istore (pc' := 57) (lv' := [some (.ref 179), some (.int v1), some (.int v2), some (.int v3), some (.int x10)]) (show decode cX10_seen 55 = .ok (.istore 4, 2) by decide +kernel) rfl (Nat.le_of_ble_eq_true rfl) rfl rfl ?_
          refine tr_aload_n (pc' := 58) (show decode cX10_seen 57 = .ok (.aload_n 0, 1) by decide +kernel) rfl rfl rfl ?_
          refine tr_getR (pc' := 61) fl_HandRingModel_24 (show decode cX10_seen 58 = .ok (.getfield 24, 3) by decide +kernel) rfl (la_o hL (by decide) rfl) (la_r hL 118 rfl) ?_
          refine tr_bipush (pc' := 63) (v := (55 : Int32)) (show decode cX10_seen 61 = .ok (.bipush 55, 2) by decide +kernel) rfl (by decide) ?_
          obtain ⟨x11, ex11, h⟩ := hm_bs h
          refine tp_ldI (pc' := 64) (show decode cX10_seen 63 = .ok (.iaload, 1) by decide +kernel) rfl (la_a hL (by decide) rfl) ex11 ?_
          refine tr_bipush (pc' := 66) (v := (6 : Int32)) (show decode cX10_seen 64 = .ok (.bipush 6, 2) by decide +kernel) rfl (by decide) ?_
          rcases hm_is h with ⟨hc, h⟩ | ⟨hc, h⟩
          · refine tr_icmp_ne_f (tgt := 76) (pc' := 69) hc (show decode cX10_seen 66 = .ok (.if_icmp .ne 10, 3) by decide +kernel) (by decide) rfl ?_
            refine tr_aload_n (pc' := 70) (show decode cX10_seen 69 = .ok (.aload_n 0, 1) by decide +kernel) rfl rfl rfl ?_
            refine tr_bipush (pc' := 72) (v := (-5 : Int32)) (show decode cX10_seen 70 = .ok (.bipush (-5), 2) by decide +kernel) rfl (by decide) ?_
            obtain ⟨x20, μ21, ex20, h⟩ := hm_b2s h
            have cx20 := ok_X10_refuses (fr := fr - 1) (ν := ν) (by omega) (-5 : Int32) μ hL ex20
            refine tp_callV (pc' := 75) (As := [.int (-5 : Int32)]) (fr1 := fr - 1) (ci := 10) okm_X10_refuses lk_HandRingModel_112 (show decode cX10_seen 72 = .ok (.invokevirtual 112, 3) by decide +kernel) rfl rfl rfl (by decide) (la_o hL (by decide) rfl) rfl rfl (Nat.le_of_ble_eq_true rfl) (by omega) cx20 (st' := [.int x20]) rfl ?_
            replace hL := cx20.1
            cases h
            exact tr_iret rfl (show decode cX10_seen 75 = .ok (.ireturn, 1) by decide +kernel) hL
          · refine tr_icmp_ne_t (tgt := 76) hc (show decode cX10_seen 66 = .ok (.if_icmp .ne 10, 3) by decide +kernel) (by decide) ?_
            refine tr_aload_n (pc' := 77) (show decode cX10_seen 76 = .ok (.aload_n 0, 1) by decide +kernel) rfl rfl rfl ?_
            refine tr_getR (pc' := 80) fl_HandRingModel_24 (show decode cX10_seen 77 = .ok (.getfield 24, 3) by decide +kernel) rfl (la_o hL (by decide) rfl) (la_r hL 118 rfl) ?_
            refine tr_iload (pc' := 82) (show decode cX10_seen 80 = .ok (.iload 4, 2) by decide +kernel) rfl rfl ?_
            refine tr_iload_n (pc' := 83) (show decode cX10_seen 82 = .ok (.iload_n 1, 1) by decide +kernel) rfl rfl rfl ?_
            obtain ⟨μ12, eμ12, h⟩ := hm_bs h
            refine tp_sdI (pc' := 84) (show decode cX10_seen 83 = .ok (.iastore, 1) by decide +kernel) rfl (la_a hL (by decide) rfl) eμ12 ?_
            replace hL := hL.same (hm_sd_s eμ12)
            refine tr_aload_n (pc' := 85) (show decode cX10_seen 84 = .ok (.aload_n 0, 1) by decide +kernel) rfl rfl rfl ?_
            refine tr_getR (pc' := 88) fl_HandRingModel_24 (show decode cX10_seen 85 = .ok (.getfield 24, 3) by decide +kernel) rfl (la_o hL (by decide) rfl) (la_r hL 118 rfl) ?_
            refine tr_iload (pc' := 90) (show decode cX10_seen 88 = .ok (.iload 4, 2) by decide +kernel) rfl rfl ?_
            refine tr_iconst (pc' := 91) (v := (1 : Int32)) (show decode cX10_seen 90 = .ok (.iconst 1, 1) by decide +kernel) rfl (by decide) ?_
            refine tr_iadd (pc' := 92) (show decode cX10_seen 91 = .ok (.iadd, 1) by decide +kernel) rfl ?_
            refine tr_iload_n (pc' := 93) (show decode cX10_seen 92 = .ok (.iload_n 2, 1) by decide +kernel) rfl rfl rfl ?_
            obtain ⟨μ13, eμ13, h⟩ := hm_bs h
            refine tp_sdI (pc' := 94) (show decode cX10_seen 93 = .ok (.iastore, 1) by decide +kernel) rfl (la_a hL (by decide) rfl) eμ13 ?_
            replace hL := hL.same (hm_sd_s eμ13)
            refine tr_aload_n (pc' := 95) (show decode cX10_seen 94 = .ok (.aload_n 0, 1) by decide +kernel) rfl rfl rfl ?_
            refine tr_getR (pc' := 98) fl_HandRingModel_24 (show decode cX10_seen 95 = .ok (.getfield 24, 3) by decide +kernel) rfl (la_o hL (by decide) rfl) (la_r hL 118 rfl) ?_
            refine tr_iload (pc' := 100) (show decode cX10_seen 98 = .ok (.iload 4, 2) by decide +kernel) rfl rfl ?_
            refine tr_iconst (pc' := 101) (v := (2 : Int32)) (show decode cX10_seen 100 = .ok (.iconst 2, 1) by decide +kernel) rfl (by decide) ?_
            refine tr_iadd (pc' := 102) (show decode cX10_seen 101 = .ok (.iadd, 1) by decide +kernel) rfl ?_
            refine tr_iload_n (pc' := 103) (show decode cX10_seen 102 = .ok (.iload_n 3, 1) by decide +kernel) rfl rfl rfl ?_
            obtain ⟨μ14, eμ14, h⟩ := hm_bs h
            refine tp_sdI (pc' := 104) (show decode cX10_seen 103 = .ok (.iastore, 1) by decide +kernel) rfl (la_a hL (by decide) rfl) eμ14 ?_
            replace hL := hL.same (hm_sd_s eμ14)
            refine tr_aload_n (pc' := 105) (show decode cX10_seen 104 = .ok (.aload_n 0, 1) by decide +kernel) rfl rfl rfl ?_
            refine tr_getR (pc' := 108) fl_HandRingModel_24 (show decode cX10_seen 105 = .ok (.getfield 24, 3) by decide +kernel) rfl (la_o hL (by decide) rfl) (la_r hL 118 rfl) ?_
            refine tr_bipush (pc' := 110) (v := (55 : Int32)) (show decode cX10_seen 108 = .ok (.bipush 55, 2) by decide +kernel) rfl (by decide) ?_
            refine tr_dup2 (pc' := 111) (show decode cX10_seen 110 = .ok (.dup2, 1) by decide +kernel) rfl rfl rfl ?_
            obtain ⟨x15, ex15, h⟩ := hm_bs h
            refine tp_ldI (pc' := 112) (show decode cX10_seen 111 = .ok (.iaload, 1) by decide +kernel) rfl (la_a hL (by decide) rfl) ex15 ?_
            refine tr_iconst (pc' := 113) (v := (1 : Int32)) (show decode cX10_seen 112 = .ok (.iconst 1, 1) by decide +kernel) rfl (by decide) ?_
            refine tr_iadd (pc' := 114) (show decode cX10_seen 113 = .ok (.iadd, 1) by decide +kernel) rfl ?_
            obtain ⟨μ16, eμ16, h⟩ := hm_bs h
            refine tp_sdI (pc' := 115) (show decode cX10_seen 114 = .ok (.iastore, 1) by decide +kernel) rfl (la_a hL (by decide) rfl) eμ16 ?_
            replace hL := hL.same (hm_sd_s eμ16)
            refine tr_aload_n (pc' := 116) (show decode cX10_seen 115 = .ok (.aload_n 0, 1) by decide +kernel) rfl rfl rfl ?_
            refine tr_aload_n (pc' := 117) (show decode cX10_seen 116 = .ok (.aload_n 0, 1) by decide +kernel) rfl rfl rfl ?_
            refine tr_getR (pc' := 120) fl_HandRingModel_24 (show decode cX10_seen 117 = .ok (.getfield 24, 3) by decide +kernel) rfl (la_o hL (by decide) rfl) (la_r hL 118 rfl) ?_
            refine tr_bipush (pc' := 122) (v := (55 : Int32)) (show decode cX10_seen 120 = .ok (.bipush 55, 2) by decide +kernel) rfl (by decide) ?_
            obtain ⟨x17, ex17, h⟩ := hm_bs h
            refine tp_ldI (pc' := 123) (show decode cX10_seen 122 = .ok (.iaload, 1) by decide +kernel) rfl (la_a hL (by decide) rfl) ex17 ?_
            obtain ⟨x18, μ19, ex18, h⟩ := hm_b2s h
            have cx18 := ok_X10_good (fr := fr - 1) (ν := ν) (by omega) x17 μ16 hL ex18
            refine tp_callV (pc' := 126) (As := [.int x17]) (fr1 := fr - 1) (ci := 10) okm_X10_good lk_HandRingModel_14 (show decode cX10_seen 123 = .ok (.invokevirtual 14, 3) by decide +kernel) rfl rfl rfl (by decide) (la_o hL (by decide) rfl) rfl rfl (Nat.le_of_ble_eq_true rfl) (by omega) cx18 (st' := [.int x18]) rfl ?_
            replace hL := cx18.1
            cases h
            exact tr_iret rfl (show decode cX10_seen 126 = .ok (.ireturn, 1) by decide +kernel) hL
def f_X10_forget (μ : hm_M) : Option (Int32 × hm_M) :=
  Option.bind (hm_ld μ 181 5665 (55 : Int32)) fun x2 =>
  Option.bind (hm_sd μ 181 5665 (55 : Int32) (0 : Int32)) fun μ3 =>
  some (x2, μ3)
set_option maxRecDepth 100000 in
theorem ok_X10_forget {fr : Nat} (hfr : 0 ≤ fr) {ν : hm_N} {r : Int32} {μR : hm_M}    (μ : hm_M) (hL : hm_LL ν μ) (h : f_X10_forget μ = some (r, μR)) : hm_CC (hm_LL ν) m_X10_forget fr 0 0 [.ref 179] μ (some (.int r)) μR := by
  refine hm_enter (lv := [some (.ref 179), none]) (by decide) rfl (Nat.le_of_ble_eq_true rfl) ?_
  unfold f_X10_forget at h
  refine tr_aload_n (pc' := 1) (show decode cX10_forget 0 = .ok (.aload_n 0, 1) by decide +kernel) rfl rfl rfl ?_
  refine tr_getR (pc' := 4) fl_HandRingModel_24 (show decode cX10_forget 1 = .ok (.getfield 24, 3) by decide +kernel) rfl (la_o hL (by decide) rfl) (la_r hL 118 rfl) ?_
  refine tr_bipush (pc' := 6) (v := (55 : Int32)) (show decode cX10_forget 4 = .ok (.bipush 55, 2) by decide +kernel) rfl (by decide) ?_
  obtain ⟨x2, ex2, h⟩ := hm_bs h
  refine tp_ldI (pc' := 7) (show decode cX10_forget 6 = .ok (.iaload, 1) by decide +kernel) rfl (la_a hL (by decide) rfl) ex2 ?_
  refine tr_istore_n (pc' := 8) (lv' := [some (.ref 179), some (.int x2)]) (show decode cX10_forget 7 = .ok (.istore_n 1, 1) by decide +kernel) rfl rfl (Nat.le_of_ble_eq_true rfl) rfl rfl ?_
  refine tr_aload_n (pc' := 9) (show decode cX10_forget 8 = .ok (.aload_n 0, 1) by decide +kernel) rfl rfl rfl ?_
  refine tr_getR (pc' := 12) fl_HandRingModel_24 (show decode cX10_forget 9 = .ok (.getfield 24, 3) by decide +kernel) rfl (la_o hL (by decide) rfl) (la_r hL 118 rfl) ?_
  refine tr_bipush (pc' := 14) (v := (55 : Int32)) (show decode cX10_forget 12 = .ok (.bipush 55, 2) by decide +kernel) rfl (by decide) ?_
  refine tr_iconst (pc' := 15) (v := (0 : Int32)) (show decode cX10_forget 14 = .ok (.iconst 0, 1) by decide +kernel) rfl (by decide) ?_
  obtain ⟨μ3, eμ3, h⟩ := hm_bs h
  refine tp_sdI (pc' := 16) (show decode cX10_forget 15 = .ok (.iastore, 1) by decide +kernel) rfl (la_a hL (by decide) rfl) eμ3 ?_
  replace hL := hL.same (hm_sd_s eμ3)
  refine tr_iload_n (pc' := 17) (show decode cX10_forget 16 = .ok (.iload_n 1, 1) by decide +kernel) rfl rfl rfl ?_
  cases h
  exact tr_iret rfl (show decode cX10_forget 17 = .ok (.ireturn, 1) by decide +kernel) hL
def f_X10_fits (v1 : Int32) (μ : hm_M) : Option (Int32 × hm_M) :=
  Option.bind (f_X10_many μ) fun x2 =>
  Option.bind (f_X10_lies v1 (0 : Int32) x2) fun x3 =>
  (if x3 = 0 then
  some ((-1 : Int32), μ)
  else
  Option.bind (f_X10_laysRings μ) fun μ5 =>
  (if v1 = 0 then
  some (μ5.1 179 42, μ5)
  else
  (if (μ5.1 179 42) = 0 then
  some ((-1 : Int32), μ5)
  else
  Option.bind (hm_ld μ5 198 8 (v1 - (1 : Int32))) fun x6 =>
  some (x6, μ5))))
set_option maxRecDepth 100000 in
theorem ok_X10_fits {fr : Nat} (hfr : 92 ≤ fr) {ν : hm_N} {r : Int32} {μR : hm_M}  (v1 : Int32)  (μ : hm_M) (hL : hm_LL ν μ) (h : f_X10_fits v1 μ = some (r, μR)) : hm_CC (hm_LL ν) m_X10_fits fr 0 0 [.ref 179, .int v1] μ (some (.int r)) μR := by
  refine hm_enter (lv := [some (.ref 179), some (.int v1)]) (by decide) rfl (Nat.le_of_ble_eq_true rfl) ?_
  unfold f_X10_fits at h
  refine tr_iload_n (pc' := 1) (show decode cX10_fits 0 = .ok (.iload_n 1, 1) by decide +kernel) rfl rfl rfl ?_
  refine tr_iconst (pc' := 2) (v := (0 : Int32)) (show decode cX10_fits 1 = .ok (.iconst 0, 1) by decide +kernel) rfl (by decide) ?_
  refine tr_aload_n (pc' := 3) (show decode cX10_fits 2 = .ok (.aload_n 0, 1) by decide +kernel) rfl rfl rfl ?_
  obtain ⟨x2, ex2, h⟩ := hm_bs h
  have cx2 := ok_X10_many (fr := fr - 1) (ν := ν) (by omega) μ hL ex2
  refine tp_callV (pc' := 6) (As := []) (fr1 := fr - 1) (ci := 10) okm_X10_many lk_HandRingModel_118 (show decode cX10_fits 3 = .ok (.invokevirtual 118, 3) by decide +kernel) rfl rfl rfl (by decide) (la_o hL (by decide) rfl) rfl rfl (Nat.le_of_ble_eq_true rfl) (by omega) cx2 (st' := [.int x2, .int (0 : Int32), .int v1]) rfl ?_
  obtain ⟨x3, ex3, h⟩ := hm_bs h
  have cx3 := ok_X10_lies (fr := fr - 1) (ν := ν) (by omega) v1 (0 : Int32) x2 μ hL ex3
  refine tp_callS (pc' := 9) (As := [.int v1, .int (0 : Int32), .int x2]) (fr1 := fr - 1) okm_X10_lies lk_HandRingModel_108 (show decode cX10_fits 6 = .ok (.invokestatic 108, 3) by decide +kernel) rfl rfl rfl (Nat.le_of_ble_eq_true rfl) (by omega) cx3 (st' := [.int x3]) rfl ?_
  rcases hm_is h with ⟨hc, h⟩ | ⟨hc, h⟩
  · refine tr_if_ne_f (tgt := 14) (pc' := 12) hc (show decode cX10_fits 9 = .ok (.ifCond .ne 5, 3) by decide +kernel) (by decide) rfl ?_
    refine tr_iconst (pc' := 13) (v := (-1 : Int32)) (show decode cX10_fits 12 = .ok (.iconst (-1), 1) by decide +kernel) rfl (by decide) ?_
    cases h
    exact tr_iret rfl (show decode cX10_fits 13 = .ok (.ireturn, 1) by decide +kernel) hL
  · refine tr_if_ne_t (tgt := 14) hc (show decode cX10_fits 9 = .ok (.ifCond .ne 5, 3) by decide +kernel) (by decide) ?_
    refine tr_aload_n (pc' := 15) (show decode cX10_fits 14 = .ok (.aload_n 0, 1) by decide +kernel) rfl rfl rfl ?_
    obtain ⟨μ5, ex4, h⟩ := hm_bs h
    have cx4 := ok_X10_laysRings (fr := fr - 1) (ν := ν) (by omega) μ hL ex4
    refine tp_callV (pc' := 18) (As := []) (fr1 := fr - 1) (ci := 10) okm_X10_laysRings lk_HandRingModel_448 (show decode cX10_fits 15 = .ok (.invokevirtual 448, 3) by decide +kernel) rfl rfl rfl (by decide) (la_o hL (by decide) rfl) rfl rfl (Nat.le_of_ble_eq_true rfl) (by omega) cx4 (st' := []) rfl ?_
    replace hL := cx4.1
    refine tr_iload_n (pc' := 19) (show decode cX10_fits 18 = .ok (.iload_n 1, 1) by decide +kernel) rfl rfl rfl ?_
    rcases hm_is h with ⟨hc, h⟩ | ⟨hc, h⟩
    · refine tr_if_ne_f (tgt := 29) (pc' := 22) hc (show decode cX10_fits 19 = .ok (.ifCond .ne 10, 3) by decide +kernel) (by decide) rfl ?_
      refine tr_aload_n (pc' := 23) (show decode cX10_fits 22 = .ok (.aload_n 0, 1) by decide +kernel) rfl rfl rfl ?_
      refine tr_getI (pc' := 26) fl_HandRingModel_439 (show decode cX10_fits 23 = .ok (.getfield 439, 3) by decide +kernel) rfl (la_o hL (by decide) rfl) ?_
      refine tr_goto (tgt := 48) (show decode cX10_fits 26 = .ok (.goto 22, 3) by decide +kernel) rfl ?_
      cases h
      exact tr_iret rfl (show decode cX10_fits 48 = .ok (.ireturn, 1) by decide +kernel) hL
    · refine tr_if_ne_t (tgt := 29) hc (show decode cX10_fits 19 = .ok (.ifCond .ne 10, 3) by decide +kernel) (by decide) ?_
      refine tr_aload_n (pc' := 30) (show decode cX10_fits 29 = .ok (.aload_n 0, 1) by decide +kernel) rfl rfl rfl ?_
      refine tr_getI (pc' := 33) fl_HandRingModel_439 (show decode cX10_fits 30 = .ok (.getfield 439, 3) by decide +kernel) rfl (la_o hL (by decide) rfl) ?_
      rcases hm_is h with ⟨hc, h⟩ | ⟨hc, h⟩
      · refine tr_if_ne_f (tgt := 40) (pc' := 36) hc (show decode cX10_fits 33 = .ok (.ifCond .ne 7, 3) by decide +kernel) (by decide) rfl ?_
        refine tr_iconst (pc' := 37) (v := (-1 : Int32)) (show decode cX10_fits 36 = .ok (.iconst (-1), 1) by decide +kernel) rfl (by decide) ?_
        refine tr_goto (tgt := 48) (show decode cX10_fits 37 = .ok (.goto 11, 3) by decide +kernel) rfl ?_
        cases h
        exact tr_iret rfl (show decode cX10_fits 48 = .ok (.ireturn, 1) by decide +kernel) hL
      · refine tr_if_ne_t (tgt := 40) hc (show decode cX10_fits 33 = .ok (.ifCond .ne 7, 3) by decide +kernel) (by decide) ?_
        refine tr_aload_n (pc' := 41) (show decode cX10_fits 40 = .ok (.aload_n 0, 1) by decide +kernel) rfl rfl rfl ?_
        refine tr_getR (pc' := 44) fl_HandRingModel_80 (show decode cX10_fits 41 = .ok (.getfield 80, 3) by decide +kernel) rfl (la_o hL (by decide) rfl) (la_r hL 135 rfl) ?_
        refine tr_iload_n (pc' := 45) (show decode cX10_fits 44 = .ok (.iload_n 1, 1) by decide +kernel) rfl rfl rfl ?_
        refine tr_iconst (pc' := 46) (v := (1 : Int32)) (show decode cX10_fits 45 = .ok (.iconst 1, 1) by decide +kernel) rfl (by decide) ?_
        refine tr_isub (pc' := 47) (show decode cX10_fits 46 = .ok (.isub, 1) by decide +kernel) rfl ?_
        obtain ⟨x6, ex6, h⟩ := hm_bs h
        refine tp_ldI (pc' := 48) (show decode cX10_fits 47 = .ok (.iaload, 1) by decide +kernel) rfl (la_a hL (by decide) rfl) ex6 ?_
        cases h
        exact tr_iret rfl (show decode cX10_fits 48 = .ok (.ireturn, 1) by decide +kernel) hL
def f_X10_ask_J104 (v1 : Int32) (w45_4 : Int32) (c23 : Int32 → Int32 → Int32 → hm_M → Option (Int32 × hm_M)) (e116 : Int32 → Int32 → hm_M → Option (Int32 × hm_M)) (c45 : Int32 → Int32 → Int32 → hm_M → Option (Int32 × hm_M)) (e110 : Int32 → Int32 → hm_M → Option (Int32 × hm_M)) (y2 : Int32) (y3 : Int32) (y5 : Int32) (μ1 : hm_M) : Option (Int32 × hm_M) :=
  c45 y2 y3 (y5 + (1 : Int32)) μ1
theorem ok_X10_ask_J104 {fr : Nat} (hfr : 92 ≤ fr) {ν : hm_N} {r : Int32} {μR : hm_M}  (v1 : Int32) (w45_4 : Int32) (c23 : Int32 → Int32 → Int32 → hm_M → Option (Int32 × hm_M)) (e116 : Int32 → Int32 → hm_M → Option (Int32 × hm_M)) (c45 : Int32 → Int32 → Int32 → hm_M → Option (Int32 × hm_M)) (e110 : Int32 → Int32 → hm_M → Option (Int32 × hm_M)) (hc23 : ∀ (y2 : Int32) (y3 : Int32) (y4 : Int32)  (μ1 : hm_M), hm_LL ν μ1 → c23 y2 y3 y4 μ1 = some (r, μR) → hm_T (hm_LL ν) m_X10_ask fr 0 0 (some (.int r)) μR 23 [some (.ref 179), some (.int v1), some (.int y2), some (.int y3), some (.int y4), none, none, none] [] μ1) (he116 : ∀ (y2 : Int32) (y3 : Int32)  (μ1 : hm_M), hm_LL ν μ1 → e116 y2 y3 μ1 = some (r, μR) → hm_T (hm_LL ν) m_X10_ask fr 0 0 (some (.int r)) μR 116 [none, some (.int v1), some (.int y2), some (.int y3), none, none, none, none] [] μ1) (hc45 : ∀ (y2 : Int32) (y3 : Int32) (y5 : Int32)  (μ1 : hm_M), hm_LL ν μ1 → c45 y2 y3 y5 μ1 = some (r, μR) → hm_T (hm_LL ν) m_X10_ask fr 0 0 (some (.int r)) μR 45 [some (.ref 179), some (.int v1), some (.int y2), some (.int y3), some (.int w45_4), some (.int y5), none, none] [] μ1) (he110 : ∀ (y2 : Int32) (y3 : Int32)  (μ1 : hm_M), hm_LL ν μ1 → e110 y2 y3 μ1 = some (r, μR) → hm_T (hm_LL ν) m_X10_ask fr 0 0 (some (.int r)) μR 110 [some (.ref 179), some (.int v1), some (.int y2), some (.int y3), some (.int w45_4), none, none, none] [] μ1)  (y2 : Int32) (y3 : Int32) (y5 : Int32) (μ1 : hm_M) (hL : hm_LL ν μ1) (h : f_X10_ask_J104 v1 w45_4 c23 e116 c45 e110 y2 y3 y5 μ1 = some (r, μR)) : hm_T (hm_LL ν) m_X10_ask fr 0 0 (some (.int r)) μR 104 [some (.ref 179), some (.int v1), some (.int y2), some (.int y3), some (.int w45_4), some (.int y5), none, none] [] μ1 := by
  unfold f_X10_ask_J104 at h
  refine tr_iinc (pc' := 107) (v := y5 + (1 : Int32)) (lv' := [some (.ref 179), some (.int v1), some (.int y2), some (.int y3), some (.int w45_4), some (.int (y5 + (1 : Int32))), none, none]) (show decode cX10_ask 104 = .ok (.iinc 5 1, 3) by decide +kernel) rfl rfl rfl (Nat.le_of_ble_eq_true rfl) rfl rfl ?_
  refine tr_goto (tgt := 45) (show decode cX10_ask 107 = .ok (.goto (-62), 3) by decide +kernel) rfl ?_
  exact hc45 y2 y3 (y5 + (1 : Int32)) μ1 hL h
def f_X10_ask_L45 (v1 : Int32) (w45_4 : Int32) (c23 : Int32 → Int32 → Int32 → hm_M → Option (Int32 × hm_M)) (e116 : Int32 → Int32 → hm_M → Option (Int32 × hm_M)) (e110 : Int32 → Int32 → hm_M → Option (Int32 × hm_M)) : Nat → Int32 → Int32 → Int32 → hm_M → Option (Int32 × hm_M)
  | 0, _, _, _, _ => none
  | n + 1, y2, y3, y5, μ1 => Option.bind (f_X10_many μ1) fun x6 =>
  (if x6 ≤ y5 then
  e110 y2 y3 μ1
  else
  Option.bind (hm_ld μ1 199 64 (((8 : Int32) * w45_4) + y5)) fun x7 =>
  Option.bind (f_X10_greater x7 ((μ1.1 179 42) - x7)) fun x8 =>
  (if x8 < y3 then
  Option.bind (some (((10 : Int32) * w45_4) + y5)) fun x9 =>
  f_X10_ask_J104 v1 w45_4 c23 e116 (f_X10_ask_L45 v1 w45_4 c23 e116 e110 n) e110 x9 x8 y5 μ1
  else
  f_X10_ask_J104 v1 w45_4 c23 e116 (f_X10_ask_L45 v1 w45_4 c23 e116 e110 n) e110 y2 y3 y5 μ1))
theorem ok_X10_ask_L45 {fr : Nat} (hfr : 92 ≤ fr) {ν : hm_N} {r : Int32} {μR : hm_M}  (v1 : Int32) (w45_4 : Int32) (c23 : Int32 → Int32 → Int32 → hm_M → Option (Int32 × hm_M)) (e116 : Int32 → Int32 → hm_M → Option (Int32 × hm_M)) (e110 : Int32 → Int32 → hm_M → Option (Int32 × hm_M)) (hc23 : ∀ (y2 : Int32) (y3 : Int32) (y4 : Int32)  (μ1 : hm_M), hm_LL ν μ1 → c23 y2 y3 y4 μ1 = some (r, μR) → hm_T (hm_LL ν) m_X10_ask fr 0 0 (some (.int r)) μR 23 [some (.ref 179), some (.int v1), some (.int y2), some (.int y3), some (.int y4), none, none, none] [] μ1) (he116 : ∀ (y2 : Int32) (y3 : Int32)  (μ1 : hm_M), hm_LL ν μ1 → e116 y2 y3 μ1 = some (r, μR) → hm_T (hm_LL ν) m_X10_ask fr 0 0 (some (.int r)) μR 116 [none, some (.int v1), some (.int y2), some (.int y3), none, none, none, none] [] μ1) (he110 : ∀ (y2 : Int32) (y3 : Int32)  (μ1 : hm_M), hm_LL ν μ1 → e110 y2 y3 μ1 = some (r, μR) → hm_T (hm_LL ν) m_X10_ask fr 0 0 (some (.int r)) μR 110 [some (.ref 179), some (.int v1), some (.int y2), some (.int y3), some (.int w45_4), none, none, none] [] μ1)  : ∀ (n : Nat) (y2 : Int32) (y3 : Int32) (y5 : Int32)  (μ1 : hm_M), hm_LL ν μ1 → f_X10_ask_L45 v1 w45_4 c23 e116 e110 n y2 y3 y5 μ1 = some (r, μR) → hm_T (hm_LL ν) m_X10_ask fr 0 0 (some (.int r)) μR 45 [some (.ref 179), some (.int v1), some (.int y2), some (.int y3), some (.int w45_4), some (.int y5), none, none] [] μ1 := by
  intro n
  induction n with
  | zero =>
    intro y2 y3 y5 μ1 hL h
    unfold f_X10_ask_L45 at h
    cases h
  | succ n ih =>
    intro y2 y3 y5 μ1 hL h
    unfold f_X10_ask_L45 at h
    refine tr_iload (pc' := 47) (show decode cX10_ask 45 = .ok (.iload 5, 2) by decide +kernel) rfl rfl ?_
    refine tr_aload_n (pc' := 48) (show decode cX10_ask 47 = .ok (.aload_n 0, 1) by decide +kernel) rfl rfl rfl ?_
    obtain ⟨x6, ex6, h⟩ := hm_bs h
    have cx6 := ok_X10_many (fr := fr - 1) (ν := ν) (by omega) μ1 hL ex6
    refine tp_callV (pc' := 51) (As := []) (fr1 := fr - 1) (ci := 10) okm_X10_many lk_HandRingModel_118 (show decode cX10_ask 48 = .ok (.invokevirtual 118, 3) by decide +kernel) rfl rfl rfl (by decide) (la_o hL (by decide) rfl) rfl rfl (Nat.le_of_ble_eq_true rfl) (by omega) cx6 (st' := [.int x6, .int y5]) rfl ?_
    rcases hm_is h with ⟨hc, h⟩ | ⟨hc, h⟩
    · refine tr_icmp_ge_t (tgt := 110) hc (show decode cX10_ask 51 = .ok (.if_icmp .ge 59, 3) by decide +kernel) (by decide) ?_
      refine hm_fgt [true, true, true, true, true, false, false, false] (lv' := [some (.ref 179), some (.int v1), some (.int y2), some (.int y3), some (.int w45_4), none, none, none]) rfl ?_
      exact he110 y2 y3 μ1 hL h
    · refine tr_icmp_ge_f (tgt := 110) (pc' := 54) hc (show decode cX10_ask 51 = .ok (.if_icmp .ge 59, 3) by decide +kernel) (by decide) rfl ?_
      refine tr_aload_n (pc' := 55) (show decode cX10_ask 54 = .ok (.aload_n 0, 1) by decide +kernel) rfl rfl rfl ?_
      refine tr_getR (pc' := 58) fl_HandRingModel_83 (show decode cX10_ask 55 = .ok (.getfield 83, 3) by decide +kernel) rfl (la_o hL (by decide) rfl) (la_r hL 136 rfl) ?_
      refine tr_bipush (pc' := 60) (v := (8 : Int32)) (show decode cX10_ask 58 = .ok (.bipush 8, 2) by decide +kernel) rfl (by decide) ?_
      refine tr_iload (pc' := 62) (show decode cX10_ask 60 = .ok (.iload 4, 2) by decide +kernel) rfl rfl ?_
      refine tr_imul (pc' := 63) (show decode cX10_ask 62 = .ok (.imul, 1) by decide +kernel) rfl ?_
      refine tr_iload (pc' := 65) (show decode cX10_ask 63 = .ok (.iload 5, 2) by decide +kernel) rfl rfl ?_
      refine tr_iadd (pc' := 66) (show decode cX10_ask 65 = .ok (.iadd, 1) by decide +kernel) rfl ?_
      obtain ⟨x7, ex7, h⟩ := hm_bs h
      refine tp_ldI (pc' := 67) (show decode cX10_ask 66 = .ok (.iaload, 1) by decide +kernel) rfl (la_a hL (by decide) rfl) ex7 ?_
      refine tr_istore (pc' := 69) (lv' := [some (.ref 179), some (.int v1), some (.int y2), some (.int y3), some (.int w45_4), some (.int y5), some (.int x7), none]) (show decode cX10_ask 67 = .ok (.istore 6, 2) by decide +kernel) rfl (Nat.le_of_ble_eq_true rfl) rfl rfl ?_
      refine tr_iload (pc' := 71) (show decode cX10_ask 69 = .ok (.iload 6, 2) by decide +kernel) rfl rfl ?_
      refine tr_aload_n (pc' := 72) (show decode cX10_ask 71 = .ok (.aload_n 0, 1) by decide +kernel) rfl rfl rfl ?_
      refine tr_getI (pc' := 75) fl_HandRingModel_439 (show decode cX10_ask 72 = .ok (.getfield 439, 3) by decide +kernel) rfl (la_o hL (by decide) rfl) ?_
      refine tr_iload (pc' := 77) (show decode cX10_ask 75 = .ok (.iload 6, 2) by decide +kernel) rfl rfl ?_
      refine tr_isub (pc' := 78) (show decode cX10_ask 77 = .ok (.isub, 1) by decide +kernel) rfl ?_
      obtain ⟨x8, ex8, h⟩ := hm_bs h
      have cx8 := ok_X10_greater (fr := fr - 1) (ν := ν) (by omega) x7 ((μ1.1 179 42) - x7) μ1 hL ex8
      refine tp_callS (pc' := 81) (As := [.int x7, .int ((μ1.1 179 42) - x7)]) (fr1 := fr - 1) okm_X10_greater lk_HandRingModel_343 (show decode cX10_ask 78 = .ok (.invokestatic 343, 3) by decide +kernel) rfl rfl rfl (Nat.le_of_ble_eq_true rfl) (by omega) cx8 (st' := [.int x8]) rfl ?_
      refine tr_istore (pc' := 83) (lv' := [some (.ref 179), some (.int v1), some (.int y2), some (.int y3), some (.int w45_4), some (.int y5), some (.int x7), some (.int x8)]) (show decode cX10_ask 81 = .ok (.istore 7, 2) by decide +kernel) rfl (Nat.le_of_ble_eq_true rfl) rfl rfl ?_
      refine tr_iload (pc' := 85) (show decode cX10_ask 83 = .ok (.iload 7, 2) by decide +kernel) rfl rfl ?_
      refine tr_iload_n (pc' := 86) (show decode cX10_ask 85 = .ok (.iload_n 3, 1) by decide +kernel) rfl rfl rfl ?_
      rcases hm_is h with ⟨hc, h⟩ | ⟨hc, h⟩
      · refine tr_icmp_lt_t (tgt := 92) hc (show decode cX10_ask 86 = .ok (.if_icmp .lt 6, 3) by decide +kernel) (by decide) ?_
        refine tr_iload (pc' := 94) (show decode cX10_ask 92 = .ok (.iload 7, 2) by decide +kernel) rfl rfl ?_
        refine tr_istore_n (pc' := 95) (lv' := [some (.ref 179), some (.int v1), some (.int y2), some (.int x8), some (.int w45_4), some (.int y5), some (.int x7), some (.int x8)]) (show decode cX10_ask 94 = .ok (.istore_n 3, 1) by decide +kernel) rfl rfl (Nat.le_of_ble_eq_true rfl) rfl rfl ?_
        refine tr_bipush (pc' := 97) (v := (10 : Int32)) (show decode cX10_ask 95 = .ok (.bipush 10, 2) by decide +kernel) rfl (by decide) ?_
        refine tr_iload (pc' := 99) (show decode cX10_ask 97 = .ok (.iload 4, 2) by decide +kernel) rfl rfl ?_
        refine tr_imul (pc' := 100) (show decode cX10_ask 99 = .ok (.imul, 1) by decide +kernel) rfl ?_
        refine tr_iload (pc' := 102) (show decode cX10_ask 100 = .ok (.iload 5, 2) by decide +kernel) rfl rfl ?_
        refine tr_iadd (pc' := 103) (show decode cX10_ask 102 = .ok (.iadd, 1) by decide +kernel) rfl ?_
        obtain ⟨x9, ex9, h⟩ := hm_bs h
        have ex9 := Option.some.inj ex9
        rw [ex9]
        refine tr_istore_n (pc' := 104) (lv' := [some (.ref 179), some (.int v1), some (.int x9), some (.int x8), some (.int w45_4), some (.int y5), some (.int x7), some (.int x8)]) (show decode cX10_ask 103 = .ok (.istore_n 2, 1) by decide +kernel) rfl rfl (Nat.le_of_ble_eq_true rfl) rfl rfl ?_
        refine hm_fgt [true, true, true, true, true, true, false, false] (lv' := [some (.ref 179), some (.int v1), some (.int x9), some (.int x8), some (.int w45_4), some (.int y5), none, none]) rfl ?_
        exact ok_X10_ask_J104 hfr _ w45_4 c23 e116 (f_X10_ask_L45 v1 w45_4 c23 e116 e110 n) e110 hc23 he116 ih he110 x9 x8 y5 μ1 hL h
      · refine tr_icmp_lt_f (tgt := 92) (pc' := 89) hc (show decode cX10_ask 86 = .ok (.if_icmp .lt 6, 3) by decide +kernel) (by decide) rfl ?_
        refine tr_goto (tgt := 104) (show decode cX10_ask 89 = .ok (.goto 15, 3) by decide +kernel) rfl ?_
        refine hm_fgt [true, true, true, true, true, true, false, false] (lv' := [some (.ref 179), some (.int v1), some (.int y2), some (.int y3), some (.int w45_4), some (.int y5), none, none]) rfl ?_
        exact ok_X10_ask_J104 hfr _ w45_4 c23 e116 (f_X10_ask_L45 v1 w45_4 c23 e116 e110 n) e110 hc23 he116 ih he110 y2 y3 y5 μ1 hL h
def f_X10_ask_L23 (v1 : Int32) (e116 : Int32 → Int32 → hm_M → Option (Int32 × hm_M)) : Nat → Int32 → Int32 → Int32 → hm_M → Option (Int32 × hm_M)
  | 0, _, _, _, _ => none
  | n + 1, y2, y3, y4, μ1 => Option.bind (f_X10_many μ1) fun x5 =>
  (if x5 ≤ y4 then
  e116 y2 y3 μ1
  else
  (if (μ1.1 179 42) ≤ 0 then
  e116 y2 y3 μ1
  else
  f_X10_ask_L45 v1 y4 (f_X10_ask_L23 v1 e116 n) e116 (fun z10_2 z10_3 μz10 => (f_X10_ask_L23 v1 e116 n) z10_2 z10_3 (y4 + (1 : Int32)) μz10) hm_fu y2 y3 (y4 + (1 : Int32)) μ1))
theorem ok_X10_ask_L23 {fr : Nat} (hfr : 92 ≤ fr) {ν : hm_N} {r : Int32} {μR : hm_M}  (v1 : Int32) (e116 : Int32 → Int32 → hm_M → Option (Int32 × hm_M))  (he116 : ∀ (y2 : Int32) (y3 : Int32)  (μ1 : hm_M), hm_LL ν μ1 → e116 y2 y3 μ1 = some (r, μR) → hm_T (hm_LL ν) m_X10_ask fr 0 0 (some (.int r)) μR 116 [none, some (.int v1), some (.int y2), some (.int y3), none, none, none, none] [] μ1)  : ∀ (n : Nat) (y2 : Int32) (y3 : Int32) (y4 : Int32)  (μ1 : hm_M), hm_LL ν μ1 → f_X10_ask_L23 v1 e116 n y2 y3 y4 μ1 = some (r, μR) → hm_T (hm_LL ν) m_X10_ask fr 0 0 (some (.int r)) μR 23 [some (.ref 179), some (.int v1), some (.int y2), some (.int y3), some (.int y4), none, none, none] [] μ1 := by
  intro n
  induction n with
  | zero =>
    intro y2 y3 y4 μ1 hL h
    unfold f_X10_ask_L23 at h
    cases h
  | succ n ih =>
    intro y2 y3 y4 μ1 hL h
    unfold f_X10_ask_L23 at h
    refine tr_iload (pc' := 25) (show decode cX10_ask 23 = .ok (.iload 4, 2) by decide +kernel) rfl rfl ?_
    refine tr_aload_n (pc' := 26) (show decode cX10_ask 25 = .ok (.aload_n 0, 1) by decide +kernel) rfl rfl rfl ?_
    obtain ⟨x5, ex5, h⟩ := hm_bs h
    have cx5 := ok_X10_many (fr := fr - 1) (ν := ν) (by omega) μ1 hL ex5
    refine tp_callV (pc' := 29) (As := []) (fr1 := fr - 1) (ci := 10) okm_X10_many lk_HandRingModel_118 (show decode cX10_ask 26 = .ok (.invokevirtual 118, 3) by decide +kernel) rfl rfl rfl (by decide) (la_o hL (by decide) rfl) rfl rfl (Nat.le_of_ble_eq_true rfl) (by omega) cx5 (st' := [.int x5, .int y4]) rfl ?_
    rcases hm_is h with ⟨hc, h⟩ | ⟨hc, h⟩
    · refine tr_icmp_ge_t (tgt := 116) hc (show decode cX10_ask 29 = .ok (.if_icmp .ge 87, 3) by decide +kernel) (by decide) ?_
      refine hm_fgt [false, true, true, true, false, false, false, false] (lv' := [none, some (.int v1), some (.int y2), some (.int y3), none, none, none, none]) rfl ?_
      exact he116 y2 y3 μ1 hL h
    · refine tr_icmp_ge_f (tgt := 116) (pc' := 32) hc (show decode cX10_ask 29 = .ok (.if_icmp .ge 87, 3) by decide +kernel) (by decide) rfl ?_
      refine tr_aload_n (pc' := 33) (show decode cX10_ask 32 = .ok (.aload_n 0, 1) by decide +kernel) rfl rfl rfl ?_
      refine tr_getI (pc' := 36) fl_HandRingModel_439 (show decode cX10_ask 33 = .ok (.getfield 439, 3) by decide +kernel) rfl (la_o hL (by decide) rfl) ?_
      rcases hm_is h with ⟨hc, h⟩ | ⟨hc, h⟩
      · refine tr_if_le_t (tgt := 116) hc (show decode cX10_ask 36 = .ok (.ifCond .le 80, 3) by decide +kernel) (by decide) ?_
        refine hm_fgt [false, true, true, true, false, false, false, false] (lv' := [none, some (.int v1), some (.int y2), some (.int y3), none, none, none, none]) rfl ?_
        exact he116 y2 y3 μ1 hL h
      · refine tr_if_le_f (tgt := 116) (pc' := 39) hc (show decode cX10_ask 36 = .ok (.ifCond .le 80, 3) by decide +kernel) (by decide) rfl ?_
        refine tr_iload (pc' := 41) (show decode cX10_ask 39 = .ok (.iload 4, 2) by decide +kernel) rfl rfl ?_
        refine tr_iconst (pc' := 42) (v := (1 : Int32)) (show decode cX10_ask 41 = .ok (.iconst 1, 1) by decide +kernel) rfl (by decide) ?_
        refine tr_iadd (pc' := 43) (show decode cX10_ask 42 = .ok (.iadd, 1) by decide +kernel) rfl ?_
        refine tr_istore (pc' := 45) (lv' := [some (.ref 179), some (.int v1), some (.int y2), some (.int y3), some (.int y4), some (.int (y4 + (1 : Int32))), none, none]) (show decode cX10_ask 43 = .ok (.istore 5, 2) by decide +kernel) rfl (Nat.le_of_ble_eq_true rfl) rfl rfl ?_
        refine ok_X10_ask_L45 hfr _ y4 (f_X10_ask_L23 v1 e116 n) e116 _ ih he116 ?_ _ y2 y3 (y4 + (1 : Int32)) μ1 hL h
        · intro z10_2 z10_3 μz10 hL h
          refine tr_iinc (pc' := 113) (v := y4 + (1 : Int32)) (lv' := [some (.ref 179), some (.int v1), some (.int z10_2), some (.int z10_3), some (.int (y4 + (1 : Int32))), none, none, none]) (show decode cX10_ask 110 = .ok (.iinc 4 1, 3) by decide +kernel) rfl rfl rfl (Nat.le_of_ble_eq_true rfl) rfl rfl ?_
          refine tr_goto (tgt := 23) (show decode cX10_ask 113 = .ok (.goto (-90), 3) by decide +kernel) rfl ?_
          exact ih z10_2 z10_3 (y4 + (1 : Int32)) μz10 hL h
def f_X10_ask_J116 (v1 : Int32) (y2 : Int32) (y3 : Int32) (μ1 : hm_M) : Option (Int32 × hm_M) :=
  (if y2 = (-1 : Int32) then
  some (y2, μ1)
  else
  (if v1 = 0 then
  some (y2, μ1)
  else
  some (y3, μ1)))
theorem ok_X10_ask_J116 {fr : Nat} (hfr : 92 ≤ fr) {ν : hm_N} {r : Int32} {μR : hm_M}  (v1 : Int32)    (y2 : Int32) (y3 : Int32) (μ1 : hm_M) (hL : hm_LL ν μ1) (h : f_X10_ask_J116 v1 y2 y3 μ1 = some (r, μR)) : hm_T (hm_LL ν) m_X10_ask fr 0 0 (some (.int r)) μR 116 [none, some (.int v1), some (.int y2), some (.int y3), none, none, none, none] [] μ1 := by
  unfold f_X10_ask_J116 at h
  refine tr_iload_n (pc' := 117) (show decode cX10_ask 116 = .ok (.iload_n 2, 1) by decide +kernel) rfl rfl rfl ?_
  refine tr_iconst (pc' := 118) (v := (-1 : Int32)) (show decode cX10_ask 117 = .ok (.iconst (-1), 1) by decide +kernel) rfl (by decide) ?_
  rcases hm_is h with ⟨hc, h⟩ | ⟨hc, h⟩
  · refine tr_icmp_eq_t (tgt := 125) hc (show decode cX10_ask 118 = .ok (.if_icmp .eq 7, 3) by decide +kernel) (by decide) ?_
    refine tr_iload_n (pc' := 126) (show decode cX10_ask 125 = .ok (.iload_n 2, 1) by decide +kernel) rfl rfl rfl ?_
    refine tr_goto (tgt := 130) (show decode cX10_ask 126 = .ok (.goto 4, 3) by decide +kernel) rfl ?_
    cases h
    exact tr_iret rfl (show decode cX10_ask 130 = .ok (.ireturn, 1) by decide +kernel) hL
  · refine tr_icmp_eq_f (tgt := 125) (pc' := 121) hc (show decode cX10_ask 118 = .ok (.if_icmp .eq 7, 3) by decide +kernel) (by decide) rfl ?_
    refine tr_iload_n (pc' := 122) (show decode cX10_ask 121 = .ok (.iload_n 1, 1) by decide +kernel) rfl rfl rfl ?_
    rcases hm_is h with ⟨hc, h⟩ | ⟨hc, h⟩
    · refine tr_if_ne_f (tgt := 129) (pc' := 125) hc (show decode cX10_ask 122 = .ok (.ifCond .ne 7, 3) by decide +kernel) (by decide) rfl ?_
      refine tr_iload_n (pc' := 126) (show decode cX10_ask 125 = .ok (.iload_n 2, 1) by decide +kernel) rfl rfl rfl ?_
      refine tr_goto (tgt := 130) (show decode cX10_ask 126 = .ok (.goto 4, 3) by decide +kernel) rfl ?_
      cases h
      exact tr_iret rfl (show decode cX10_ask 130 = .ok (.ireturn, 1) by decide +kernel) hL
    · refine tr_if_ne_t (tgt := 129) hc (show decode cX10_ask 122 = .ok (.ifCond .ne 7, 3) by decide +kernel) (by decide) ?_
      refine tr_iload_n (pc' := 130) (show decode cX10_ask 129 = .ok (.iload_n 3, 1) by decide +kernel) rfl rfl rfl ?_
      cases h
      exact tr_iret rfl (show decode cX10_ask 130 = .ok (.ireturn, 1) by decide +kernel) hL
def f_X10_ask (v1 : Int32) (μ : hm_M) : Option (Int32 × hm_M) :=
  Option.bind (f_X10_lies v1 (0 : Int32) (1 : Int32)) fun x2 =>
  (if x2 = 0 then
  some ((-1 : Int32), μ)
  else
  Option.bind (f_X10_laysRings μ) fun μ4 =>
  f_X10_ask_L23 v1 (fun z11_2 z11_3 μz11 => f_X10_ask_J116 v1 z11_2 z11_3 μz11) hm_fu (-1 : Int32) (1000000 : Int32) (0 : Int32) μ4)
set_option maxRecDepth 100000 in
theorem ok_X10_ask {fr : Nat} (hfr : 92 ≤ fr) {ν : hm_N} {r : Int32} {μR : hm_M}  (v1 : Int32)  (μ : hm_M) (hL : hm_LL ν μ) (h : f_X10_ask v1 μ = some (r, μR)) : hm_CC (hm_LL ν) m_X10_ask fr 0 0 [.ref 179, .int v1] μ (some (.int r)) μR := by
  refine hm_enter (lv := [some (.ref 179), some (.int v1), none, none, none, none, none, none]) (by decide) rfl (Nat.le_of_ble_eq_true rfl) ?_
  unfold f_X10_ask at h
  refine tr_iload_n (pc' := 1) (show decode cX10_ask 0 = .ok (.iload_n 1, 1) by decide +kernel) rfl rfl rfl ?_
  refine tr_iconst (pc' := 2) (v := (0 : Int32)) (show decode cX10_ask 1 = .ok (.iconst 0, 1) by decide +kernel) rfl (by decide) ?_
  refine tr_iconst (pc' := 3) (v := (1 : Int32)) (show decode cX10_ask 2 = .ok (.iconst 1, 1) by decide +kernel) rfl (by decide) ?_
  obtain ⟨x2, ex2, h⟩ := hm_bs h
  have cx2 := ok_X10_lies (fr := fr - 1) (ν := ν) (by omega) v1 (0 : Int32) (1 : Int32) μ hL ex2
  refine tp_callS (pc' := 6) (As := [.int v1, .int (0 : Int32), .int (1 : Int32)]) (fr1 := fr - 1) okm_X10_lies lk_HandRingModel_108 (show decode cX10_ask 3 = .ok (.invokestatic 108, 3) by decide +kernel) rfl rfl rfl (Nat.le_of_ble_eq_true rfl) (by omega) cx2 (st' := [.int x2]) rfl ?_
  rcases hm_is h with ⟨hc, h⟩ | ⟨hc, h⟩
  · refine tr_if_ne_f (tgt := 11) (pc' := 9) hc (show decode cX10_ask 6 = .ok (.ifCond .ne 5, 3) by decide +kernel) (by decide) rfl ?_
    refine tr_iconst (pc' := 10) (v := (-1 : Int32)) (show decode cX10_ask 9 = .ok (.iconst (-1), 1) by decide +kernel) rfl (by decide) ?_
    cases h
    exact tr_iret rfl (show decode cX10_ask 10 = .ok (.ireturn, 1) by decide +kernel) hL
  · refine tr_if_ne_t (tgt := 11) hc (show decode cX10_ask 6 = .ok (.ifCond .ne 5, 3) by decide +kernel) (by decide) ?_
    refine tr_aload_n (pc' := 12) (show decode cX10_ask 11 = .ok (.aload_n 0, 1) by decide +kernel) rfl rfl rfl ?_
    obtain ⟨μ4, ex3, h⟩ := hm_bs h
    have cx3 := ok_X10_laysRings (fr := fr - 1) (ν := ν) (by omega) μ hL ex3
    refine tp_callV (pc' := 15) (As := []) (fr1 := fr - 1) (ci := 10) okm_X10_laysRings lk_HandRingModel_448 (show decode cX10_ask 12 = .ok (.invokevirtual 448, 3) by decide +kernel) rfl rfl rfl (by decide) (la_o hL (by decide) rfl) rfl rfl (Nat.le_of_ble_eq_true rfl) (by omega) cx3 (st' := []) rfl ?_
    replace hL := cx3.1
    refine tr_iconst (pc' := 16) (v := (-1 : Int32)) (show decode cX10_ask 15 = .ok (.iconst (-1), 1) by decide +kernel) rfl (by decide) ?_
    refine tr_istore_n (pc' := 17) (lv' := [some (.ref 179), some (.int v1), some (.int (-1 : Int32)), none, none, none, none, none]) (show decode cX10_ask 16 = .ok (.istore_n 2, 1) by decide +kernel) rfl rfl (Nat.le_of_ble_eq_true rfl) rfl rfl ?_
    refine tr_ldc (pc' := 19) (v := (1000000 : Int32)) (show decode cX10_ask 17 = .ok (.ldc 180, 2) by decide +kernel) rfl kc_HandRingModel_180 ?_
    refine tr_istore_n (pc' := 20) (lv' := [some (.ref 179), some (.int v1), some (.int (-1 : Int32)), some (.int (1000000 : Int32)), none, none, none, none]) (show decode cX10_ask 19 = .ok (.istore_n 3, 1) by decide +kernel) rfl rfl (Nat.le_of_ble_eq_true rfl) rfl rfl ?_
    refine tr_iconst (pc' := 21) (v := (0 : Int32)) (show decode cX10_ask 20 = .ok (.iconst 0, 1) by decide +kernel) rfl (by decide) ?_
    refine tr_istore (pc' := 23) (lv' := [some (.ref 179), some (.int v1), some (.int (-1 : Int32)), some (.int (1000000 : Int32)), some (.int (0 : Int32)), none, none, none]) (show decode cX10_ask 21 = .ok (.istore 4, 2) by decide +kernel) rfl (Nat.le_of_ble_eq_true rfl) rfl rfl ?_
    refine ok_X10_ask_L23 hfr _ _ ?_ _ (-1 : Int32) (1000000 : Int32) (0 : Int32) μ4 hL h
    · intro z11_2 z11_3 μz11 hL h
      exact ok_X10_ask_J116 hfr _ z11_2 z11_3 μz11 hL h
def f_X10_lowest_L2 (v0 : Int32) (e16 : Int32 → Option Int32) : Nat → Int32 → Option Int32
  | 0, _ => none
  | n + 1, y1 => Option.bind (f_X10_isIn v0 y1) fun x2 =>
  (if x2 = 0 then
  (f_X10_lowest_L2 v0 e16 n) (y1 + (1 : Int32))
  else
  e16 y1)
theorem ok_X10_lowest_L2 {fr : Nat} (hfr : 1 ≤ fr) {ν : hm_N} {r : Int32}  (v0 : Int32) (e16 : Int32 → Option Int32)  (he16 : ∀ (y1 : Int32)  (μ1 : hm_M), hm_LL ν μ1 → e16 y1 = some r → hm_T (hm_LL ν) m_X10_lowest fr 0 0 (some (.int r)) μ1 16 [none, some (.int y1)] [] μ1)  : ∀ (n : Nat) (y1 : Int32)  (μ1 : hm_M), hm_LL ν μ1 → f_X10_lowest_L2 v0 e16 n y1 = some r → hm_T (hm_LL ν) m_X10_lowest fr 0 0 (some (.int r)) μ1 2 [some (.int v0), some (.int y1)] [] μ1 := by
  intro n
  induction n with
  | zero =>
    intro y1 μ1 hL h
    unfold f_X10_lowest_L2 at h
    cases h
  | succ n ih =>
    intro y1 μ1 hL h
    unfold f_X10_lowest_L2 at h
    refine tr_iload_n (pc' := 3) (show decode cX10_lowest 2 = .ok (.iload_n 0, 1) by decide +kernel) rfl rfl rfl ?_
    refine tr_iload_n (pc' := 4) (show decode cX10_lowest 3 = .ok (.iload_n 1, 1) by decide +kernel) rfl rfl rfl ?_
    obtain ⟨x2, ex2, h⟩ := hm_bs h
    have cx2 := ok_X10_isIn (fr := fr - 1) (ν := ν) (by omega) v0 y1 μ1 hL ex2
    refine tp_callS (pc' := 7) (As := [.int v0, .int y1]) (fr1 := fr - 1) okm_X10_isIn lk_HandRingModel_356 (show decode cX10_lowest 4 = .ok (.invokestatic 356, 3) by decide +kernel) rfl rfl rfl (Nat.le_of_ble_eq_true rfl) (by omega) cx2 (st' := [.int x2]) rfl ?_
    rcases hm_is h with ⟨hc, h⟩ | ⟨hc, h⟩
    · refine tr_if_ne_f (tgt := 16) (pc' := 10) hc (show decode cX10_lowest 7 = .ok (.ifCond .ne 9, 3) by decide +kernel) (by decide) rfl ?_
      refine tr_iinc (pc' := 13) (v := y1 + (1 : Int32)) (lv' := [some (.int v0), some (.int (y1 + (1 : Int32)))]) (show decode cX10_lowest 10 = .ok (.iinc 1 1, 3) by decide +kernel) rfl rfl rfl (Nat.le_of_ble_eq_true rfl) rfl rfl ?_
      refine tr_goto (tgt := 2) (show decode cX10_lowest 13 = .ok (.goto (-11), 3) by decide +kernel) rfl ?_
      exact ih (y1 + (1 : Int32)) μ1 hL h
    · refine tr_if_ne_t (tgt := 16) hc (show decode cX10_lowest 7 = .ok (.ifCond .ne 9, 3) by decide +kernel) (by decide) ?_
      refine hm_fgt [false, true] (lv' := [none, some (.int y1)]) rfl ?_
      exact he16 y1 μ1 hL h
def f_X10_lowest (v0 : Int32) : Option Int32 :=
  f_X10_lowest_L2 v0 (fun z3_1 => some z3_1) hm_fu (0 : Int32)
set_option maxRecDepth 100000 in
theorem ok_X10_lowest {fr : Nat} (hfr : 1 ≤ fr) {ν : hm_N} {r : Int32}  (v0 : Int32)  (μ : hm_M) (hL : hm_LL ν μ) (h : f_X10_lowest v0 = some r) : hm_CC (hm_LL ν) m_X10_lowest fr 0 0 [.int v0] μ (some (.int r)) μ := by
  refine hm_enter (lv := [some (.int v0), none]) (by decide) rfl (Nat.le_of_ble_eq_true rfl) ?_
  unfold f_X10_lowest at h
  refine tr_iconst (pc' := 1) (v := (0 : Int32)) (show decode cX10_lowest 0 = .ok (.iconst 0, 1) by decide +kernel) rfl (by decide) ?_
  refine tr_istore_n (pc' := 2) (lv' := [some (.int v0), some (.int (0 : Int32))]) (show decode cX10_lowest 1 = .ok (.istore_n 1, 1) by decide +kernel) rfl rfl (Nat.le_of_ble_eq_true rfl) rfl rfl ?_
  refine ok_X10_lowest_L2 hfr _ _ ?_ _ (0 : Int32) μ hL h
  · intro z3_1 μz3 hL h
    refine tr_iload_n (pc' := 17) (show decode cX10_lowest 16 = .ok (.iload_n 1, 1) by decide +kernel) rfl rfl rfl ?_
    cases h
    exact tr_iret rfl (show decode cX10_lowest 17 = .ok (.ireturn, 1) by decide +kernel) hL
def f_X10_pathOf_J88 (v1 : Int32) (v2 : Int32) (w38_3 : Int32) (c38 : Int32 → Int32 → hm_M → Option Int32) (e94 : Int32 → hm_M → Option Int32) (y5 : Int32) (y6 : Int32) (μ1 : hm_M) : Option Int32 :=
  c38 y5 (y6 + (1 : Int32)) μ1
theorem ok_X10_pathOf_J88 {fr : Nat} (hfr : 2 ≤ fr) {ν : hm_N} {r : Int32}  (v1 : Int32) (v2 : Int32) (w38_3 : Int32) (c38 : Int32 → Int32 → hm_M → Option Int32) (e94 : Int32 → hm_M → Option Int32) (hc38 : ∀ (y5 : Int32) (y6 : Int32)  (μ1 : hm_M), hm_LL ν μ1 → c38 y5 y6 μ1 = some r → hm_T (hm_LL ν) m_X10_pathOf fr 0 0 (some (.int r)) μ1 38 [some (.ref 179), none, some (.int v2), some (.int w38_3), none, some (.int y5), some (.int y6)] [] μ1) (he94 : ∀ (y5 : Int32)  (μ1 : hm_M), hm_LL ν μ1 → e94 y5 μ1 = some r → hm_T (hm_LL ν) m_X10_pathOf fr 0 0 (some (.int r)) μ1 94 [none, none, none, none, none, some (.int y5), none] [] μ1)  (y5 : Int32) (y6 : Int32) (μ1 : hm_M) (hL : hm_LL ν μ1) (h : f_X10_pathOf_J88 v1 v2 w38_3 c38 e94 y5 y6 μ1 = some r) : hm_T (hm_LL ν) m_X10_pathOf fr 0 0 (some (.int r)) μ1 88 [some (.ref 179), none, some (.int v2), some (.int w38_3), none, some (.int y5), some (.int y6)] [] μ1 := by
  unfold f_X10_pathOf_J88 at h
  refine tr_iinc (pc' := 91) (v := y6 + (1 : Int32)) (lv' := [some (.ref 179), none, some (.int v2), some (.int w38_3), none, some (.int y5), some (.int (y6 + (1 : Int32)))]) (show decode cX10_pathOf 88 = .ok (.iinc 6 1, 3) by decide +kernel) rfl rfl rfl (Nat.le_of_ble_eq_true rfl) rfl rfl ?_
  refine tr_goto (tgt := 38) (show decode cX10_pathOf 91 = .ok (.goto (-53), 3) by decide +kernel) rfl ?_
  exact hc38 y5 (y6 + (1 : Int32)) μ1 hL h
def f_X10_pathOf_L38 (v1 : Int32) (v2 : Int32) (w38_3 : Int32) (e94 : Int32 → hm_M → Option Int32) : Nat → Int32 → Int32 → hm_M → Option Int32
  | 0, _, _, _ => none
  | n + 1, y5, y6, μ1 => Option.bind (f_X10_many μ1) fun x4 =>
  (if x4 ≤ y6 then
  e94 y5 μ1
  else
  Option.bind (f_X10_isIn w38_3 y6) fun x5 =>
  (if x5 = 0 then
  f_X10_pathOf_J88 v1 v2 w38_3 (f_X10_pathOf_L38 v1 v2 w38_3 e94 n) e94 y5 y6 μ1
  else
  Option.bind (hm_ld μ1 200 2048 (((8 : Int32) * w38_3) + y6)) fun x6 =>
  Option.bind (hm_ld μ1 196 64 (((8 : Int32) * y6) + v2)) fun x7 =>
  Option.bind (f_X10_lesser y5 (x6 + x7)) fun x8 =>
  f_X10_pathOf_J88 v1 v2 w38_3 (f_X10_pathOf_L38 v1 v2 w38_3 e94 n) e94 x8 y6 μ1))
theorem ok_X10_pathOf_L38 {fr : Nat} (hfr : 2 ≤ fr) {ν : hm_N} {r : Int32}  (v1 : Int32) (v2 : Int32) (w38_3 : Int32) (e94 : Int32 → hm_M → Option Int32)  (he94 : ∀ (y5 : Int32)  (μ1 : hm_M), hm_LL ν μ1 → e94 y5 μ1 = some r → hm_T (hm_LL ν) m_X10_pathOf fr 0 0 (some (.int r)) μ1 94 [none, none, none, none, none, some (.int y5), none] [] μ1)  : ∀ (n : Nat) (y5 : Int32) (y6 : Int32)  (μ1 : hm_M), hm_LL ν μ1 → f_X10_pathOf_L38 v1 v2 w38_3 e94 n y5 y6 μ1 = some r → hm_T (hm_LL ν) m_X10_pathOf fr 0 0 (some (.int r)) μ1 38 [some (.ref 179), none, some (.int v2), some (.int w38_3), none, some (.int y5), some (.int y6)] [] μ1 := by
  intro n
  induction n with
  | zero =>
    intro y5 y6 μ1 hL h
    unfold f_X10_pathOf_L38 at h
    cases h
  | succ n ih =>
    intro y5 y6 μ1 hL h
    unfold f_X10_pathOf_L38 at h
    refine tr_iload (pc' := 40) (show decode cX10_pathOf 38 = .ok (.iload 6, 2) by decide +kernel) rfl rfl ?_
    refine tr_aload_n (pc' := 41) (show decode cX10_pathOf 40 = .ok (.aload_n 0, 1) by decide +kernel) rfl rfl rfl ?_
    obtain ⟨x4, ex4, h⟩ := hm_bs h
    have cx4 := ok_X10_many (fr := fr - 1) (ν := ν) (by omega) μ1 hL ex4
    refine tp_callV (pc' := 44) (As := []) (fr1 := fr - 1) (ci := 10) okm_X10_many lk_HandRingModel_118 (show decode cX10_pathOf 41 = .ok (.invokevirtual 118, 3) by decide +kernel) rfl rfl rfl (by decide) (la_o hL (by decide) rfl) rfl rfl (Nat.le_of_ble_eq_true rfl) (by omega) cx4 (st' := [.int x4, .int y6]) rfl ?_
    rcases hm_is h with ⟨hc, h⟩ | ⟨hc, h⟩
    · refine tr_icmp_ge_t (tgt := 94) hc (show decode cX10_pathOf 44 = .ok (.if_icmp .ge 50, 3) by decide +kernel) (by decide) ?_
      refine hm_fgt [false, false, false, false, false, true, false] (lv' := [none, none, none, none, none, some (.int y5), none]) rfl ?_
      exact he94 y5 μ1 hL h
    · refine tr_icmp_ge_f (tgt := 94) (pc' := 47) hc (show decode cX10_pathOf 44 = .ok (.if_icmp .ge 50, 3) by decide +kernel) (by decide) rfl ?_
      refine tr_iload_n (pc' := 48) (show decode cX10_pathOf 47 = .ok (.iload_n 3, 1) by decide +kernel) rfl rfl rfl ?_
      refine tr_iload (pc' := 50) (show decode cX10_pathOf 48 = .ok (.iload 6, 2) by decide +kernel) rfl rfl ?_
      obtain ⟨x5, ex5, h⟩ := hm_bs h
      have cx5 := ok_X10_isIn (fr := fr - 1) (ν := ν) (by omega) w38_3 y6 μ1 hL ex5
      refine tp_callS (pc' := 53) (As := [.int w38_3, .int y6]) (fr1 := fr - 1) okm_X10_isIn lk_HandRingModel_356 (show decode cX10_pathOf 50 = .ok (.invokestatic 356, 3) by decide +kernel) rfl rfl rfl (Nat.le_of_ble_eq_true rfl) (by omega) cx5 (st' := [.int x5]) rfl ?_
      rcases hm_is h with ⟨hc, h⟩ | ⟨hc, h⟩
      · refine tr_if_eq_t (tgt := 88) hc (show decode cX10_pathOf 53 = .ok (.ifCond .eq 35, 3) by decide +kernel) (by decide) ?_
        exact ok_X10_pathOf_J88 hfr _ _ w38_3 (f_X10_pathOf_L38 v1 v2 w38_3 e94 n) e94 ih he94 y5 y6 μ1 hL h
      · refine tr_if_eq_f (tgt := 88) (pc' := 56) hc (show decode cX10_pathOf 53 = .ok (.ifCond .eq 35, 3) by decide +kernel) (by decide) rfl ?_
        refine tr_iload (pc' := 58) (show decode cX10_pathOf 56 = .ok (.iload 5, 2) by decide +kernel) rfl rfl ?_
        refine tr_aload_n (pc' := 59) (show decode cX10_pathOf 58 = .ok (.aload_n 0, 1) by decide +kernel) rfl rfl rfl ?_
        refine tr_getR (pc' := 62) fl_HandRingModel_86 (show decode cX10_pathOf 59 = .ok (.getfield 86, 3) by decide +kernel) rfl (la_o hL (by decide) rfl) (la_r hL 137 rfl) ?_
        refine tr_bipush (pc' := 64) (v := (8 : Int32)) (show decode cX10_pathOf 62 = .ok (.bipush 8, 2) by decide +kernel) rfl (by decide) ?_
        refine tr_iload_n (pc' := 65) (show decode cX10_pathOf 64 = .ok (.iload_n 3, 1) by decide +kernel) rfl rfl rfl ?_
        refine tr_imul (pc' := 66) (show decode cX10_pathOf 65 = .ok (.imul, 1) by decide +kernel) rfl ?_
        refine tr_iload (pc' := 68) (show decode cX10_pathOf 66 = .ok (.iload 6, 2) by decide +kernel) rfl rfl ?_
        refine tr_iadd (pc' := 69) (show decode cX10_pathOf 68 = .ok (.iadd, 1) by decide +kernel) rfl ?_
        obtain ⟨x6, ex6, h⟩ := hm_bs h
        refine tp_ldI (pc' := 70) (show decode cX10_pathOf 69 = .ok (.iaload, 1) by decide +kernel) rfl (la_a hL (by decide) rfl) ex6 ?_
        refine tr_aload_n (pc' := 71) (show decode cX10_pathOf 70 = .ok (.aload_n 0, 1) by decide +kernel) rfl rfl rfl ?_
        refine tr_getR (pc' := 74) fl_HandRingModel_74 (show decode cX10_pathOf 71 = .ok (.getfield 74, 3) by decide +kernel) rfl (la_o hL (by decide) rfl) (la_r hL 133 rfl) ?_
        refine tr_bipush (pc' := 76) (v := (8 : Int32)) (show decode cX10_pathOf 74 = .ok (.bipush 8, 2) by decide +kernel) rfl (by decide) ?_
        refine tr_iload (pc' := 78) (show decode cX10_pathOf 76 = .ok (.iload 6, 2) by decide +kernel) rfl rfl ?_
        refine tr_imul (pc' := 79) (show decode cX10_pathOf 78 = .ok (.imul, 1) by decide +kernel) rfl ?_
        refine tr_iload_n (pc' := 80) (show decode cX10_pathOf 79 = .ok (.iload_n 2, 1) by decide +kernel) rfl rfl rfl ?_
        refine tr_iadd (pc' := 81) (show decode cX10_pathOf 80 = .ok (.iadd, 1) by decide +kernel) rfl ?_
        obtain ⟨x7, ex7, h⟩ := hm_bs h
        refine tp_ldI (pc' := 82) (show decode cX10_pathOf 81 = .ok (.iaload, 1) by decide +kernel) rfl (la_a hL (by decide) rfl) ex7 ?_
        refine tr_iadd (pc' := 83) (show decode cX10_pathOf 82 = .ok (.iadd, 1) by decide +kernel) rfl ?_
        obtain ⟨x8, ex8, h⟩ := hm_bs h
        have cx8 := ok_X10_lesser (fr := fr - 1) (ν := ν) (by omega) y5 (x6 + x7) μ1 hL ex8
        refine tp_callS (pc' := 86) (As := [.int y5, .int (x6 + x7)]) (fr1 := fr - 1) okm_X10_lesser lk_HandRingModel_340 (show decode cX10_pathOf 83 = .ok (.invokestatic 340, 3) by decide +kernel) rfl rfl rfl (Nat.le_of_ble_eq_true rfl) (by omega) cx8 (st' := [.int x8]) rfl ?_
        refine tr_istore (pc' := 88) (lv' := [some (.ref 179), none, some (.int v2), some (.int w38_3), none, some (.int x8), some (.int y6)]) (show decode cX10_pathOf 86 = .ok (.istore 5, 2) by decide +kernel) rfl (Nat.le_of_ble_eq_true rfl) rfl rfl ?_
        exact ok_X10_pathOf_J88 hfr _ _ w38_3 (f_X10_pathOf_L38 v1 v2 w38_3 e94 n) e94 ih he94 x8 y6 μ1 hL h
def f_X10_pathOf (v1 : Int32) (v2 : Int32) (μ : hm_M) : Option Int32 :=
  Option.bind (some (v1 &&& (((1 : Int32) <<< (v2 &&& 31)) ^^^ (-1 : Int32)))) fun x2 =>
  Option.bind (f_X10_lowest v1) fun x3 =>
  (if v2 = x3 then
  (if x2 = 0 then
  some (0 : Int32)
  else
  some (1000000 : Int32))
  else
  f_X10_pathOf_L38 v1 v2 x2 (fun z9_5 μz9 => some z9_5) hm_fu (1000000 : Int32) (0 : Int32) μ)
set_option maxRecDepth 100000 in
theorem ok_X10_pathOf {fr : Nat} (hfr : 2 ≤ fr) {ν : hm_N} {r : Int32}  (v1 : Int32) (v2 : Int32)  (μ : hm_M) (hL : hm_LL ν μ) (h : f_X10_pathOf v1 v2 μ = some r) : hm_CC (hm_LL ν) m_X10_pathOf fr 0 0 [.ref 179, .int v1, .int v2] μ (some (.int r)) μ := by
  refine hm_enter (lv := [some (.ref 179), some (.int v1), some (.int v2), none, none, none, none]) (by decide) rfl (Nat.le_of_ble_eq_true rfl) ?_
  unfold f_X10_pathOf at h
  refine tr_iload_n (pc' := 1) (show decode cX10_pathOf 0 = .ok (.iload_n 1, 1) by decide +kernel) rfl rfl rfl ?_
  refine tr_iconst (pc' := 2) (v := (1 : Int32)) (show decode cX10_pathOf 1 = .ok (.iconst 1, 1) by decide +kernel) rfl (by decide) ?_
  refine tr_iload_n (pc' := 3) (show decode cX10_pathOf 2 = .ok (.iload_n 2, 1) by decide +kernel) rfl rfl rfl ?_
  refine tr_ishl (pc' := 4) (show decode cX10_pathOf 3 = .ok (.ishl, 1) by decide +kernel) rfl ?_
  refine tr_iconst (pc' := 5) (v := (-1 : Int32)) (show decode cX10_pathOf 4 = .ok (.iconst (-1), 1) by decide +kernel) rfl (by decide) ?_
  refine tr_ixor (pc' := 6) (show decode cX10_pathOf 5 = .ok (.ixor, 1) by decide +kernel) rfl ?_
  refine tr_iand (pc' := 7) (show decode cX10_pathOf 6 = .ok (.iand, 1) by decide +kernel) rfl ?_
  obtain ⟨x2, ex2, h⟩ := hm_bs h
  have ex2 := Option.some.inj ex2
  rw [ex2]
  refine tr_istore_n (pc' := 8) (lv' := [some (.ref 179), some (.int v1), some (.int v2), some (.int x2), none, none, none]) (show decode cX10_pathOf 7 = .ok (.istore_n 3, 1) by decide +kernel) rfl rfl (Nat.le_of_ble_eq_true rfl) rfl rfl ?_
  refine tr_iload_n (pc' := 9) (show decode cX10_pathOf 8 = .ok (.iload_n 1, 1) by decide +kernel) rfl rfl rfl ?_
  obtain ⟨x3, ex3, h⟩ := hm_bs h
  have cx3 := ok_X10_lowest (fr := fr - 1) (ν := ν) (by omega) v1 μ hL ex3
  refine tp_callS (pc' := 12) (As := [.int v1]) (fr1 := fr - 1) okm_X10_lowest lk_HandRingModel_451 (show decode cX10_pathOf 9 = .ok (.invokestatic 451, 3) by decide +kernel) rfl rfl rfl (Nat.le_of_ble_eq_true rfl) (by omega) cx3 (st' := [.int x3]) rfl ?_
  refine tr_istore (pc' := 14) (lv' := [some (.ref 179), some (.int v1), some (.int v2), some (.int x2), some (.int x3), none, none]) (show decode cX10_pathOf 12 = .ok (.istore 4, 2) by decide +kernel) rfl (Nat.le_of_ble_eq_true rfl) rfl rfl ?_
  refine tr_iload_n (pc' := 15) (show decode cX10_pathOf 14 = .ok (.iload_n 2, 1) by decide +kernel) rfl rfl rfl ?_
  refine tr_iload (pc' := 17) (show decode cX10_pathOf 15 = .ok (.iload 4, 2) by decide +kernel) rfl rfl ?_
  rcases hm_is h with ⟨hc, h⟩ | ⟨hc, h⟩
  · refine tr_icmp_ne_f (tgt := 31) (pc' := 20) hc (show decode cX10_pathOf 17 = .ok (.if_icmp .ne 14, 3) by decide +kernel) (by decide) rfl ?_
    refine tr_iload_n (pc' := 21) (show decode cX10_pathOf 20 = .ok (.iload_n 3, 1) by decide +kernel) rfl rfl rfl ?_
    rcases hm_is h with ⟨hc, h⟩ | ⟨hc, h⟩
    · refine tr_if_ne_f (tgt := 28) (pc' := 24) hc (show decode cX10_pathOf 21 = .ok (.ifCond .ne 7, 3) by decide +kernel) (by decide) rfl ?_
      refine tr_iconst (pc' := 25) (v := (0 : Int32)) (show decode cX10_pathOf 24 = .ok (.iconst 0, 1) by decide +kernel) rfl (by decide) ?_
      refine tr_goto (tgt := 30) (show decode cX10_pathOf 25 = .ok (.goto 5, 3) by decide +kernel) rfl ?_
      cases h
      exact tr_iret rfl (show decode cX10_pathOf 30 = .ok (.ireturn, 1) by decide +kernel) hL
    · refine tr_if_ne_t (tgt := 28) hc (show decode cX10_pathOf 21 = .ok (.ifCond .ne 7, 3) by decide +kernel) (by decide) ?_
      refine tr_ldc (pc' := 30) (v := (1000000 : Int32)) (show decode cX10_pathOf 28 = .ok (.ldc 180, 2) by decide +kernel) rfl kc_HandRingModel_180 ?_
      cases h
      exact tr_iret rfl (show decode cX10_pathOf 30 = .ok (.ireturn, 1) by decide +kernel) hL
  · refine tr_icmp_ne_t (tgt := 31) hc (show decode cX10_pathOf 17 = .ok (.if_icmp .ne 14, 3) by decide +kernel) (by decide) ?_
    refine tr_ldc (pc' := 33) (v := (1000000 : Int32)) (show decode cX10_pathOf 31 = .ok (.ldc 180, 2) by decide +kernel) rfl kc_HandRingModel_180 ?_
    refine tr_istore (pc' := 35) (lv' := [some (.ref 179), some (.int v1), some (.int v2), some (.int x2), some (.int x3), some (.int (1000000 : Int32)), none]) (show decode cX10_pathOf 33 = .ok (.istore 5, 2) by decide +kernel) rfl (Nat.le_of_ble_eq_true rfl) rfl rfl ?_
    refine tr_iconst (pc' := 36) (v := (0 : Int32)) (show decode cX10_pathOf 35 = .ok (.iconst 0, 1) by decide +kernel) rfl (by decide) ?_
    refine tr_istore (pc' := 38) (lv' := [some (.ref 179), some (.int v1), some (.int v2), some (.int x2), some (.int x3), some (.int (1000000 : Int32)), some (.int (0 : Int32))]) (show decode cX10_pathOf 36 = .ok (.istore 6, 2) by decide +kernel) rfl (Nat.le_of_ble_eq_true rfl) rfl rfl ?_
    refine hm_fgt [true, false, true, true, false, true, true] (lv' := [some (.ref 179), none, some (.int v2), some (.int x2), none, some (.int (1000000 : Int32)), some (.int (0 : Int32))]) rfl ?_
    refine ok_X10_pathOf_L38 hfr _ _ x2 _ ?_ _ (1000000 : Int32) (0 : Int32) μ hL h
    · intro z9_5 μz9 hL h
      refine tr_iload (pc' := 96) (show decode cX10_pathOf 94 = .ok (.iload 5, 2) by decide +kernel) rfl rfl ?_
      cases h
      exact tr_iret rfl (show decode cX10_pathOf 96 = .ok (.ireturn, 1) by decide +kernel) hL
def f_X10_laysRounds_J114 (w27_1 : Int32) (c7 : Int32 → hm_M → Option hm_M) (e126 : hm_M → Option hm_M) (c27 : Int32 → hm_M → Option hm_M) (e120 : hm_M → Option hm_M) (y2 : Int32) (μ1 : hm_M) : Option hm_M :=
  c27 (y2 + (1 : Int32)) μ1
theorem ok_X10_laysRounds_J114 {fr : Nat} (hfr : 91 ≤ fr) {ν : hm_N} {μR : hm_M}  (w27_1 : Int32) (c7 : Int32 → hm_M → Option hm_M) (e126 : hm_M → Option hm_M) (c27 : Int32 → hm_M → Option hm_M) (e120 : hm_M → Option hm_M) (hc7 : ∀ (y1 : Int32)  (μ1 : hm_M), hm_LL ν μ1 → c7 y1 μ1 = some μR → hm_T (hm_LL ν) m_X10_laysRounds fr 0 0 none μR 7 [some (.ref 179), some (.int y1), none] [] μ1) (he126 : ∀   (μ1 : hm_M), hm_LL ν μ1 → e126 μ1 = some μR → hm_T (hm_LL ν) m_X10_laysRounds fr 0 0 none μR 126 [none, none, none] [] μ1) (hc27 : ∀ (y2 : Int32)  (μ1 : hm_M), hm_LL ν μ1 → c27 y2 μ1 = some μR → hm_T (hm_LL ν) m_X10_laysRounds fr 0 0 none μR 27 [some (.ref 179), some (.int w27_1), some (.int y2)] [] μ1) (he120 : ∀   (μ1 : hm_M), hm_LL ν μ1 → e120 μ1 = some μR → hm_T (hm_LL ν) m_X10_laysRounds fr 0 0 none μR 120 [some (.ref 179), some (.int w27_1), none] [] μ1)  (y2 : Int32) (μ1 : hm_M) (hL : hm_LL ν μ1) (h : f_X10_laysRounds_J114 w27_1 c7 e126 c27 e120 y2 μ1 = some μR) : hm_T (hm_LL ν) m_X10_laysRounds fr 0 0 none μR 114 [some (.ref 179), some (.int w27_1), some (.int y2)] [] μ1 := by
  unfold f_X10_laysRounds_J114 at h
  refine tr_iinc (pc' := 117) (v := y2 + (1 : Int32)) (lv' := [some (.ref 179), some (.int w27_1), some (.int (y2 + (1 : Int32)))]) (show decode cX10_laysRounds 114 = .ok (.iinc 2 1, 3) by decide +kernel) rfl rfl rfl (Nat.le_of_ble_eq_true rfl) rfl rfl ?_
  refine tr_goto (tgt := 27) (show decode cX10_laysRounds 117 = .ok (.goto (-90), 3) by decide +kernel) rfl ?_
  exact hc27 (y2 + (1 : Int32)) μ1 hL h
def f_X10_laysRounds_J64 (w27_1 : Int32) (c7 : Int32 → hm_M → Option hm_M) (e126 : hm_M → Option hm_M) (c27 : Int32 → hm_M → Option hm_M) (e120 : hm_M → Option hm_M) (s0 : Int32) (s1 : Int32) (y2 : Int32) (μ1 : hm_M) : Option hm_M :=
  Option.bind (hm_sd μ1 200 2048 s1 s0) fun μ8 =>
  Option.bind (f_X10_ones w27_1) fun x9 =>
  (if x9 < (3 : Int32) then
  f_X10_laysRounds_J114 w27_1 c7 e126 c27 e120 y2 μ8
  else
  Option.bind (hm_ld μ8 201 256 w27_1) fun x10 =>
  Option.bind (hm_ld μ8 200 2048 (((8 : Int32) * w27_1) + y2)) fun x11 =>
  Option.bind (f_X10_lowest w27_1) fun x12 =>
  Option.bind (hm_ld μ8 196 64 (((8 : Int32) * y2) + x12)) fun x13 =>
  Option.bind (f_X10_lesser x10 (x11 + x13)) fun x14 =>
  Option.bind (hm_sd μ8 201 256 w27_1 x14) fun μ15 =>
  f_X10_laysRounds_J114 w27_1 c7 e126 c27 e120 y2 μ15)
theorem ok_X10_laysRounds_J64 {fr : Nat} (hfr : 91 ≤ fr) {ν : hm_N} {μR : hm_M}  (w27_1 : Int32) (c7 : Int32 → hm_M → Option hm_M) (e126 : hm_M → Option hm_M) (c27 : Int32 → hm_M → Option hm_M) (e120 : hm_M → Option hm_M) (hc7 : ∀ (y1 : Int32)  (μ1 : hm_M), hm_LL ν μ1 → c7 y1 μ1 = some μR → hm_T (hm_LL ν) m_X10_laysRounds fr 0 0 none μR 7 [some (.ref 179), some (.int y1), none] [] μ1) (he126 : ∀   (μ1 : hm_M), hm_LL ν μ1 → e126 μ1 = some μR → hm_T (hm_LL ν) m_X10_laysRounds fr 0 0 none μR 126 [none, none, none] [] μ1) (hc27 : ∀ (y2 : Int32)  (μ1 : hm_M), hm_LL ν μ1 → c27 y2 μ1 = some μR → hm_T (hm_LL ν) m_X10_laysRounds fr 0 0 none μR 27 [some (.ref 179), some (.int w27_1), some (.int y2)] [] μ1) (he120 : ∀   (μ1 : hm_M), hm_LL ν μ1 → e120 μ1 = some μR → hm_T (hm_LL ν) m_X10_laysRounds fr 0 0 none μR 120 [some (.ref 179), some (.int w27_1), none] [] μ1)  (s0 : Int32) (s1 : Int32) (y2 : Int32) (μ1 : hm_M) (hL : hm_LL ν μ1) (h : f_X10_laysRounds_J64 w27_1 c7 e126 c27 e120 s0 s1 y2 μ1 = some μR) : hm_T (hm_LL ν) m_X10_laysRounds fr 0 0 none μR 64 [some (.ref 179), some (.int w27_1), some (.int y2)] [.int s0, .int s1, .ref 200] μ1 := by
  unfold f_X10_laysRounds_J64 at h
  obtain ⟨μ8, eμ8, h⟩ := hm_bs h
  refine tp_sdI (pc' := 65) (show decode cX10_laysRounds 64 = .ok (.iastore, 1) by decide +kernel) rfl (la_a hL (by decide) rfl) eμ8 ?_
  replace hL := hL.same (hm_sd_s eμ8)
  refine tr_iload_n (pc' := 66) (show decode cX10_laysRounds 65 = .ok (.iload_n 1, 1) by decide +kernel) rfl rfl rfl ?_
  obtain ⟨x9, ex9, h⟩ := hm_bs h
  have cx9 := ok_X10_ones (fr := fr - 1) (ν := ν) (by omega) w27_1 μ8 hL ex9
  refine tp_callS (pc' := 69) (As := [.int w27_1]) (fr1 := fr - 1) okm_X10_ones lk_HandRingModel_310 (show decode cX10_laysRounds 66 = .ok (.invokestatic 310, 3) by decide +kernel) rfl rfl rfl (Nat.le_of_ble_eq_true rfl) (by omega) cx9 (st' := [.int x9]) rfl ?_
  refine tr_iconst (pc' := 70) (v := (3 : Int32)) (show decode cX10_laysRounds 69 = .ok (.iconst 3, 1) by decide +kernel) rfl (by decide) ?_
  rcases hm_is h with ⟨hc, h⟩ | ⟨hc, h⟩
  · refine tr_icmp_lt_t (tgt := 114) hc (show decode cX10_laysRounds 70 = .ok (.if_icmp .lt 44, 3) by decide +kernel) (by decide) ?_
    exact ok_X10_laysRounds_J114 hfr w27_1 c7 e126 c27 e120 hc7 he126 hc27 he120 y2 μ8 hL h
  · refine tr_icmp_lt_f (tgt := 114) (pc' := 73) hc (show decode cX10_laysRounds 70 = .ok (.if_icmp .lt 44, 3) by decide +kernel) (by decide) rfl ?_
    refine tr_aload_n (pc' := 74) (show decode cX10_laysRounds 73 = .ok (.aload_n 0, 1) by decide +kernel) rfl rfl rfl ?_
    refine tr_getR (pc' := 77) fl_HandRingModel_89 (show decode cX10_laysRounds 74 = .ok (.getfield 89, 3) by decide +kernel) rfl (la_o hL (by decide) rfl) (la_r hL 138 rfl) ?_
    refine tr_iload_n (pc' := 78) (show decode cX10_laysRounds 77 = .ok (.iload_n 1, 1) by decide +kernel) rfl rfl rfl ?_
    refine tr_aload_n (pc' := 79) (show decode cX10_laysRounds 78 = .ok (.aload_n 0, 1) by decide +kernel) rfl rfl rfl ?_
    refine tr_getR (pc' := 82) fl_HandRingModel_89 (show decode cX10_laysRounds 79 = .ok (.getfield 89, 3) by decide +kernel) rfl (la_o hL (by decide) rfl) (la_r hL 138 rfl) ?_
    refine tr_iload_n (pc' := 83) (show decode cX10_laysRounds 82 = .ok (.iload_n 1, 1) by decide +kernel) rfl rfl rfl ?_
    obtain ⟨x10, ex10, h⟩ := hm_bs h
    refine tp_ldI (pc' := 84) (show decode cX10_laysRounds 83 = .ok (.iaload, 1) by decide +kernel) rfl (la_a hL (by decide) rfl) ex10 ?_
    refine tr_aload_n (pc' := 85) (show decode cX10_laysRounds 84 = .ok (.aload_n 0, 1) by decide +kernel) rfl rfl rfl ?_
    refine tr_getR (pc' := 88) fl_HandRingModel_86 (show decode cX10_laysRounds 85 = .ok (.getfield 86, 3) by decide +kernel) rfl (la_o hL (by decide) rfl) (la_r hL 137 rfl) ?_
    refine tr_bipush (pc' := 90) (v := (8 : Int32)) (show decode cX10_laysRounds 88 = .ok (.bipush 8, 2) by decide +kernel) rfl (by decide) ?_
    refine tr_iload_n (pc' := 91) (show decode cX10_laysRounds 90 = .ok (.iload_n 1, 1) by decide +kernel) rfl rfl rfl ?_
    refine tr_imul (pc' := 92) (show decode cX10_laysRounds 91 = .ok (.imul, 1) by decide +kernel) rfl ?_
    refine tr_iload_n (pc' := 93) (show decode cX10_laysRounds 92 = .ok (.iload_n 2, 1) by decide +kernel) rfl rfl rfl ?_
    refine tr_iadd (pc' := 94) (show decode cX10_laysRounds 93 = .ok (.iadd, 1) by decide +kernel) rfl ?_
    obtain ⟨x11, ex11, h⟩ := hm_bs h
    refine tp_ldI (pc' := 95) (show decode cX10_laysRounds 94 = .ok (.iaload, 1) by decide +kernel) rfl (la_a hL (by decide) rfl) ex11 ?_
    refine tr_aload_n (pc' := 96) (show decode cX10_laysRounds 95 = .ok (.aload_n 0, 1) by decide +kernel) rfl rfl rfl ?_
    refine tr_getR (pc' := 99) fl_HandRingModel_74 (show decode cX10_laysRounds 96 = .ok (.getfield 74, 3) by decide +kernel) rfl (la_o hL (by decide) rfl) (la_r hL 133 rfl) ?_
    refine tr_bipush (pc' := 101) (v := (8 : Int32)) (show decode cX10_laysRounds 99 = .ok (.bipush 8, 2) by decide +kernel) rfl (by decide) ?_
    refine tr_iload_n (pc' := 102) (show decode cX10_laysRounds 101 = .ok (.iload_n 2, 1) by decide +kernel) rfl rfl rfl ?_
    refine tr_imul (pc' := 103) (show decode cX10_laysRounds 102 = .ok (.imul, 1) by decide +kernel) rfl ?_
    refine tr_iload_n (pc' := 104) (show decode cX10_laysRounds 103 = .ok (.iload_n 1, 1) by decide +kernel) rfl rfl rfl ?_
    obtain ⟨x12, ex12, h⟩ := hm_bs h
    have cx12 := ok_X10_lowest (fr := fr - 1) (ν := ν) (by omega) w27_1 μ8 hL ex12
    refine tp_callS (pc' := 107) (As := [.int w27_1]) (fr1 := fr - 1) okm_X10_lowest lk_HandRingModel_451 (show decode cX10_laysRounds 104 = .ok (.invokestatic 451, 3) by decide +kernel) rfl rfl rfl (Nat.le_of_ble_eq_true rfl) (by omega) cx12 (st' := [.int x12, .int ((8 : Int32) * y2), .ref 196, .int x11, .int x10, .int w27_1, .ref 201]) rfl ?_
    refine tr_iadd (pc' := 108) (show decode cX10_laysRounds 107 = .ok (.iadd, 1) by decide +kernel) rfl ?_
    obtain ⟨x13, ex13, h⟩ := hm_bs h
    refine tp_ldI (pc' := 109) (show decode cX10_laysRounds 108 = .ok (.iaload, 1) by decide +kernel) rfl (la_a hL (by decide) rfl) ex13 ?_
    refine tr_iadd (pc' := 110) (show decode cX10_laysRounds 109 = .ok (.iadd, 1) by decide +kernel) rfl ?_
    obtain ⟨x14, ex14, h⟩ := hm_bs h
    have cx14 := ok_X10_lesser (fr := fr - 1) (ν := ν) (by omega) x10 (x11 + x13) μ8 hL ex14
    refine tp_callS (pc' := 113) (As := [.int x10, .int (x11 + x13)]) (fr1 := fr - 1) okm_X10_lesser lk_HandRingModel_340 (show decode cX10_laysRounds 110 = .ok (.invokestatic 340, 3) by decide +kernel) rfl rfl rfl (Nat.le_of_ble_eq_true rfl) (by omega) cx14 (st' := [.int x14, .int w27_1, .ref 201]) rfl ?_
    obtain ⟨μ15, eμ15, h⟩ := hm_bs h
    refine tp_sdI (pc' := 114) (show decode cX10_laysRounds 113 = .ok (.iastore, 1) by decide +kernel) rfl (la_a hL (by decide) rfl) eμ15 ?_
    replace hL := hL.same (hm_sd_s eμ15)
    exact ok_X10_laysRounds_J114 hfr w27_1 c7 e126 c27 e120 hc7 he126 hc27 he120 y2 μ15 hL h
def f_X10_laysRounds_L27 (w27_1 : Int32) (c7 : Int32 → hm_M → Option hm_M) (e126 : hm_M → Option hm_M) (e120 : hm_M → Option hm_M) : Nat → Int32 → hm_M → Option hm_M
  | 0, _, _ => none
  | n + 1, y2, μ1 => Option.bind (f_X10_many μ1) fun x6 =>
  (if x6 ≤ y2 then
  e120 μ1
  else
  Option.bind (f_X10_isIn w27_1 y2) fun x7 =>
  (if x7 = 0 then
  f_X10_laysRounds_J64 w27_1 c7 e126 (f_X10_laysRounds_L27 w27_1 c7 e126 e120 n) e120 (1000000 : Int32) (((8 : Int32) * w27_1) + y2) y2 μ1
  else
  Option.bind (f_X10_pathOf w27_1 y2 μ1) fun x16 =>
  f_X10_laysRounds_J64 w27_1 c7 e126 (f_X10_laysRounds_L27 w27_1 c7 e126 e120 n) e120 x16 (((8 : Int32) * w27_1) + y2) y2 μ1))
theorem ok_X10_laysRounds_L27 {fr : Nat} (hfr : 91 ≤ fr) {ν : hm_N} {μR : hm_M}  (w27_1 : Int32) (c7 : Int32 → hm_M → Option hm_M) (e126 : hm_M → Option hm_M) (e120 : hm_M → Option hm_M) (hc7 : ∀ (y1 : Int32)  (μ1 : hm_M), hm_LL ν μ1 → c7 y1 μ1 = some μR → hm_T (hm_LL ν) m_X10_laysRounds fr 0 0 none μR 7 [some (.ref 179), some (.int y1), none] [] μ1) (he126 : ∀   (μ1 : hm_M), hm_LL ν μ1 → e126 μ1 = some μR → hm_T (hm_LL ν) m_X10_laysRounds fr 0 0 none μR 126 [none, none, none] [] μ1) (he120 : ∀   (μ1 : hm_M), hm_LL ν μ1 → e120 μ1 = some μR → hm_T (hm_LL ν) m_X10_laysRounds fr 0 0 none μR 120 [some (.ref 179), some (.int w27_1), none] [] μ1)  : ∀ (n : Nat) (y2 : Int32)  (μ1 : hm_M), hm_LL ν μ1 → f_X10_laysRounds_L27 w27_1 c7 e126 e120 n y2 μ1 = some μR → hm_T (hm_LL ν) m_X10_laysRounds fr 0 0 none μR 27 [some (.ref 179), some (.int w27_1), some (.int y2)] [] μ1 := by
  intro n
  induction n with
  | zero =>
    intro y2 μ1 hL h
    unfold f_X10_laysRounds_L27 at h
    cases h
  | succ n ih =>
    intro y2 μ1 hL h
    unfold f_X10_laysRounds_L27 at h
    refine tr_iload_n (pc' := 28) (show decode cX10_laysRounds 27 = .ok (.iload_n 2, 1) by decide +kernel) rfl rfl rfl ?_
    refine tr_aload_n (pc' := 29) (show decode cX10_laysRounds 28 = .ok (.aload_n 0, 1) by decide +kernel) rfl rfl rfl ?_
    obtain ⟨x6, ex6, h⟩ := hm_bs h
    have cx6 := ok_X10_many (fr := fr - 1) (ν := ν) (by omega) μ1 hL ex6
    refine tp_callV (pc' := 32) (As := []) (fr1 := fr - 1) (ci := 10) okm_X10_many lk_HandRingModel_118 (show decode cX10_laysRounds 29 = .ok (.invokevirtual 118, 3) by decide +kernel) rfl rfl rfl (by decide) (la_o hL (by decide) rfl) rfl rfl (Nat.le_of_ble_eq_true rfl) (by omega) cx6 (st' := [.int x6, .int y2]) rfl ?_
    rcases hm_is h with ⟨hc, h⟩ | ⟨hc, h⟩
    · refine tr_icmp_ge_t (tgt := 120) hc (show decode cX10_laysRounds 32 = .ok (.if_icmp .ge 88, 3) by decide +kernel) (by decide) ?_
      refine hm_fgt [true, true, false] (lv' := [some (.ref 179), some (.int w27_1), none]) rfl ?_
      exact he120 μ1 hL h
    · refine tr_icmp_ge_f (tgt := 120) (pc' := 35) hc (show decode cX10_laysRounds 32 = .ok (.if_icmp .ge 88, 3) by decide +kernel) (by decide) rfl ?_
      refine tr_aload_n (pc' := 36) (show decode cX10_laysRounds 35 = .ok (.aload_n 0, 1) by decide +kernel) rfl rfl rfl ?_
      refine tr_getR (pc' := 39) fl_HandRingModel_86 (show decode cX10_laysRounds 36 = .ok (.getfield 86, 3) by decide +kernel) rfl (la_o hL (by decide) rfl) (la_r hL 137 rfl) ?_
      refine tr_bipush (pc' := 41) (v := (8 : Int32)) (show decode cX10_laysRounds 39 = .ok (.bipush 8, 2) by decide +kernel) rfl (by decide) ?_
      refine tr_iload_n (pc' := 42) (show decode cX10_laysRounds 41 = .ok (.iload_n 1, 1) by decide +kernel) rfl rfl rfl ?_
      refine tr_imul (pc' := 43) (show decode cX10_laysRounds 42 = .ok (.imul, 1) by decide +kernel) rfl ?_
      refine tr_iload_n (pc' := 44) (show decode cX10_laysRounds 43 = .ok (.iload_n 2, 1) by decide +kernel) rfl rfl rfl ?_
      refine tr_iadd (pc' := 45) (show decode cX10_laysRounds 44 = .ok (.iadd, 1) by decide +kernel) rfl ?_
      refine tr_iload_n (pc' := 46) (show decode cX10_laysRounds 45 = .ok (.iload_n 1, 1) by decide +kernel) rfl rfl rfl ?_
      refine tr_iload_n (pc' := 47) (show decode cX10_laysRounds 46 = .ok (.iload_n 2, 1) by decide +kernel) rfl rfl rfl ?_
      obtain ⟨x7, ex7, h⟩ := hm_bs h
      have cx7 := ok_X10_isIn (fr := fr - 1) (ν := ν) (by omega) w27_1 y2 μ1 hL ex7
      refine tp_callS (pc' := 50) (As := [.int w27_1, .int y2]) (fr1 := fr - 1) okm_X10_isIn lk_HandRingModel_356 (show decode cX10_laysRounds 47 = .ok (.invokestatic 356, 3) by decide +kernel) rfl rfl rfl (Nat.le_of_ble_eq_true rfl) (by omega) cx7 (st' := [.int x7, .int (((8 : Int32) * w27_1) + y2), .ref 200]) rfl ?_
      rcases hm_is h with ⟨hc, h⟩ | ⟨hc, h⟩
      · refine tr_if_eq_t (tgt := 62) hc (show decode cX10_laysRounds 50 = .ok (.ifCond .eq 12, 3) by decide +kernel) (by decide) ?_
        refine tr_ldc (pc' := 64) (v := (1000000 : Int32)) (show decode cX10_laysRounds 62 = .ok (.ldc 180, 2) by decide +kernel) rfl kc_HandRingModel_180 ?_
        exact ok_X10_laysRounds_J64 hfr w27_1 c7 e126 (f_X10_laysRounds_L27 w27_1 c7 e126 e120 n) e120 hc7 he126 ih he120 (1000000 : Int32) (((8 : Int32) * w27_1) + y2) y2 μ1 hL h
      · refine tr_if_eq_f (tgt := 62) (pc' := 53) hc (show decode cX10_laysRounds 50 = .ok (.ifCond .eq 12, 3) by decide +kernel) (by decide) rfl ?_
        refine tr_aload_n (pc' := 54) (show decode cX10_laysRounds 53 = .ok (.aload_n 0, 1) by decide +kernel) rfl rfl rfl ?_
        refine tr_iload_n (pc' := 55) (show decode cX10_laysRounds 54 = .ok (.iload_n 1, 1) by decide +kernel) rfl rfl rfl ?_
        refine tr_iload_n (pc' := 56) (show decode cX10_laysRounds 55 = .ok (.iload_n 2, 1) by decide +kernel) rfl rfl rfl ?_
        obtain ⟨x16, ex16, h⟩ := hm_bs h
        have cx16 := ok_X10_pathOf (fr := fr - 1) (ν := ν) (by omega) w27_1 y2 μ1 hL ex16
        refine tp_callV (pc' := 59) (As := [.int w27_1, .int y2]) (fr1 := fr - 1) (ci := 10) okm_X10_pathOf lk_HandRingModel_454 (show decode cX10_laysRounds 56 = .ok (.invokevirtual 454, 3) by decide +kernel) rfl rfl rfl (by decide) (la_o hL (by decide) rfl) rfl rfl (Nat.le_of_ble_eq_true rfl) (by omega) cx16 (st' := [.int x16, .int (((8 : Int32) * w27_1) + y2), .ref 200]) rfl ?_
        refine tr_goto (tgt := 64) (show decode cX10_laysRounds 59 = .ok (.goto 5, 3) by decide +kernel) rfl ?_
        exact ok_X10_laysRounds_J64 hfr w27_1 c7 e126 (f_X10_laysRounds_L27 w27_1 c7 e126 e120 n) e120 hc7 he126 ih he120 x16 (((8 : Int32) * w27_1) + y2) y2 μ1 hL h
def f_X10_laysRounds_L7 (e126 : hm_M → Option hm_M) : Nat → Int32 → hm_M → Option hm_M
  | 0, _, _ => none
  | n + 1, y1, μ1 => Option.bind (f_X10_many μ1) fun x4 =>
  (if ((1 : Int32) <<< (x4 &&& 31)) ≤ y1 then
  e126 μ1
  else
  Option.bind (hm_sd μ1 201 256 y1 (1000000 : Int32)) fun μ5 =>
  f_X10_laysRounds_L27 y1 (f_X10_laysRounds_L7 e126 n) e126 (fun μz17 => (f_X10_laysRounds_L7 e126 n) (y1 + (1 : Int32)) μz17) hm_fu (0 : Int32) μ5)
theorem ok_X10_laysRounds_L7 {fr : Nat} (hfr : 91 ≤ fr) {ν : hm_N} {μR : hm_M}   (e126 : hm_M → Option hm_M)  (he126 : ∀   (μ1 : hm_M), hm_LL ν μ1 → e126 μ1 = some μR → hm_T (hm_LL ν) m_X10_laysRounds fr 0 0 none μR 126 [none, none, none] [] μ1)  : ∀ (n : Nat) (y1 : Int32)  (μ1 : hm_M), hm_LL ν μ1 → f_X10_laysRounds_L7 e126 n y1 μ1 = some μR → hm_T (hm_LL ν) m_X10_laysRounds fr 0 0 none μR 7 [some (.ref 179), some (.int y1), none] [] μ1 := by
  intro n
  induction n with
  | zero =>
    intro y1 μ1 hL h
    unfold f_X10_laysRounds_L7 at h
    cases h
  | succ n ih =>
    intro y1 μ1 hL h
    unfold f_X10_laysRounds_L7 at h
    refine tr_iload_n (pc' := 8) (show decode cX10_laysRounds 7 = .ok (.iload_n 1, 1) by decide +kernel) rfl rfl rfl ?_
    refine tr_iconst (pc' := 9) (v := (1 : Int32)) (show decode cX10_laysRounds 8 = .ok (.iconst 1, 1) by decide +kernel) rfl (by decide) ?_
    refine tr_aload_n (pc' := 10) (show decode cX10_laysRounds 9 = .ok (.aload_n 0, 1) by decide +kernel) rfl rfl rfl ?_
    obtain ⟨x4, ex4, h⟩ := hm_bs h
    have cx4 := ok_X10_many (fr := fr - 1) (ν := ν) (by omega) μ1 hL ex4
    refine tp_callV (pc' := 13) (As := []) (fr1 := fr - 1) (ci := 10) okm_X10_many lk_HandRingModel_118 (show decode cX10_laysRounds 10 = .ok (.invokevirtual 118, 3) by decide +kernel) rfl rfl rfl (by decide) (la_o hL (by decide) rfl) rfl rfl (Nat.le_of_ble_eq_true rfl) (by omega) cx4 (st' := [.int x4, .int (1 : Int32), .int y1]) rfl ?_
    refine tr_ishl (pc' := 14) (show decode cX10_laysRounds 13 = .ok (.ishl, 1) by decide +kernel) rfl ?_
    rcases hm_is h with ⟨hc, h⟩ | ⟨hc, h⟩
    · refine tr_icmp_ge_t (tgt := 126) hc (show decode cX10_laysRounds 14 = .ok (.if_icmp .ge 112, 3) by decide +kernel) (by decide) ?_
      refine hm_fgt [false, false, false] (lv' := [none, none, none]) rfl ?_
      exact he126 μ1 hL h
    · refine tr_icmp_ge_f (tgt := 126) (pc' := 17) hc (show decode cX10_laysRounds 14 = .ok (.if_icmp .ge 112, 3) by decide +kernel) (by decide) rfl ?_
      refine tr_aload_n (pc' := 18) (show decode cX10_laysRounds 17 = .ok (.aload_n 0, 1) by decide +kernel) rfl rfl rfl ?_
      refine tr_getR (pc' := 21) fl_HandRingModel_89 (show decode cX10_laysRounds 18 = .ok (.getfield 89, 3) by decide +kernel) rfl (la_o hL (by decide) rfl) (la_r hL 138 rfl) ?_
      refine tr_iload_n (pc' := 22) (show decode cX10_laysRounds 21 = .ok (.iload_n 1, 1) by decide +kernel) rfl rfl rfl ?_
      refine tr_ldc (pc' := 24) (v := (1000000 : Int32)) (show decode cX10_laysRounds 22 = .ok (.ldc 180, 2) by decide +kernel) rfl kc_HandRingModel_180 ?_
      obtain ⟨μ5, eμ5, h⟩ := hm_bs h
      refine tp_sdI (pc' := 25) (show decode cX10_laysRounds 24 = .ok (.iastore, 1) by decide +kernel) rfl (la_a hL (by decide) rfl) eμ5 ?_
      replace hL := hL.same (hm_sd_s eμ5)
      refine tr_iconst (pc' := 26) (v := (0 : Int32)) (show decode cX10_laysRounds 25 = .ok (.iconst 0, 1) by decide +kernel) rfl (by decide) ?_
      refine tr_istore_n (pc' := 27) (lv' := [some (.ref 179), some (.int y1), some (.int (0 : Int32))]) (show decode cX10_laysRounds 26 = .ok (.istore_n 2, 1) by decide +kernel) rfl rfl (Nat.le_of_ble_eq_true rfl) rfl rfl ?_
      refine ok_X10_laysRounds_L27 hfr y1 (f_X10_laysRounds_L7 e126 n) e126 _ ih he126 ?_ _ (0 : Int32) μ5 hL h
      · intro μz17 hL h
        refine tr_iinc (pc' := 123) (v := y1 + (1 : Int32)) (lv' := [some (.ref 179), some (.int (y1 + (1 : Int32))), none]) (show decode cX10_laysRounds 120 = .ok (.iinc 1 1, 3) by decide +kernel) rfl rfl rfl (Nat.le_of_ble_eq_true rfl) rfl rfl ?_
        refine tr_goto (tgt := 7) (show decode cX10_laysRounds 123 = .ok (.goto (-116), 3) by decide +kernel) rfl ?_
        exact ih (y1 + (1 : Int32)) μz17 hL h
def f_X10_laysRounds (μ : hm_M) : Option hm_M :=
  Option.bind (f_X10_laysCosts (0 : Int32) μ) fun μ3 =>
  f_X10_laysRounds_L7 (fun μz18 => some μz18) hm_fu (1 : Int32) μ3
set_option maxRecDepth 100000 in
theorem ok_X10_laysRounds {fr : Nat} (hfr : 91 ≤ fr) {ν : hm_N} {μR : hm_M}    (μ : hm_M) (hL : hm_LL ν μ) (h : f_X10_laysRounds μ = some μR) : hm_CC (hm_LL ν) m_X10_laysRounds fr 0 0 [.ref 179] μ none μR := by
  refine hm_enter (lv := [some (.ref 179), none, none]) (by decide) rfl (Nat.le_of_ble_eq_true rfl) ?_
  unfold f_X10_laysRounds at h
  refine tr_aload_n (pc' := 1) (show decode cX10_laysRounds 0 = .ok (.aload_n 0, 1) by decide +kernel) rfl rfl rfl ?_
  refine tr_iconst (pc' := 2) (v := (0 : Int32)) (show decode cX10_laysRounds 1 = .ok (.iconst 0, 1) by decide +kernel) rfl (by decide) ?_
  obtain ⟨μ3, ex2, h⟩ := hm_bs h
  have cx2 := ok_X10_laysCosts (fr := fr - 1) (ν := ν) (by omega) (0 : Int32) μ hL ex2
  refine tp_callV (pc' := 5) (As := [.int (0 : Int32)]) (fr1 := fr - 1) (ci := 10) okm_X10_laysCosts lk_HandRingModel_420 (show decode cX10_laysRounds 2 = .ok (.invokevirtual 420, 3) by decide +kernel) rfl rfl rfl (by decide) (la_o hL (by decide) rfl) rfl rfl (Nat.le_of_ble_eq_true rfl) (by omega) cx2 (st' := []) rfl ?_
  replace hL := cx2.1
  refine tr_iconst (pc' := 6) (v := (1 : Int32)) (show decode cX10_laysRounds 5 = .ok (.iconst 1, 1) by decide +kernel) rfl (by decide) ?_
  refine tr_istore_n (pc' := 7) (lv' := [some (.ref 179), some (.int (1 : Int32)), none]) (show decode cX10_laysRounds 6 = .ok (.istore_n 1, 1) by decide +kernel) rfl rfl (Nat.le_of_ble_eq_true rfl) rfl rfl ?_
  refine ok_X10_laysRounds_L7 hfr _ ?_ _ (1 : Int32) μ3 hL h
  · intro μz18 hL h
    cases h
    exact tr_vret rfl (show decode cX10_laysRounds 126 = .ok (.return_, 1) by decide +kernel) hL
def f_X10_kept_J53 (v1 : Int32) (c19 : Int32 → Int32 → hm_M → Option (Int32 × hm_M)) (e59 : Int32 → hm_M → Option (Int32 × hm_M)) (y2 : Int32) (y3 : Int32) (μ1 : hm_M) : Option (Int32 × hm_M) :=
  c19 y2 (y3 + (1 : Int32)) μ1
theorem ok_X10_kept_J53 {fr : Nat} (hfr : 92 ≤ fr) {ν : hm_N} {r : Int32} {μR : hm_M}  (v1 : Int32) (c19 : Int32 → Int32 → hm_M → Option (Int32 × hm_M)) (e59 : Int32 → hm_M → Option (Int32 × hm_M)) (hc19 : ∀ (y2 : Int32) (y3 : Int32)  (μ1 : hm_M), hm_LL ν μ1 → c19 y2 y3 μ1 = some (r, μR) → hm_T (hm_LL ν) m_X10_kept fr 0 0 (some (.int r)) μR 19 [some (.ref 179), some (.int v1), some (.int y2), some (.int y3)] [] μ1) (he59 : ∀ (y2 : Int32)  (μ1 : hm_M), hm_LL ν μ1 → e59 y2 μ1 = some (r, μR) → hm_T (hm_LL ν) m_X10_kept fr 0 0 (some (.int r)) μR 59 [none, some (.int v1), some (.int y2), none] [] μ1)  (y2 : Int32) (y3 : Int32) (μ1 : hm_M) (hL : hm_LL ν μ1) (h : f_X10_kept_J53 v1 c19 e59 y2 y3 μ1 = some (r, μR)) : hm_T (hm_LL ν) m_X10_kept fr 0 0 (some (.int r)) μR 53 [some (.ref 179), some (.int v1), some (.int y2), some (.int y3)] [] μ1 := by
  unfold f_X10_kept_J53 at h
  refine tr_iinc (pc' := 56) (v := y3 + (1 : Int32)) (lv' := [some (.ref 179), some (.int v1), some (.int y2), some (.int (y3 + (1 : Int32)))]) (show decode cX10_kept 53 = .ok (.iinc 3 1, 3) by decide +kernel) rfl rfl rfl (Nat.le_of_ble_eq_true rfl) rfl rfl ?_
  refine tr_goto (tgt := 19) (show decode cX10_kept 56 = .ok (.goto (-37), 3) by decide +kernel) rfl ?_
  exact hc19 y2 (y3 + (1 : Int32)) μ1 hL h
def f_X10_kept_L19 (v1 : Int32) (e59 : Int32 → hm_M → Option (Int32 × hm_M)) : Nat → Int32 → Int32 → hm_M → Option (Int32 × hm_M)
  | 0, _, _, _ => none
  | n + 1, y2, y3, μ1 => Option.bind (f_X10_many μ1) fun x5 =>
  (if ((1 : Int32) <<< (x5 &&& 31)) ≤ y3 then
  e59 y2 μ1
  else
  Option.bind (hm_ld μ1 201 256 y3) fun x6 =>
  (if (1000000 : Int32) ≤ x6 then
  f_X10_kept_J53 v1 (f_X10_kept_L19 v1 e59 n) e59 y2 y3 μ1
  else
  Option.bind (f_X10_ones y3) fun x7 =>
  Option.bind (f_X10_ones y2) fun x8 =>
  (if x7 ≤ x8 then
  f_X10_kept_J53 v1 (f_X10_kept_L19 v1 e59 n) e59 y2 y3 μ1
  else
  f_X10_kept_J53 v1 (f_X10_kept_L19 v1 e59 n) e59 y3 y3 μ1)))
theorem ok_X10_kept_L19 {fr : Nat} (hfr : 92 ≤ fr) {ν : hm_N} {r : Int32} {μR : hm_M}  (v1 : Int32) (e59 : Int32 → hm_M → Option (Int32 × hm_M))  (he59 : ∀ (y2 : Int32)  (μ1 : hm_M), hm_LL ν μ1 → e59 y2 μ1 = some (r, μR) → hm_T (hm_LL ν) m_X10_kept fr 0 0 (some (.int r)) μR 59 [none, some (.int v1), some (.int y2), none] [] μ1)  : ∀ (n : Nat) (y2 : Int32) (y3 : Int32)  (μ1 : hm_M), hm_LL ν μ1 → f_X10_kept_L19 v1 e59 n y2 y3 μ1 = some (r, μR) → hm_T (hm_LL ν) m_X10_kept fr 0 0 (some (.int r)) μR 19 [some (.ref 179), some (.int v1), some (.int y2), some (.int y3)] [] μ1 := by
  intro n
  induction n with
  | zero =>
    intro y2 y3 μ1 hL h
    unfold f_X10_kept_L19 at h
    cases h
  | succ n ih =>
    intro y2 y3 μ1 hL h
    unfold f_X10_kept_L19 at h
    refine tr_iload_n (pc' := 20) (show decode cX10_kept 19 = .ok (.iload_n 3, 1) by decide +kernel) rfl rfl rfl ?_
    refine tr_iconst (pc' := 21) (v := (1 : Int32)) (show decode cX10_kept 20 = .ok (.iconst 1, 1) by decide +kernel) rfl (by decide) ?_
    refine tr_aload_n (pc' := 22) (show decode cX10_kept 21 = .ok (.aload_n 0, 1) by decide +kernel) rfl rfl rfl ?_
    obtain ⟨x5, ex5, h⟩ := hm_bs h
    have cx5 := ok_X10_many (fr := fr - 1) (ν := ν) (by omega) μ1 hL ex5
    refine tp_callV (pc' := 25) (As := []) (fr1 := fr - 1) (ci := 10) okm_X10_many lk_HandRingModel_118 (show decode cX10_kept 22 = .ok (.invokevirtual 118, 3) by decide +kernel) rfl rfl rfl (by decide) (la_o hL (by decide) rfl) rfl rfl (Nat.le_of_ble_eq_true rfl) (by omega) cx5 (st' := [.int x5, .int (1 : Int32), .int y3]) rfl ?_
    refine tr_ishl (pc' := 26) (show decode cX10_kept 25 = .ok (.ishl, 1) by decide +kernel) rfl ?_
    rcases hm_is h with ⟨hc, h⟩ | ⟨hc, h⟩
    · refine tr_icmp_ge_t (tgt := 59) hc (show decode cX10_kept 26 = .ok (.if_icmp .ge 33, 3) by decide +kernel) (by decide) ?_
      refine hm_fgt [false, true, true, false] (lv' := [none, some (.int v1), some (.int y2), none]) rfl ?_
      exact he59 y2 μ1 hL h
    · refine tr_icmp_ge_f (tgt := 59) (pc' := 29) hc (show decode cX10_kept 26 = .ok (.if_icmp .ge 33, 3) by decide +kernel) (by decide) rfl ?_
      refine tr_aload_n (pc' := 30) (show decode cX10_kept 29 = .ok (.aload_n 0, 1) by decide +kernel) rfl rfl rfl ?_
      refine tr_getR (pc' := 33) fl_HandRingModel_89 (show decode cX10_kept 30 = .ok (.getfield 89, 3) by decide +kernel) rfl (la_o hL (by decide) rfl) (la_r hL 138 rfl) ?_
      refine tr_iload_n (pc' := 34) (show decode cX10_kept 33 = .ok (.iload_n 3, 1) by decide +kernel) rfl rfl rfl ?_
      obtain ⟨x6, ex6, h⟩ := hm_bs h
      refine tp_ldI (pc' := 35) (show decode cX10_kept 34 = .ok (.iaload, 1) by decide +kernel) rfl (la_a hL (by decide) rfl) ex6 ?_
      refine tr_ldc (pc' := 37) (v := (1000000 : Int32)) (show decode cX10_kept 35 = .ok (.ldc 180, 2) by decide +kernel) rfl kc_HandRingModel_180 ?_
      rcases hm_is h with ⟨hc, h⟩ | ⟨hc, h⟩
      · refine tr_icmp_ge_t (tgt := 53) hc (show decode cX10_kept 37 = .ok (.if_icmp .ge 16, 3) by decide +kernel) (by decide) ?_
        exact ok_X10_kept_J53 hfr _ (f_X10_kept_L19 v1 e59 n) e59 ih he59 y2 y3 μ1 hL h
      · refine tr_icmp_ge_f (tgt := 53) (pc' := 40) hc (show decode cX10_kept 37 = .ok (.if_icmp .ge 16, 3) by decide +kernel) (by decide) rfl ?_
        refine tr_iload_n (pc' := 41) (show decode cX10_kept 40 = .ok (.iload_n 3, 1) by decide +kernel) rfl rfl rfl ?_
        obtain ⟨x7, ex7, h⟩ := hm_bs h
        have cx7 := ok_X10_ones (fr := fr - 1) (ν := ν) (by omega) y3 μ1 hL ex7
        refine tp_callS (pc' := 44) (As := [.int y3]) (fr1 := fr - 1) okm_X10_ones lk_HandRingModel_310 (show decode cX10_kept 41 = .ok (.invokestatic 310, 3) by decide +kernel) rfl rfl rfl (Nat.le_of_ble_eq_true rfl) (by omega) cx7 (st' := [.int x7]) rfl ?_
        refine tr_iload_n (pc' := 45) (show decode cX10_kept 44 = .ok (.iload_n 2, 1) by decide +kernel) rfl rfl rfl ?_
        obtain ⟨x8, ex8, h⟩ := hm_bs h
        have cx8 := ok_X10_ones (fr := fr - 1) (ν := ν) (by omega) y2 μ1 hL ex8
        refine tp_callS (pc' := 48) (As := [.int y2]) (fr1 := fr - 1) okm_X10_ones lk_HandRingModel_310 (show decode cX10_kept 45 = .ok (.invokestatic 310, 3) by decide +kernel) rfl rfl rfl (Nat.le_of_ble_eq_true rfl) (by omega) cx8 (st' := [.int x8, .int x7]) rfl ?_
        rcases hm_is h with ⟨hc, h⟩ | ⟨hc, h⟩
        · refine tr_icmp_le_t (tgt := 53) hc (show decode cX10_kept 48 = .ok (.if_icmp .le 5, 3) by decide +kernel) (by decide) ?_
          exact ok_X10_kept_J53 hfr _ (f_X10_kept_L19 v1 e59 n) e59 ih he59 y2 y3 μ1 hL h
        · refine tr_icmp_le_f (tgt := 53) (pc' := 51) hc (show decode cX10_kept 48 = .ok (.if_icmp .le 5, 3) by decide +kernel) (by decide) rfl ?_
          refine tr_iload_n (pc' := 52) (show decode cX10_kept 51 = .ok (.iload_n 3, 1) by decide +kernel) rfl rfl rfl ?_
          refine tr_istore_n (pc' := 53) (lv' := [some (.ref 179), some (.int v1), some (.int y3), some (.int y3)]) (show decode cX10_kept 52 = .ok (.istore_n 2, 1) by decide +kernel) rfl rfl (Nat.le_of_ble_eq_true rfl) rfl rfl ?_
          exact ok_X10_kept_J53 hfr _ (f_X10_kept_L19 v1 e59 n) e59 ih he59 y3 y3 μ1 hL h
def f_X10_kept (v1 : Int32) (μ : hm_M) : Option (Int32 × hm_M) :=
  Option.bind (f_X10_lies v1 (0 : Int32) (1 : Int32)) fun x2 =>
  (if x2 = 0 then
  some ((-1 : Int32), μ)
  else
  Option.bind (f_X10_laysRounds μ) fun μ4 =>
  f_X10_kept_L19 v1 (fun z9_2 μz9 => (if z9_2 = 0 then
  some ((-1 : Int32), μz9)
  else
  (if v1 = 0 then
  Option.bind (f_X10_ones z9_2) fun x10 =>
  some (x10, μz9)
  else
  some (z9_2, μz9)))) hm_fu (0 : Int32) (1 : Int32) μ4)
set_option maxRecDepth 100000 in
theorem ok_X10_kept {fr : Nat} (hfr : 92 ≤ fr) {ν : hm_N} {r : Int32} {μR : hm_M}  (v1 : Int32)  (μ : hm_M) (hL : hm_LL ν μ) (h : f_X10_kept v1 μ = some (r, μR)) : hm_CC (hm_LL ν) m_X10_kept fr 0 0 [.ref 179, .int v1] μ (some (.int r)) μR := by
  refine hm_enter (lv := [some (.ref 179), some (.int v1), none, none]) (by decide) rfl (Nat.le_of_ble_eq_true rfl) ?_
  unfold f_X10_kept at h
  refine tr_iload_n (pc' := 1) (show decode cX10_kept 0 = .ok (.iload_n 1, 1) by decide +kernel) rfl rfl rfl ?_
  refine tr_iconst (pc' := 2) (v := (0 : Int32)) (show decode cX10_kept 1 = .ok (.iconst 0, 1) by decide +kernel) rfl (by decide) ?_
  refine tr_iconst (pc' := 3) (v := (1 : Int32)) (show decode cX10_kept 2 = .ok (.iconst 1, 1) by decide +kernel) rfl (by decide) ?_
  obtain ⟨x2, ex2, h⟩ := hm_bs h
  have cx2 := ok_X10_lies (fr := fr - 1) (ν := ν) (by omega) v1 (0 : Int32) (1 : Int32) μ hL ex2
  refine tp_callS (pc' := 6) (As := [.int v1, .int (0 : Int32), .int (1 : Int32)]) (fr1 := fr - 1) okm_X10_lies lk_HandRingModel_108 (show decode cX10_kept 3 = .ok (.invokestatic 108, 3) by decide +kernel) rfl rfl rfl (Nat.le_of_ble_eq_true rfl) (by omega) cx2 (st' := [.int x2]) rfl ?_
  rcases hm_is h with ⟨hc, h⟩ | ⟨hc, h⟩
  · refine tr_if_ne_f (tgt := 11) (pc' := 9) hc (show decode cX10_kept 6 = .ok (.ifCond .ne 5, 3) by decide +kernel) (by decide) rfl ?_
    refine tr_iconst (pc' := 10) (v := (-1 : Int32)) (show decode cX10_kept 9 = .ok (.iconst (-1), 1) by decide +kernel) rfl (by decide) ?_
    cases h
    exact tr_iret rfl (show decode cX10_kept 10 = .ok (.ireturn, 1) by decide +kernel) hL
  · refine tr_if_ne_t (tgt := 11) hc (show decode cX10_kept 6 = .ok (.ifCond .ne 5, 3) by decide +kernel) (by decide) ?_
    refine tr_aload_n (pc' := 12) (show decode cX10_kept 11 = .ok (.aload_n 0, 1) by decide +kernel) rfl rfl rfl ?_
    obtain ⟨μ4, ex3, h⟩ := hm_bs h
    have cx3 := ok_X10_laysRounds (fr := fr - 1) (ν := ν) (by omega) μ hL ex3
    refine tp_callV (pc' := 15) (As := []) (fr1 := fr - 1) (ci := 10) okm_X10_laysRounds lk_HandRingModel_457 (show decode cX10_kept 12 = .ok (.invokevirtual 457, 3) by decide +kernel) rfl rfl rfl (by decide) (la_o hL (by decide) rfl) rfl rfl (Nat.le_of_ble_eq_true rfl) (by omega) cx3 (st' := []) rfl ?_
    replace hL := cx3.1
    refine tr_iconst (pc' := 16) (v := (0 : Int32)) (show decode cX10_kept 15 = .ok (.iconst 0, 1) by decide +kernel) rfl (by decide) ?_
    refine tr_istore_n (pc' := 17) (lv' := [some (.ref 179), some (.int v1), some (.int (0 : Int32)), none]) (show decode cX10_kept 16 = .ok (.istore_n 2, 1) by decide +kernel) rfl rfl (Nat.le_of_ble_eq_true rfl) rfl rfl ?_
    refine tr_iconst (pc' := 18) (v := (1 : Int32)) (show decode cX10_kept 17 = .ok (.iconst 1, 1) by decide +kernel) rfl (by decide) ?_
    refine tr_istore_n (pc' := 19) (lv' := [some (.ref 179), some (.int v1), some (.int (0 : Int32)), some (.int (1 : Int32))]) (show decode cX10_kept 18 = .ok (.istore_n 3, 1) by decide +kernel) rfl rfl (Nat.le_of_ble_eq_true rfl) rfl rfl ?_
    refine ok_X10_kept_L19 hfr _ _ ?_ _ (0 : Int32) (1 : Int32) μ4 hL h
    · intro z9_2 μz9 hL h
      refine tr_iload_n (pc' := 60) (show decode cX10_kept 59 = .ok (.iload_n 2, 1) by decide +kernel) rfl rfl rfl ?_
      rcases hm_is h with ⟨hc, h⟩ | ⟨hc, h⟩
      · refine tr_if_ne_f (tgt := 67) (pc' := 63) hc (show decode cX10_kept 60 = .ok (.ifCond .ne 7, 3) by decide +kernel) (by decide) rfl ?_
        refine tr_iconst (pc' := 64) (v := (-1 : Int32)) (show decode cX10_kept 63 = .ok (.iconst (-1), 1) by decide +kernel) rfl (by decide) ?_
        refine tr_goto (tgt := 79) (show decode cX10_kept 64 = .ok (.goto 15, 3) by decide +kernel) rfl ?_
        cases h
        exact tr_iret rfl (show decode cX10_kept 79 = .ok (.ireturn, 1) by decide +kernel) hL
      · refine tr_if_ne_t (tgt := 67) hc (show decode cX10_kept 60 = .ok (.ifCond .ne 7, 3) by decide +kernel) (by decide) ?_
        refine tr_iload_n (pc' := 68) (show decode cX10_kept 67 = .ok (.iload_n 1, 1) by decide +kernel) rfl rfl rfl ?_
        rcases hm_is h with ⟨hc, h⟩ | ⟨hc, h⟩
        · refine tr_if_ne_f (tgt := 78) (pc' := 71) hc (show decode cX10_kept 68 = .ok (.ifCond .ne 10, 3) by decide +kernel) (by decide) rfl ?_
          refine tr_iload_n (pc' := 72) (show decode cX10_kept 71 = .ok (.iload_n 2, 1) by decide +kernel) rfl rfl rfl ?_
          obtain ⟨x10, ex10, h⟩ := hm_bs h
          have cx10 := ok_X10_ones (fr := fr - 1) (ν := ν) (by omega) z9_2 μz9 hL ex10
          refine tp_callS (pc' := 75) (As := [.int z9_2]) (fr1 := fr - 1) okm_X10_ones lk_HandRingModel_310 (show decode cX10_kept 72 = .ok (.invokestatic 310, 3) by decide +kernel) rfl rfl rfl (Nat.le_of_ble_eq_true rfl) (by omega) cx10 (st' := [.int x10]) rfl ?_
          refine tr_goto (tgt := 79) (show decode cX10_kept 75 = .ok (.goto 4, 3) by decide +kernel) rfl ?_
          cases h
          exact tr_iret rfl (show decode cX10_kept 79 = .ok (.ireturn, 1) by decide +kernel) hL
        · refine tr_if_ne_t (tgt := 78) hc (show decode cX10_kept 68 = .ok (.ifCond .ne 10, 3) by decide +kernel) (by decide) ?_
          refine tr_iload_n (pc' := 79) (show decode cX10_kept 78 = .ok (.iload_n 2, 1) by decide +kernel) rfl rfl rfl ?_
          cases h
          exact tr_iret rfl (show decode cX10_kept 79 = .ok (.ireturn, 1) by decide +kernel) hL
def f_X10_two_J80 (v1 : Int32) (w33_2 : Int32) (c33 : Int32 → Int32 → Int32 → hm_M → Option (Int32 × hm_M)) (e86 : Int32 → Int32 → hm_M → Option (Int32 × hm_M)) (y3 : Int32) (y4 : Int32) (y5 : Int32) (μ1 : hm_M) : Option (Int32 × hm_M) :=
  c33 y3 y4 (y5 + (2 : Int32)) μ1
theorem ok_X10_two_J80 {fr : Nat} (hfr : 92 ≤ fr) {ν : hm_N} {r : Int32} {μR : hm_M}  (v1 : Int32) (w33_2 : Int32) (c33 : Int32 → Int32 → Int32 → hm_M → Option (Int32 × hm_M)) (e86 : Int32 → Int32 → hm_M → Option (Int32 × hm_M)) (hc33 : ∀ (y3 : Int32) (y4 : Int32) (y5 : Int32)  (μ1 : hm_M), hm_LL ν μ1 → c33 y3 y4 y5 μ1 = some (r, μR) → hm_T (hm_LL ν) m_X10_two fr 0 0 (some (.int r)) μR 33 [some (.ref 179), some (.int v1), some (.int w33_2), some (.int y3), some (.int y4), some (.int y5), none] [] μ1) (he86 : ∀ (y3 : Int32) (y4 : Int32)  (μ1 : hm_M), hm_LL ν μ1 → e86 y3 y4 μ1 = some (r, μR) → hm_T (hm_LL ν) m_X10_two fr 0 0 (some (.int r)) μR 86 [none, some (.int v1), none, some (.int y3), some (.int y4), none, none] [] μ1)  (y3 : Int32) (y4 : Int32) (y5 : Int32) (μ1 : hm_M) (hL : hm_LL ν μ1) (h : f_X10_two_J80 v1 w33_2 c33 e86 y3 y4 y5 μ1 = some (r, μR)) : hm_T (hm_LL ν) m_X10_two fr 0 0 (some (.int r)) μR 80 [some (.ref 179), some (.int v1), some (.int w33_2), some (.int y3), some (.int y4), some (.int y5), none] [] μ1 := by
  unfold f_X10_two_J80 at h
  refine tr_iinc (pc' := 83) (v := y5 + (2 : Int32)) (lv' := [some (.ref 179), some (.int v1), some (.int w33_2), some (.int y3), some (.int y4), some (.int (y5 + (2 : Int32))), none]) (show decode cX10_two 80 = .ok (.iinc 5 2, 3) by decide +kernel) rfl rfl rfl (Nat.le_of_ble_eq_true rfl) rfl rfl ?_
  refine tr_goto (tgt := 33) (show decode cX10_two 83 = .ok (.goto (-50), 3) by decide +kernel) rfl ?_
  exact hc33 y3 y4 (y5 + (2 : Int32)) μ1 hL h
def f_X10_two_L33 (v1 : Int32) (w33_2 : Int32) (e86 : Int32 → Int32 → hm_M → Option (Int32 × hm_M)) : Nat → Int32 → Int32 → Int32 → hm_M → Option (Int32 × hm_M)
  | 0, _, _, _, _ => none
  | n + 1, y3, y4, y5, μ1 => (if w33_2 ≤ y5 then
  e86 y3 y4 μ1
  else
  Option.bind (hm_ld μ1 201 256 y5) fun x7 =>
  Option.bind (hm_ld μ1 201 256 (w33_2 ^^^ y5)) fun x8 =>
  Option.bind (f_X10_lesser (1000000 : Int32) (x7 + x8)) fun x9 =>
  (if x9 < y4 then
  f_X10_two_J80 v1 w33_2 (f_X10_two_L33 v1 w33_2 e86 n) e86 y5 x9 y5 μ1
  else
  f_X10_two_J80 v1 w33_2 (f_X10_two_L33 v1 w33_2 e86 n) e86 y3 y4 y5 μ1))
theorem ok_X10_two_L33 {fr : Nat} (hfr : 92 ≤ fr) {ν : hm_N} {r : Int32} {μR : hm_M}  (v1 : Int32) (w33_2 : Int32) (e86 : Int32 → Int32 → hm_M → Option (Int32 × hm_M))  (he86 : ∀ (y3 : Int32) (y4 : Int32)  (μ1 : hm_M), hm_LL ν μ1 → e86 y3 y4 μ1 = some (r, μR) → hm_T (hm_LL ν) m_X10_two fr 0 0 (some (.int r)) μR 86 [none, some (.int v1), none, some (.int y3), some (.int y4), none, none] [] μ1)  : ∀ (n : Nat) (y3 : Int32) (y4 : Int32) (y5 : Int32)  (μ1 : hm_M), hm_LL ν μ1 → f_X10_two_L33 v1 w33_2 e86 n y3 y4 y5 μ1 = some (r, μR) → hm_T (hm_LL ν) m_X10_two fr 0 0 (some (.int r)) μR 33 [some (.ref 179), some (.int v1), some (.int w33_2), some (.int y3), some (.int y4), some (.int y5), none] [] μ1 := by
  intro n
  induction n with
  | zero =>
    intro y3 y4 y5 μ1 hL h
    unfold f_X10_two_L33 at h
    cases h
  | succ n ih =>
    intro y3 y4 y5 μ1 hL h
    unfold f_X10_two_L33 at h
    refine tr_iload (pc' := 35) (show decode cX10_two 33 = .ok (.iload 5, 2) by decide +kernel) rfl rfl ?_
    refine tr_iload_n (pc' := 36) (show decode cX10_two 35 = .ok (.iload_n 2, 1) by decide +kernel) rfl rfl rfl ?_
    rcases hm_is h with ⟨hc, h⟩ | ⟨hc, h⟩
    · refine tr_icmp_ge_t (tgt := 86) hc (show decode cX10_two 36 = .ok (.if_icmp .ge 50, 3) by decide +kernel) (by decide) ?_
      refine hm_fgt [false, true, false, true, true, false, false] (lv' := [none, some (.int v1), none, some (.int y3), some (.int y4), none, none]) rfl ?_
      exact he86 y3 y4 μ1 hL h
    · refine tr_icmp_ge_f (tgt := 86) (pc' := 39) hc (show decode cX10_two 36 = .ok (.if_icmp .ge 50, 3) by decide +kernel) (by decide) rfl ?_
      refine tr_ldc (pc' := 41) (v := (1000000 : Int32)) (show decode cX10_two 39 = .ok (.ldc 180, 2) by decide +kernel) rfl kc_HandRingModel_180 ?_
      refine tr_aload_n (pc' := 42) (show decode cX10_two 41 = .ok (.aload_n 0, 1) by decide +kernel) rfl rfl rfl ?_
      refine tr_getR (pc' := 45) fl_HandRingModel_89 (show decode cX10_two 42 = .ok (.getfield 89, 3) by decide +kernel) rfl (la_o hL (by decide) rfl) (la_r hL 138 rfl) ?_
      refine tr_iload (pc' := 47) (show decode cX10_two 45 = .ok (.iload 5, 2) by decide +kernel) rfl rfl ?_
      obtain ⟨x7, ex7, h⟩ := hm_bs h
      refine tp_ldI (pc' := 48) (show decode cX10_two 47 = .ok (.iaload, 1) by decide +kernel) rfl (la_a hL (by decide) rfl) ex7 ?_
      refine tr_aload_n (pc' := 49) (show decode cX10_two 48 = .ok (.aload_n 0, 1) by decide +kernel) rfl rfl rfl ?_
      refine tr_getR (pc' := 52) fl_HandRingModel_89 (show decode cX10_two 49 = .ok (.getfield 89, 3) by decide +kernel) rfl (la_o hL (by decide) rfl) (la_r hL 138 rfl) ?_
      refine tr_iload_n (pc' := 53) (show decode cX10_two 52 = .ok (.iload_n 2, 1) by decide +kernel) rfl rfl rfl ?_
      refine tr_iload (pc' := 55) (show decode cX10_two 53 = .ok (.iload 5, 2) by decide +kernel) rfl rfl ?_
      refine tr_ixor (pc' := 56) (show decode cX10_two 55 = .ok (.ixor, 1) by decide +kernel) rfl ?_
      obtain ⟨x8, ex8, h⟩ := hm_bs h
      refine tp_ldI (pc' := 57) (show decode cX10_two 56 = .ok (.iaload, 1) by decide +kernel) rfl (la_a hL (by decide) rfl) ex8 ?_
      refine tr_iadd (pc' := 58) (show decode cX10_two 57 = .ok (.iadd, 1) by decide +kernel) rfl ?_
      obtain ⟨x9, ex9, h⟩ := hm_bs h
      have cx9 := ok_X10_lesser (fr := fr - 1) (ν := ν) (by omega) (1000000 : Int32) (x7 + x8) μ1 hL ex9
      refine tp_callS (pc' := 61) (As := [.int (1000000 : Int32), .int (x7 + x8)]) (fr1 := fr - 1) okm_X10_lesser lk_HandRingModel_340 (show decode cX10_two 58 = .ok (.invokestatic 340, 3) by decide +kernel) rfl rfl rfl (Nat.le_of_ble_eq_true rfl) (by omega) cx9 (st' := [.int x9]) rfl ?_
      refine tr_istore (pc' := 63) (lv' := [some (.ref 179), some (.int v1), some (.int w33_2), some (.int y3), some (.int y4), some (.int y5), some (.int x9)]) (show decode cX10_two 61 = .ok (.istore 6, 2) by decide +kernel) rfl (Nat.le_of_ble_eq_true rfl) rfl rfl ?_
      refine tr_iload (pc' := 65) (show decode cX10_two 63 = .ok (.iload 6, 2) by decide +kernel) rfl rfl ?_
      refine tr_iload (pc' := 67) (show decode cX10_two 65 = .ok (.iload 4, 2) by decide +kernel) rfl rfl ?_
      rcases hm_is h with ⟨hc, h⟩ | ⟨hc, h⟩
      · refine tr_icmp_lt_t (tgt := 73) hc (show decode cX10_two 67 = .ok (.if_icmp .lt 6, 3) by decide +kernel) (by decide) ?_
        refine tr_iload (pc' := 75) (show decode cX10_two 73 = .ok (.iload 6, 2) by decide +kernel) rfl rfl ?_
        refine tr_istore (pc' := 77) (lv' := [some (.ref 179), some (.int v1), some (.int w33_2), some (.int y3), some (.int x9), some (.int y5), some (.int x9)]) (show decode cX10_two 75 = .ok (.istore 4, 2) by decide +kernel) rfl (Nat.le_of_ble_eq_true rfl) rfl rfl ?_
        refine tr_iload (pc' := 79) (show decode cX10_two 77 = .ok (.iload 5, 2) by decide +kernel) rfl rfl ?_
        refine tr_istore_n (pc' := 80) (lv' := [some (.ref 179), some (.int v1), some (.int w33_2), some (.int y5), some (.int x9), some (.int y5), some (.int x9)]) (show decode cX10_two 79 = .ok (.istore_n 3, 1) by decide +kernel) rfl rfl (Nat.le_of_ble_eq_true rfl) rfl rfl ?_
        refine hm_fgt [true, true, true, true, true, true, false] (lv' := [some (.ref 179), some (.int v1), some (.int w33_2), some (.int y5), some (.int x9), some (.int y5), none]) rfl ?_
        exact ok_X10_two_J80 hfr _ w33_2 (f_X10_two_L33 v1 w33_2 e86 n) e86 ih he86 y5 x9 y5 μ1 hL h
      · refine tr_icmp_lt_f (tgt := 73) (pc' := 70) hc (show decode cX10_two 67 = .ok (.if_icmp .lt 6, 3) by decide +kernel) (by decide) rfl ?_
        refine tr_goto (tgt := 80) (show decode cX10_two 70 = .ok (.goto 10, 3) by decide +kernel) rfl ?_
        refine hm_fgt [true, true, true, true, true, true, false] (lv' := [some (.ref 179), some (.int v1), some (.int w33_2), some (.int y3), some (.int y4), some (.int y5), none]) rfl ?_
        exact ok_X10_two_J80 hfr _ w33_2 (f_X10_two_L33 v1 w33_2 e86 n) e86 ih he86 y3 y4 y5 μ1 hL h
def f_X10_two (v1 : Int32) (μ : hm_M) : Option (Int32 × hm_M) :=
  Option.bind (f_X10_lies v1 (0 : Int32) (1 : Int32)) fun x2 =>
  (if x2 = 0 then
  some ((-1 : Int32), μ)
  else
  Option.bind (f_X10_laysRounds μ) fun μ4 =>
  Option.bind (f_X10_many μ4) fun x5 =>
  Option.bind (some (((1 : Int32) <<< (x5 &&& 31)) - (1 : Int32))) fun x6 =>
  f_X10_two_L33 v1 x6 (fun z10_3 z10_4 μz10 => (if z10_3 = (-1 : Int32) then
  some (z10_3, μz10)
  else
  (if v1 = (1 : Int32) then
  some (z10_3, μz10)
  else
  some (z10_4, μz10)))) hm_fu (-1 : Int32) (1000000 : Int32) (1 : Int32) μ4)
set_option maxRecDepth 100000 in
theorem ok_X10_two {fr : Nat} (hfr : 92 ≤ fr) {ν : hm_N} {r : Int32} {μR : hm_M}  (v1 : Int32)  (μ : hm_M) (hL : hm_LL ν μ) (h : f_X10_two v1 μ = some (r, μR)) : hm_CC (hm_LL ν) m_X10_two fr 0 0 [.ref 179, .int v1] μ (some (.int r)) μR := by
  refine hm_enter (lv := [some (.ref 179), some (.int v1), none, none, none, none, none]) (by decide) rfl (Nat.le_of_ble_eq_true rfl) ?_
  unfold f_X10_two at h
  refine tr_iload_n (pc' := 1) (show decode cX10_two 0 = .ok (.iload_n 1, 1) by decide +kernel) rfl rfl rfl ?_
  refine tr_iconst (pc' := 2) (v := (0 : Int32)) (show decode cX10_two 1 = .ok (.iconst 0, 1) by decide +kernel) rfl (by decide) ?_
  refine tr_iconst (pc' := 3) (v := (1 : Int32)) (show decode cX10_two 2 = .ok (.iconst 1, 1) by decide +kernel) rfl (by decide) ?_
  obtain ⟨x2, ex2, h⟩ := hm_bs h
  have cx2 := ok_X10_lies (fr := fr - 1) (ν := ν) (by omega) v1 (0 : Int32) (1 : Int32) μ hL ex2
  refine tp_callS (pc' := 6) (As := [.int v1, .int (0 : Int32), .int (1 : Int32)]) (fr1 := fr - 1) okm_X10_lies lk_HandRingModel_108 (show decode cX10_two 3 = .ok (.invokestatic 108, 3) by decide +kernel) rfl rfl rfl (Nat.le_of_ble_eq_true rfl) (by omega) cx2 (st' := [.int x2]) rfl ?_
  rcases hm_is h with ⟨hc, h⟩ | ⟨hc, h⟩
  · refine tr_if_ne_f (tgt := 11) (pc' := 9) hc (show decode cX10_two 6 = .ok (.ifCond .ne 5, 3) by decide +kernel) (by decide) rfl ?_
    refine tr_iconst (pc' := 10) (v := (-1 : Int32)) (show decode cX10_two 9 = .ok (.iconst (-1), 1) by decide +kernel) rfl (by decide) ?_
    cases h
    exact tr_iret rfl (show decode cX10_two 10 = .ok (.ireturn, 1) by decide +kernel) hL
  · refine tr_if_ne_t (tgt := 11) hc (show decode cX10_two 6 = .ok (.ifCond .ne 5, 3) by decide +kernel) (by decide) ?_
    refine tr_aload_n (pc' := 12) (show decode cX10_two 11 = .ok (.aload_n 0, 1) by decide +kernel) rfl rfl rfl ?_
    obtain ⟨μ4, ex3, h⟩ := hm_bs h
    have cx3 := ok_X10_laysRounds (fr := fr - 1) (ν := ν) (by omega) μ hL ex3
    refine tp_callV (pc' := 15) (As := []) (fr1 := fr - 1) (ci := 10) okm_X10_laysRounds lk_HandRingModel_457 (show decode cX10_two 12 = .ok (.invokevirtual 457, 3) by decide +kernel) rfl rfl rfl (by decide) (la_o hL (by decide) rfl) rfl rfl (Nat.le_of_ble_eq_true rfl) (by omega) cx3 (st' := []) rfl ?_
    replace hL := cx3.1
    refine tr_iconst (pc' := 16) (v := (1 : Int32)) (show decode cX10_two 15 = .ok (.iconst 1, 1) by decide +kernel) rfl (by decide) ?_
    refine tr_aload_n (pc' := 17) (show decode cX10_two 16 = .ok (.aload_n 0, 1) by decide +kernel) rfl rfl rfl ?_
    obtain ⟨x5, ex5, h⟩ := hm_bs h
    have cx5 := ok_X10_many (fr := fr - 1) (ν := ν) (by omega) μ4 hL ex5
    refine tp_callV (pc' := 20) (As := []) (fr1 := fr - 1) (ci := 10) okm_X10_many lk_HandRingModel_118 (show decode cX10_two 17 = .ok (.invokevirtual 118, 3) by decide +kernel) rfl rfl rfl (by decide) (la_o hL (by decide) rfl) rfl rfl (Nat.le_of_ble_eq_true rfl) (by omega) cx5 (st' := [.int x5, .int (1 : Int32)]) rfl ?_
    refine tr_ishl (pc' := 21) (show decode cX10_two 20 = .ok (.ishl, 1) by decide +kernel) rfl ?_
    refine tr_iconst (pc' := 22) (v := (1 : Int32)) (show decode cX10_two 21 = .ok (.iconst 1, 1) by decide +kernel) rfl (by decide) ?_
    refine tr_isub (pc' := 23) (show decode cX10_two 22 = .ok (.isub, 1) by decide +kernel) rfl ?_
    obtain ⟨x6, ex6, h⟩ := hm_bs h
    have ex6 := Option.some.inj ex6
    rw [ex6]
    refine tr_istore_n (pc' := 24) (lv' := [some (.ref 179), some (.int v1), some (.int x6), none, none, none, none]) (show decode cX10_two 23 = .ok (.istore_n 2, 1) by decide +kernel) rfl rfl (Nat.le_of_ble_eq_true rfl) rfl rfl ?_
    refine tr_iconst (pc' := 25) (v := (-1 : Int32)) (show decode cX10_two 24 = .ok (.iconst (-1), 1) by decide +kernel) rfl (by decide) ?_
    refine tr_istore_n (pc' := 26) (lv' := [some (.ref 179), some (.int v1), some (.int x6), some (.int (-1 : Int32)), none, none, none]) (show decode cX10_two 25 = .ok (.istore_n 3, 1) by decide +kernel) rfl rfl (Nat.le_of_ble_eq_true rfl) rfl rfl ?_
    refine tr_ldc (pc' := 28) (v := (1000000 : Int32)) (show decode cX10_two 26 = .ok (.ldc 180, 2) by decide +kernel) rfl kc_HandRingModel_180 ?_
    refine tr_istore (pc' := 30) (lv' := [some (.ref 179), some (.int v1), some (.int x6), some (.int (-1 : Int32)), some (.int (1000000 : Int32)), none, none]) (show decode cX10_two 28 = .ok (.istore 4, 2) by decide +kernel) rfl (Nat.le_of_ble_eq_true rfl) rfl rfl ?_
    refine tr_iconst (pc' := 31) (v := (1 : Int32)) (show decode cX10_two 30 = .ok (.iconst 1, 1) by decide +kernel) rfl (by decide) ?_
    refine tr_istore (pc' := 33) (lv' := [some (.ref 179), some (.int v1), some (.int x6), some (.int (-1 : Int32)), some (.int (1000000 : Int32)), some (.int (1 : Int32)), none]) (show decode cX10_two 31 = .ok (.istore 5, 2) by decide +kernel) rfl (Nat.le_of_ble_eq_true rfl) rfl rfl ?_
    refine ok_X10_two_L33 hfr _ x6 _ ?_ _ (-1 : Int32) (1000000 : Int32) (1 : Int32) μ4 hL h
    · intro z10_3 z10_4 μz10 hL h
      refine tr_iload_n (pc' := 87) (show decode cX10_two 86 = .ok (.iload_n 3, 1) by decide +kernel) rfl rfl rfl ?_
      refine tr_iconst (pc' := 88) (v := (-1 : Int32)) (show decode cX10_two 87 = .ok (.iconst (-1), 1) by decide +kernel) rfl (by decide) ?_
      rcases hm_is h with ⟨hc, h⟩ | ⟨hc, h⟩
      · refine tr_icmp_eq_t (tgt := 96) hc (show decode cX10_two 88 = .ok (.if_icmp .eq 8, 3) by decide +kernel) (by decide) ?_
        refine tr_iload_n (pc' := 97) (show decode cX10_two 96 = .ok (.iload_n 3, 1) by decide +kernel) rfl rfl rfl ?_
        refine tr_goto (tgt := 102) (show decode cX10_two 97 = .ok (.goto 5, 3) by decide +kernel) rfl ?_
        cases h
        exact tr_iret rfl (show decode cX10_two 102 = .ok (.ireturn, 1) by decide +kernel) hL
      · refine tr_icmp_eq_f (tgt := 96) (pc' := 91) hc (show decode cX10_two 88 = .ok (.if_icmp .eq 8, 3) by decide +kernel) (by decide) rfl ?_
        refine tr_iload_n (pc' := 92) (show decode cX10_two 91 = .ok (.iload_n 1, 1) by decide +kernel) rfl rfl rfl ?_
        refine tr_iconst (pc' := 93) (v := (1 : Int32)) (show decode cX10_two 92 = .ok (.iconst 1, 1) by decide +kernel) rfl (by decide) ?_
        rcases hm_is h with ⟨hc, h⟩ | ⟨hc, h⟩
        · refine tr_icmp_ne_f (tgt := 100) (pc' := 96) hc (show decode cX10_two 93 = .ok (.if_icmp .ne 7, 3) by decide +kernel) (by decide) rfl ?_
          refine tr_iload_n (pc' := 97) (show decode cX10_two 96 = .ok (.iload_n 3, 1) by decide +kernel) rfl rfl rfl ?_
          refine tr_goto (tgt := 102) (show decode cX10_two 97 = .ok (.goto 5, 3) by decide +kernel) rfl ?_
          cases h
          exact tr_iret rfl (show decode cX10_two 102 = .ok (.ireturn, 1) by decide +kernel) hL
        · refine tr_icmp_ne_t (tgt := 100) hc (show decode cX10_two 93 = .ok (.if_icmp .ne 7, 3) by decide +kernel) (by decide) ?_
          refine tr_iload (pc' := 102) (show decode cX10_two 100 = .ok (.iload 4, 2) by decide +kernel) rfl rfl ?_
          cases h
          exact tr_iret rfl (show decode cX10_two 102 = .ok (.ireturn, 1) by decide +kernel) hL
def f_X10_parts_J53 (v1 : Int32) (c4 : Int32 → Int32 → hm_M → Option Int32) (e59 : Int32 → hm_M → Option Int32) (y2 : Int32) (y3 : Int32) (μ1 : hm_M) : Option Int32 :=
  c4 y2 (y3 + (1 : Int32)) μ1
theorem ok_X10_parts_J53 {fr : Nat} (hfr : 2 ≤ fr) {ν : hm_N} {r : Int32}  (v1 : Int32) (c4 : Int32 → Int32 → hm_M → Option Int32) (e59 : Int32 → hm_M → Option Int32) (hc4 : ∀ (y2 : Int32) (y3 : Int32)  (μ1 : hm_M), hm_LL ν μ1 → c4 y2 y3 μ1 = some r → hm_T (hm_LL ν) m_X10_parts fr 0 0 (some (.int r)) μ1 4 [some (.ref 179), some (.int v1), some (.int y2), some (.int y3)] [] μ1) (he59 : ∀ (y2 : Int32)  (μ1 : hm_M), hm_LL ν μ1 → e59 y2 μ1 = some r → hm_T (hm_LL ν) m_X10_parts fr 0 0 (some (.int r)) μ1 59 [none, none, some (.int y2), none] [] μ1)  (y2 : Int32) (y3 : Int32) (μ1 : hm_M) (hL : hm_LL ν μ1) (h : f_X10_parts_J53 v1 c4 e59 y2 y3 μ1 = some r) : hm_T (hm_LL ν) m_X10_parts fr 0 0 (some (.int r)) μ1 53 [some (.ref 179), some (.int v1), some (.int y2), some (.int y3)] [] μ1 := by
  unfold f_X10_parts_J53 at h
  refine tr_iinc (pc' := 56) (v := y3 + (1 : Int32)) (lv' := [some (.ref 179), some (.int v1), some (.int y2), some (.int (y3 + (1 : Int32)))]) (show decode cX10_parts 53 = .ok (.iinc 3 1, 3) by decide +kernel) rfl rfl rfl (Nat.le_of_ble_eq_true rfl) rfl rfl ?_
  refine tr_goto (tgt := 4) (show decode cX10_parts 56 = .ok (.goto (-52), 3) by decide +kernel) rfl ?_
  exact hc4 y2 (y3 + (1 : Int32)) μ1 hL h
def f_X10_parts_J52 (v1 : Int32) (c4 : Int32 → Int32 → hm_M → Option Int32) (e59 : Int32 → hm_M → Option Int32) (s0 : Int32) (y3 : Int32) (μ1 : hm_M) : Option Int32 :=
  f_X10_parts_J53 v1 c4 e59 s0 y3 μ1
theorem ok_X10_parts_J52 {fr : Nat} (hfr : 2 ≤ fr) {ν : hm_N} {r : Int32}  (v1 : Int32) (c4 : Int32 → Int32 → hm_M → Option Int32) (e59 : Int32 → hm_M → Option Int32) (hc4 : ∀ (y2 : Int32) (y3 : Int32)  (μ1 : hm_M), hm_LL ν μ1 → c4 y2 y3 μ1 = some r → hm_T (hm_LL ν) m_X10_parts fr 0 0 (some (.int r)) μ1 4 [some (.ref 179), some (.int v1), some (.int y2), some (.int y3)] [] μ1) (he59 : ∀ (y2 : Int32)  (μ1 : hm_M), hm_LL ν μ1 → e59 y2 μ1 = some r → hm_T (hm_LL ν) m_X10_parts fr 0 0 (some (.int r)) μ1 59 [none, none, some (.int y2), none] [] μ1)  (s0 : Int32) (y3 : Int32) (μ1 : hm_M) (hL : hm_LL ν μ1) (h : f_X10_parts_J52 v1 c4 e59 s0 y3 μ1 = some r) : hm_T (hm_LL ν) m_X10_parts fr 0 0 (some (.int r)) μ1 52 [some (.ref 179), some (.int v1), none, some (.int y3)] [.int s0] μ1 := by
  unfold f_X10_parts_J52 at h
  refine tr_istore_n (pc' := 53) (lv' := [some (.ref 179), some (.int v1), some (.int s0), some (.int y3)]) (show decode cX10_parts 52 = .ok (.istore_n 2, 1) by decide +kernel) rfl rfl (Nat.le_of_ble_eq_true rfl) rfl rfl ?_
  exact ok_X10_parts_J53 hfr _ c4 e59 hc4 he59 s0 y3 μ1 hL h
def f_X10_parts_J47 (v1 : Int32) (c4 : Int32 → Int32 → hm_M → Option Int32) (e59 : Int32 → hm_M → Option Int32) (y3 : Int32) (μ1 : hm_M) : Option Int32 :=
  f_X10_parts_J52 v1 c4 e59 (1 : Int32) y3 μ1
theorem ok_X10_parts_J47 {fr : Nat} (hfr : 2 ≤ fr) {ν : hm_N} {r : Int32}  (v1 : Int32) (c4 : Int32 → Int32 → hm_M → Option Int32) (e59 : Int32 → hm_M → Option Int32) (hc4 : ∀ (y2 : Int32) (y3 : Int32)  (μ1 : hm_M), hm_LL ν μ1 → c4 y2 y3 μ1 = some r → hm_T (hm_LL ν) m_X10_parts fr 0 0 (some (.int r)) μ1 4 [some (.ref 179), some (.int v1), some (.int y2), some (.int y3)] [] μ1) (he59 : ∀ (y2 : Int32)  (μ1 : hm_M), hm_LL ν μ1 → e59 y2 μ1 = some r → hm_T (hm_LL ν) m_X10_parts fr 0 0 (some (.int r)) μ1 59 [none, none, some (.int y2), none] [] μ1)  (y3 : Int32) (μ1 : hm_M) (hL : hm_LL ν μ1) (h : f_X10_parts_J47 v1 c4 e59 y3 μ1 = some r) : hm_T (hm_LL ν) m_X10_parts fr 0 0 (some (.int r)) μ1 47 [some (.ref 179), some (.int v1), none, some (.int y3)] [] μ1 := by
  unfold f_X10_parts_J47 at h
  refine tr_iconst (pc' := 48) (v := (1 : Int32)) (show decode cX10_parts 47 = .ok (.iconst 1, 1) by decide +kernel) rfl (by decide) ?_
  refine tr_goto (tgt := 52) (show decode cX10_parts 48 = .ok (.goto 4, 3) by decide +kernel) rfl ?_
  exact ok_X10_parts_J52 hfr _ c4 e59 hc4 he59 (1 : Int32) y3 μ1 hL h
def f_X10_parts_L4 (v1 : Int32) (e59 : Int32 → hm_M → Option Int32) : Nat → Int32 → Int32 → hm_M → Option Int32
  | 0, _, _, _ => none
  | n + 1, y2, y3, μ1 => Option.bind (f_X10_many μ1) fun x2 =>
  (if x2 ≤ y3 then
  e59 y2 μ1
  else
  (if y3 = v1 then
  f_X10_parts_J53 v1 (f_X10_parts_L4 v1 e59 n) e59 y2 y3 μ1
  else
  (if y2 = 0 then
  Option.bind (f_X10_comesTo y3 (0 : Int32) μ1) fun x3 =>
  Option.bind (f_X10_comesTo y3 ((1 : Int32) <<< (v1 &&& 31)) μ1) fun x4 =>
  (if ((x3 &&& (x4 ^^^ (-1 : Int32))) &&& (((1 : Int32) <<< (v1 &&& 31)) ^^^ (-1 : Int32))) = 0 then
  f_X10_parts_J52 v1 (f_X10_parts_L4 v1 e59 n) e59 (0 : Int32) y3 μ1
  else
  f_X10_parts_J47 v1 (f_X10_parts_L4 v1 e59 n) e59 y3 μ1)
  else
  f_X10_parts_J47 v1 (f_X10_parts_L4 v1 e59 n) e59 y3 μ1)))
theorem ok_X10_parts_L4 {fr : Nat} (hfr : 2 ≤ fr) {ν : hm_N} {r : Int32}  (v1 : Int32) (e59 : Int32 → hm_M → Option Int32)  (he59 : ∀ (y2 : Int32)  (μ1 : hm_M), hm_LL ν μ1 → e59 y2 μ1 = some r → hm_T (hm_LL ν) m_X10_parts fr 0 0 (some (.int r)) μ1 59 [none, none, some (.int y2), none] [] μ1)  : ∀ (n : Nat) (y2 : Int32) (y3 : Int32)  (μ1 : hm_M), hm_LL ν μ1 → f_X10_parts_L4 v1 e59 n y2 y3 μ1 = some r → hm_T (hm_LL ν) m_X10_parts fr 0 0 (some (.int r)) μ1 4 [some (.ref 179), some (.int v1), some (.int y2), some (.int y3)] [] μ1 := by
  intro n
  induction n with
  | zero =>
    intro y2 y3 μ1 hL h
    unfold f_X10_parts_L4 at h
    cases h
  | succ n ih =>
    intro y2 y3 μ1 hL h
    unfold f_X10_parts_L4 at h
    refine tr_iload_n (pc' := 5) (show decode cX10_parts 4 = .ok (.iload_n 3, 1) by decide +kernel) rfl rfl rfl ?_
    refine tr_aload_n (pc' := 6) (show decode cX10_parts 5 = .ok (.aload_n 0, 1) by decide +kernel) rfl rfl rfl ?_
    obtain ⟨x2, ex2, h⟩ := hm_bs h
    have cx2 := ok_X10_many (fr := fr - 1) (ν := ν) (by omega) μ1 hL ex2
    refine tp_callV (pc' := 9) (As := []) (fr1 := fr - 1) (ci := 10) okm_X10_many lk_HandRingModel_118 (show decode cX10_parts 6 = .ok (.invokevirtual 118, 3) by decide +kernel) rfl rfl rfl (by decide) (la_o hL (by decide) rfl) rfl rfl (Nat.le_of_ble_eq_true rfl) (by omega) cx2 (st' := [.int x2, .int y3]) rfl ?_
    rcases hm_is h with ⟨hc, h⟩ | ⟨hc, h⟩
    · refine tr_icmp_ge_t (tgt := 59) hc (show decode cX10_parts 9 = .ok (.if_icmp .ge 50, 3) by decide +kernel) (by decide) ?_
      refine hm_fgt [false, false, true, false] (lv' := [none, none, some (.int y2), none]) rfl ?_
      exact he59 y2 μ1 hL h
    · refine tr_icmp_ge_f (tgt := 59) (pc' := 12) hc (show decode cX10_parts 9 = .ok (.if_icmp .ge 50, 3) by decide +kernel) (by decide) rfl ?_
      refine tr_iload_n (pc' := 13) (show decode cX10_parts 12 = .ok (.iload_n 3, 1) by decide +kernel) rfl rfl rfl ?_
      refine tr_iload_n (pc' := 14) (show decode cX10_parts 13 = .ok (.iload_n 1, 1) by decide +kernel) rfl rfl rfl ?_
      rcases hm_is h with ⟨hc, h⟩ | ⟨hc, h⟩
      · refine tr_icmp_eq_t (tgt := 53) hc (show decode cX10_parts 14 = .ok (.if_icmp .eq 39, 3) by decide +kernel) (by decide) ?_
        exact ok_X10_parts_J53 hfr _ (f_X10_parts_L4 v1 e59 n) e59 ih he59 y2 y3 μ1 hL h
      · refine tr_icmp_eq_f (tgt := 53) (pc' := 17) hc (show decode cX10_parts 14 = .ok (.if_icmp .eq 39, 3) by decide +kernel) (by decide) rfl ?_
        refine tr_iload_n (pc' := 18) (show decode cX10_parts 17 = .ok (.iload_n 2, 1) by decide +kernel) rfl rfl rfl ?_
        rcases hm_is h with ⟨hc, h⟩ | ⟨hc, h⟩
        · refine tr_if_ne_f (tgt := 47) (pc' := 21) hc (show decode cX10_parts 18 = .ok (.ifCond .ne 29, 3) by decide +kernel) (by decide) rfl ?_
          refine tr_aload_n (pc' := 22) (show decode cX10_parts 21 = .ok (.aload_n 0, 1) by decide +kernel) rfl rfl rfl ?_
          refine tr_iload_n (pc' := 23) (show decode cX10_parts 22 = .ok (.iload_n 3, 1) by decide +kernel) rfl rfl rfl ?_
          refine tr_iconst (pc' := 24) (v := (0 : Int32)) (show decode cX10_parts 23 = .ok (.iconst 0, 1) by decide +kernel) rfl (by decide) ?_
          obtain ⟨x3, ex3, h⟩ := hm_bs h
          have cx3 := ok_X10_comesTo (fr := fr - 1) (ν := ν) (by omega) y3 (0 : Int32) μ1 hL ex3
          refine tp_callV (pc' := 27) (As := [.int y3, .int (0 : Int32)]) (fr1 := fr - 1) (ci := 10) okm_X10_comesTo lk_HandRingModel_392 (show decode cX10_parts 24 = .ok (.invokevirtual 392, 3) by decide +kernel) rfl rfl rfl (by decide) (la_o hL (by decide) rfl) rfl rfl (Nat.le_of_ble_eq_true rfl) (by omega) cx3 (st' := [.int x3]) rfl ?_
          refine tr_aload_n (pc' := 28) (show decode cX10_parts 27 = .ok (.aload_n 0, 1) by decide +kernel) rfl rfl rfl ?_
          refine tr_iload_n (pc' := 29) (show decode cX10_parts 28 = .ok (.iload_n 3, 1) by decide +kernel) rfl rfl rfl ?_
          refine tr_iconst (pc' := 30) (v := (1 : Int32)) (show decode cX10_parts 29 = .ok (.iconst 1, 1) by decide +kernel) rfl (by decide) ?_
          refine tr_iload_n (pc' := 31) (show decode cX10_parts 30 = .ok (.iload_n 1, 1) by decide +kernel) rfl rfl rfl ?_
          refine tr_ishl (pc' := 32) (show decode cX10_parts 31 = .ok (.ishl, 1) by decide +kernel) rfl ?_
          obtain ⟨x4, ex4, h⟩ := hm_bs h
          have cx4 := ok_X10_comesTo (fr := fr - 1) (ν := ν) (by omega) y3 ((1 : Int32) <<< (v1 &&& 31)) μ1 hL ex4
          refine tp_callV (pc' := 35) (As := [.int y3, .int ((1 : Int32) <<< (v1 &&& 31))]) (fr1 := fr - 1) (ci := 10) okm_X10_comesTo lk_HandRingModel_392 (show decode cX10_parts 32 = .ok (.invokevirtual 392, 3) by decide +kernel) rfl rfl rfl (by decide) (la_o hL (by decide) rfl) rfl rfl (Nat.le_of_ble_eq_true rfl) (by omega) cx4 (st' := [.int x4, .int x3]) rfl ?_
          refine tr_iconst (pc' := 36) (v := (-1 : Int32)) (show decode cX10_parts 35 = .ok (.iconst (-1), 1) by decide +kernel) rfl (by decide) ?_
          refine tr_ixor (pc' := 37) (show decode cX10_parts 36 = .ok (.ixor, 1) by decide +kernel) rfl ?_
          refine tr_iand (pc' := 38) (show decode cX10_parts 37 = .ok (.iand, 1) by decide +kernel) rfl ?_
          refine tr_iconst (pc' := 39) (v := (1 : Int32)) (show decode cX10_parts 38 = .ok (.iconst 1, 1) by decide +kernel) rfl (by decide) ?_
          refine tr_iload_n (pc' := 40) (show decode cX10_parts 39 = .ok (.iload_n 1, 1) by decide +kernel) rfl rfl rfl ?_
          refine tr_ishl (pc' := 41) (show decode cX10_parts 40 = .ok (.ishl, 1) by decide +kernel) rfl ?_
          refine tr_iconst (pc' := 42) (v := (-1 : Int32)) (show decode cX10_parts 41 = .ok (.iconst (-1), 1) by decide +kernel) rfl (by decide) ?_
          refine tr_ixor (pc' := 43) (show decode cX10_parts 42 = .ok (.ixor, 1) by decide +kernel) rfl ?_
          refine tr_iand (pc' := 44) (show decode cX10_parts 43 = .ok (.iand, 1) by decide +kernel) rfl ?_
          rcases hm_is h with ⟨hc, h⟩ | ⟨hc, h⟩
          · refine tr_if_eq_t (tgt := 51) hc (show decode cX10_parts 44 = .ok (.ifCond .eq 7, 3) by decide +kernel) (by decide) ?_
            refine tr_iconst (pc' := 52) (v := (0 : Int32)) (show decode cX10_parts 51 = .ok (.iconst 0, 1) by decide +kernel) rfl (by decide) ?_
            refine hm_fgt [true, true, false, true] (lv' := [some (.ref 179), some (.int v1), none, some (.int y3)]) rfl ?_
            exact ok_X10_parts_J52 hfr _ (f_X10_parts_L4 v1 e59 n) e59 ih he59 (0 : Int32) y3 μ1 hL h
          · refine tr_if_eq_f (tgt := 51) (pc' := 47) hc (show decode cX10_parts 44 = .ok (.ifCond .eq 7, 3) by decide +kernel) (by decide) rfl ?_
            refine hm_fgt [true, true, false, true] (lv' := [some (.ref 179), some (.int v1), none, some (.int y3)]) rfl ?_
            exact ok_X10_parts_J47 hfr _ (f_X10_parts_L4 v1 e59 n) e59 ih he59 y3 μ1 hL h
        · refine tr_if_ne_t (tgt := 47) hc (show decode cX10_parts 18 = .ok (.ifCond .ne 29, 3) by decide +kernel) (by decide) ?_
          refine hm_fgt [true, true, false, true] (lv' := [some (.ref 179), some (.int v1), none, some (.int y3)]) rfl ?_
          exact ok_X10_parts_J47 hfr _ (f_X10_parts_L4 v1 e59 n) e59 ih he59 y3 μ1 hL h
def f_X10_parts (v1 : Int32) (μ : hm_M) : Option Int32 :=
  f_X10_parts_L4 v1 (fun z5_2 μz5 => hm_rz z5_2) hm_fu (0 : Int32) (0 : Int32) μ
set_option maxRecDepth 100000 in
theorem ok_X10_parts {fr : Nat} (hfr : 2 ≤ fr) {ν : hm_N} {r : Int32}  (v1 : Int32)  (μ : hm_M) (hL : hm_LL ν μ) (h : f_X10_parts v1 μ = some r) : hm_CC (hm_LL ν) m_X10_parts fr 0 0 [.ref 179, .int v1] μ (some (.int r)) μ := by
  refine hm_enter (lv := [some (.ref 179), some (.int v1), none, none]) (by decide) rfl (Nat.le_of_ble_eq_true rfl) ?_
  unfold f_X10_parts at h
  refine tr_iconst (pc' := 1) (v := (0 : Int32)) (show decode cX10_parts 0 = .ok (.iconst 0, 1) by decide +kernel) rfl (by decide) ?_
  refine tr_istore_n (pc' := 2) (lv' := [some (.ref 179), some (.int v1), some (.int (0 : Int32)), none]) (show decode cX10_parts 1 = .ok (.istore_n 2, 1) by decide +kernel) rfl rfl (Nat.le_of_ble_eq_true rfl) rfl rfl ?_
  refine tr_iconst (pc' := 3) (v := (0 : Int32)) (show decode cX10_parts 2 = .ok (.iconst 0, 1) by decide +kernel) rfl (by decide) ?_
  refine tr_istore_n (pc' := 4) (lv' := [some (.ref 179), some (.int v1), some (.int (0 : Int32)), some (.int (0 : Int32))]) (show decode cX10_parts 3 = .ok (.istore_n 3, 1) by decide +kernel) rfl rfl (Nat.le_of_ble_eq_true rfl) rfl rfl ?_
  refine ok_X10_parts_L4 hfr _ _ ?_ _ (0 : Int32) (0 : Int32) μ hL h
  · intro z5_2 μz5 hL h
    refine tr_iload_n (pc' := 60) (show decode cX10_parts 59 = .ok (.iload_n 2, 1) by decide +kernel) rfl rfl rfl ?_
    exact tp_zret rfl (show decode cX10_parts 60 = .ok (.ireturn, 1) by decide +kernel) h hL
def f_X10_stays_L2 (e27 : hm_M → Option (Int32 × hm_M)) : Nat → Int32 → hm_M → Option (Int32 × hm_M)
  | 0, _, _ => none
  | n + 1, y1, μ1 => Option.bind (f_X10_many μ1) fun x2 =>
  (if x2 ≤ y1 then
  e27 μ1
  else
  hm_b2 (f_X10_whoCan y1 μ1) fun x3 μ4 =>
  Option.bind (hm_sd μ4 195 8 y1 x3) fun μ5 =>
  (f_X10_stays_L2 e27 n) (y1 + (1 : Int32)) μ5)
theorem ok_X10_stays_L2 {fr : Nat} (hfr : 91 ≤ fr) {ν : hm_N} {r : Int32} {μR : hm_M}   (e27 : hm_M → Option (Int32 × hm_M))  (he27 : ∀   (μ1 : hm_M), hm_LL ν μ1 → e27 μ1 = some (r, μR) → hm_T (hm_LL ν) m_X10_stays fr 0 0 (some (.int r)) μR 27 [some (.ref 179), none, none] [] μ1)  : ∀ (n : Nat) (y1 : Int32)  (μ1 : hm_M), hm_LL ν μ1 → f_X10_stays_L2 e27 n y1 μ1 = some (r, μR) → hm_T (hm_LL ν) m_X10_stays fr 0 0 (some (.int r)) μR 2 [some (.ref 179), some (.int y1), none] [] μ1 := by
  intro n
  induction n with
  | zero =>
    intro y1 μ1 hL h
    unfold f_X10_stays_L2 at h
    cases h
  | succ n ih =>
    intro y1 μ1 hL h
    unfold f_X10_stays_L2 at h
    refine tr_iload_n (pc' := 3) (show decode cX10_stays 2 = .ok (.iload_n 1, 1) by decide +kernel) rfl rfl rfl ?_
    refine tr_aload_n (pc' := 4) (show decode cX10_stays 3 = .ok (.aload_n 0, 1) by decide +kernel) rfl rfl rfl ?_
    obtain ⟨x2, ex2, h⟩ := hm_bs h
    have cx2 := ok_X10_many (fr := fr - 1) (ν := ν) (by omega) μ1 hL ex2
    refine tp_callV (pc' := 7) (As := []) (fr1 := fr - 1) (ci := 10) okm_X10_many lk_HandRingModel_118 (show decode cX10_stays 4 = .ok (.invokevirtual 118, 3) by decide +kernel) rfl rfl rfl (by decide) (la_o hL (by decide) rfl) rfl rfl (Nat.le_of_ble_eq_true rfl) (by omega) cx2 (st' := [.int x2, .int y1]) rfl ?_
    rcases hm_is h with ⟨hc, h⟩ | ⟨hc, h⟩
    · refine tr_icmp_ge_t (tgt := 27) hc (show decode cX10_stays 7 = .ok (.if_icmp .ge 20, 3) by decide +kernel) (by decide) ?_
      refine hm_fgt [true, false, false] (lv' := [some (.ref 179), none, none]) rfl ?_
      exact he27 μ1 hL h
    · refine tr_icmp_ge_f (tgt := 27) (pc' := 10) hc (show decode cX10_stays 7 = .ok (.if_icmp .ge 20, 3) by decide +kernel) (by decide) rfl ?_
      refine tr_aload_n (pc' := 11) (show decode cX10_stays 10 = .ok (.aload_n 0, 1) by decide +kernel) rfl rfl rfl ?_
      refine tr_getR (pc' := 14) fl_HandRingModel_71 (show decode cX10_stays 11 = .ok (.getfield 71, 3) by decide +kernel) rfl (la_o hL (by decide) rfl) (la_r hL 132 rfl) ?_
      refine tr_iload_n (pc' := 15) (show decode cX10_stays 14 = .ok (.iload_n 1, 1) by decide +kernel) rfl rfl rfl ?_
      refine tr_aload_n (pc' := 16) (show decode cX10_stays 15 = .ok (.aload_n 0, 1) by decide +kernel) rfl rfl rfl ?_
      refine tr_iload_n (pc' := 17) (show decode cX10_stays 16 = .ok (.iload_n 1, 1) by decide +kernel) rfl rfl rfl ?_
      obtain ⟨x3, μ4, ex3, h⟩ := hm_b2s h
      have cx3 := ok_X10_whoCan (fr := fr - 1) (ν := ν) (by omega) y1 μ1 hL ex3
      refine tp_callV (pc' := 20) (As := [.int y1]) (fr1 := fr - 1) (ci := 10) okm_X10_whoCan lk_HandRingModel_133 (show decode cX10_stays 17 = .ok (.invokevirtual 133, 3) by decide +kernel) rfl rfl rfl (by decide) (la_o hL (by decide) rfl) rfl rfl (Nat.le_of_ble_eq_true rfl) (by omega) cx3 (st' := [.int x3, .int y1, .ref 195]) rfl ?_
      replace hL := cx3.1
      obtain ⟨μ5, eμ5, h⟩ := hm_bs h
      refine tp_sdI (pc' := 21) (show decode cX10_stays 20 = .ok (.iastore, 1) by decide +kernel) rfl (la_a hL (by decide) rfl) eμ5 ?_
      replace hL := hL.same (hm_sd_s eμ5)
      refine tr_iinc (pc' := 24) (v := y1 + (1 : Int32)) (lv' := [some (.ref 179), some (.int (y1 + (1 : Int32))), none]) (show decode cX10_stays 21 = .ok (.iinc 1 1, 3) by decide +kernel) rfl rfl rfl (Nat.le_of_ble_eq_true rfl) rfl rfl ?_
      refine tr_goto (tgt := 2) (show decode cX10_stays 24 = .ok (.goto (-22), 3) by decide +kernel) rfl ?_
      exact ih (y1 + (1 : Int32)) μ5 hL h
def f_X10_stays_J55 (c31 : Int32 → Int32 → hm_M → Option (Int32 × hm_M)) (e63 : Int32 → hm_M → Option (Int32 × hm_M)) (s0 : Int32) (s1 : Int32) (y2 : Int32) (μ1 : hm_M) : Option (Int32 × hm_M) :=
  c31 (s1 ||| s0) (y2 + (1 : Int32)) μ1
theorem ok_X10_stays_J55 {fr : Nat} (hfr : 91 ≤ fr) {ν : hm_N} {r : Int32} {μR : hm_M}   (c31 : Int32 → Int32 → hm_M → Option (Int32 × hm_M)) (e63 : Int32 → hm_M → Option (Int32 × hm_M)) (hc31 : ∀ (y1 : Int32) (y2 : Int32)  (μ1 : hm_M), hm_LL ν μ1 → c31 y1 y2 μ1 = some (r, μR) → hm_T (hm_LL ν) m_X10_stays fr 0 0 (some (.int r)) μR 31 [some (.ref 179), some (.int y1), some (.int y2)] [] μ1) (he63 : ∀ (y1 : Int32)  (μ1 : hm_M), hm_LL ν μ1 → e63 y1 μ1 = some (r, μR) → hm_T (hm_LL ν) m_X10_stays fr 0 0 (some (.int r)) μR 63 [none, some (.int y1), none] [] μ1)  (s0 : Int32) (s1 : Int32) (y2 : Int32) (μ1 : hm_M) (hL : hm_LL ν μ1) (h : f_X10_stays_J55 c31 e63 s0 s1 y2 μ1 = some (r, μR)) : hm_T (hm_LL ν) m_X10_stays fr 0 0 (some (.int r)) μR 55 [some (.ref 179), none, some (.int y2)] [.int s0, .int s1] μ1 := by
  unfold f_X10_stays_J55 at h
  refine tr_ior (pc' := 56) (show decode cX10_stays 55 = .ok (.ior, 1) by decide +kernel) rfl ?_
  refine tr_istore_n (pc' := 57) (lv' := [some (.ref 179), some (.int (s1 ||| s0)), some (.int y2)]) (show decode cX10_stays 56 = .ok (.istore_n 1, 1) by decide +kernel) rfl rfl (Nat.le_of_ble_eq_true rfl) rfl rfl ?_
  refine tr_iinc (pc' := 60) (v := y2 + (1 : Int32)) (lv' := [some (.ref 179), some (.int (s1 ||| s0)), some (.int (y2 + (1 : Int32)))]) (show decode cX10_stays 57 = .ok (.iinc 2 1, 3) by decide +kernel) rfl rfl rfl (Nat.le_of_ble_eq_true rfl) rfl rfl ?_
  refine tr_goto (tgt := 31) (show decode cX10_stays 60 = .ok (.goto (-29), 3) by decide +kernel) rfl ?_
  exact hc31 (s1 ||| s0) (y2 + (1 : Int32)) μ1 hL h
def f_X10_stays_L31 (e63 : Int32 → hm_M → Option (Int32 × hm_M)) : Nat → Int32 → Int32 → hm_M → Option (Int32 × hm_M)
  | 0, _, _, _ => none
  | n + 1, y1, y2, μ1 => Option.bind (f_X10_many μ1) fun x7 =>
  (if x7 ≤ y2 then
  e63 y1 μ1
  else
  Option.bind (f_X10_parts y2 μ1) fun x8 =>
  (if x8 = 0 then
  f_X10_stays_J55 (f_X10_stays_L31 e63 n) e63 (0 : Int32) y1 y2 μ1
  else
  f_X10_stays_J55 (f_X10_stays_L31 e63 n) e63 ((1 : Int32) <<< (y2 &&& 31)) y1 y2 μ1))
theorem ok_X10_stays_L31 {fr : Nat} (hfr : 91 ≤ fr) {ν : hm_N} {r : Int32} {μR : hm_M}   (e63 : Int32 → hm_M → Option (Int32 × hm_M))  (he63 : ∀ (y1 : Int32)  (μ1 : hm_M), hm_LL ν μ1 → e63 y1 μ1 = some (r, μR) → hm_T (hm_LL ν) m_X10_stays fr 0 0 (some (.int r)) μR 63 [none, some (.int y1), none] [] μ1)  : ∀ (n : Nat) (y1 : Int32) (y2 : Int32)  (μ1 : hm_M), hm_LL ν μ1 → f_X10_stays_L31 e63 n y1 y2 μ1 = some (r, μR) → hm_T (hm_LL ν) m_X10_stays fr 0 0 (some (.int r)) μR 31 [some (.ref 179), some (.int y1), some (.int y2)] [] μ1 := by
  intro n
  induction n with
  | zero =>
    intro y1 y2 μ1 hL h
    unfold f_X10_stays_L31 at h
    cases h
  | succ n ih =>
    intro y1 y2 μ1 hL h
    unfold f_X10_stays_L31 at h
    refine tr_iload_n (pc' := 32) (show decode cX10_stays 31 = .ok (.iload_n 2, 1) by decide +kernel) rfl rfl rfl ?_
    refine tr_aload_n (pc' := 33) (show decode cX10_stays 32 = .ok (.aload_n 0, 1) by decide +kernel) rfl rfl rfl ?_
    obtain ⟨x7, ex7, h⟩ := hm_bs h
    have cx7 := ok_X10_many (fr := fr - 1) (ν := ν) (by omega) μ1 hL ex7
    refine tp_callV (pc' := 36) (As := []) (fr1 := fr - 1) (ci := 10) okm_X10_many lk_HandRingModel_118 (show decode cX10_stays 33 = .ok (.invokevirtual 118, 3) by decide +kernel) rfl rfl rfl (by decide) (la_o hL (by decide) rfl) rfl rfl (Nat.le_of_ble_eq_true rfl) (by omega) cx7 (st' := [.int x7, .int y2]) rfl ?_
    rcases hm_is h with ⟨hc, h⟩ | ⟨hc, h⟩
    · refine tr_icmp_ge_t (tgt := 63) hc (show decode cX10_stays 36 = .ok (.if_icmp .ge 27, 3) by decide +kernel) (by decide) ?_
      refine hm_fgt [false, true, false] (lv' := [none, some (.int y1), none]) rfl ?_
      exact he63 y1 μ1 hL h
    · refine tr_icmp_ge_f (tgt := 63) (pc' := 39) hc (show decode cX10_stays 36 = .ok (.if_icmp .ge 27, 3) by decide +kernel) (by decide) rfl ?_
      refine tr_iload_n (pc' := 40) (show decode cX10_stays 39 = .ok (.iload_n 1, 1) by decide +kernel) rfl rfl rfl ?_
      refine tr_aload_n (pc' := 41) (show decode cX10_stays 40 = .ok (.aload_n 0, 1) by decide +kernel) rfl rfl rfl ?_
      refine tr_iload_n (pc' := 42) (show decode cX10_stays 41 = .ok (.iload_n 2, 1) by decide +kernel) rfl rfl rfl ?_
      obtain ⟨x8, ex8, h⟩ := hm_bs h
      have cx8 := ok_X10_parts (fr := fr - 1) (ν := ν) (by omega) y2 μ1 hL ex8
      refine tp_callV (pc' := 45) (As := [.int y2]) (fr1 := fr - 1) (ci := 10) okm_X10_parts lk_HandRingModel_460 (show decode cX10_stays 42 = .ok (.invokevirtual 460, 3) by decide +kernel) rfl rfl rfl (by decide) (la_o hL (by decide) rfl) rfl rfl (Nat.le_of_ble_eq_true rfl) (by omega) cx8 (st' := [.int x8, .int y1]) rfl ?_
      rcases hm_is h with ⟨hc, h⟩ | ⟨hc, h⟩
      · refine tr_if_eq_t (tgt := 54) hc (show decode cX10_stays 45 = .ok (.ifCond .eq 9, 3) by decide +kernel) (by decide) ?_
        refine tr_iconst (pc' := 55) (v := (0 : Int32)) (show decode cX10_stays 54 = .ok (.iconst 0, 1) by decide +kernel) rfl (by decide) ?_
        refine hm_fgt [true, false, true] (lv' := [some (.ref 179), none, some (.int y2)]) rfl ?_
        exact ok_X10_stays_J55 hfr (f_X10_stays_L31 e63 n) e63 ih he63 (0 : Int32) y1 y2 μ1 hL h
      · refine tr_if_eq_f (tgt := 54) (pc' := 48) hc (show decode cX10_stays 45 = .ok (.ifCond .eq 9, 3) by decide +kernel) (by decide) rfl ?_
        refine tr_iconst (pc' := 49) (v := (1 : Int32)) (show decode cX10_stays 48 = .ok (.iconst 1, 1) by decide +kernel) rfl (by decide) ?_
        refine tr_iload_n (pc' := 50) (show decode cX10_stays 49 = .ok (.iload_n 2, 1) by decide +kernel) rfl rfl rfl ?_
        refine tr_ishl (pc' := 51) (show decode cX10_stays 50 = .ok (.ishl, 1) by decide +kernel) rfl ?_
        refine tr_goto (tgt := 55) (show decode cX10_stays 51 = .ok (.goto 4, 3) by decide +kernel) rfl ?_
        refine hm_fgt [true, false, true] (lv' := [some (.ref 179), none, some (.int y2)]) rfl ?_
        exact ok_X10_stays_J55 hfr (f_X10_stays_L31 e63 n) e63 ih he63 ((1 : Int32) <<< (y2 &&& 31)) y1 y2 μ1 hL h
def f_X10_stays (μ : hm_M) : Option (Int32 × hm_M) :=
  f_X10_stays_L2 (fun μz6 => f_X10_stays_L31 (fun z9_1 μz9 => some (z9_1, μz9)) hm_fu (0 : Int32) (0 : Int32) μz6) hm_fu (0 : Int32) μ
set_option maxRecDepth 100000 in
theorem ok_X10_stays {fr : Nat} (hfr : 91 ≤ fr) {ν : hm_N} {r : Int32} {μR : hm_M}    (μ : hm_M) (hL : hm_LL ν μ) (h : f_X10_stays μ = some (r, μR)) : hm_CC (hm_LL ν) m_X10_stays fr 0 0 [.ref 179] μ (some (.int r)) μR := by
  refine hm_enter (lv := [some (.ref 179), none, none]) (by decide) rfl (Nat.le_of_ble_eq_true rfl) ?_
  unfold f_X10_stays at h
  refine tr_iconst (pc' := 1) (v := (0 : Int32)) (show decode cX10_stays 0 = .ok (.iconst 0, 1) by decide +kernel) rfl (by decide) ?_
  refine tr_istore_n (pc' := 2) (lv' := [some (.ref 179), some (.int (0 : Int32)), none]) (show decode cX10_stays 1 = .ok (.istore_n 1, 1) by decide +kernel) rfl rfl (Nat.le_of_ble_eq_true rfl) rfl rfl ?_
  refine ok_X10_stays_L2 hfr _ ?_ _ (0 : Int32) μ hL h
  · intro μz6 hL h
    refine tr_iconst (pc' := 28) (v := (0 : Int32)) (show decode cX10_stays 27 = .ok (.iconst 0, 1) by decide +kernel) rfl (by decide) ?_
    refine tr_istore_n (pc' := 29) (lv' := [some (.ref 179), some (.int (0 : Int32)), none]) (show decode cX10_stays 28 = .ok (.istore_n 1, 1) by decide +kernel) rfl rfl (Nat.le_of_ble_eq_true rfl) rfl rfl ?_
    refine tr_iconst (pc' := 30) (v := (0 : Int32)) (show decode cX10_stays 29 = .ok (.iconst 0, 1) by decide +kernel) rfl (by decide) ?_
    refine tr_istore_n (pc' := 31) (lv' := [some (.ref 179), some (.int (0 : Int32)), some (.int (0 : Int32))]) (show decode cX10_stays 30 = .ok (.istore_n 2, 1) by decide +kernel) rfl rfl (Nat.le_of_ble_eq_true rfl) rfl rfl ?_
    refine ok_X10_stays_L31 hfr _ ?_ _ (0 : Int32) (0 : Int32) μz6 hL h
    · intro z9_1 μz9 hL h
      refine tr_iload_n (pc' := 64) (show decode cX10_stays 63 = .ok (.iload_n 1, 1) by decide +kernel) rfl rfl rfl ?_
      cases h
      exact tr_iret rfl (show decode cX10_stays 64 = .ok (.ireturn, 1) by decide +kernel) hL
def f_X10_few_J48 (v1 : Int32) (v2 : Int32) (c26 : Int32 → hm_M → Option (Int64 × hm_M)) (e55 : hm_M → Option (Int64 × hm_M)) (s0 : Int64) (s1 : Int32) (y3 : Int32) (μ1 : hm_M) : Option (Int64 × hm_M) :=
  Option.bind (hm_sdJ μ1 202 21 s1 s0) fun μ4 =>
  c26 (y3 + (1 : Int32)) μ4
theorem ok_X10_few_J48 {fr : Nat} (hfr : 1 ≤ fr) {ν : hm_N} {r : Int64} {μR : hm_M}  (v1 : Int32) (v2 : Int32) (c26 : Int32 → hm_M → Option (Int64 × hm_M)) (e55 : hm_M → Option (Int64 × hm_M)) (hc26 : ∀ (y3 : Int32)  (μ1 : hm_M), hm_LL ν μ1 → c26 y3 μ1 = some (r, μR) → hm_T (hm_LL ν) m_X10_few fr 0 0 (some (.long r)) μR 26 [some (.ref 179), some (.int v1), some (.int v2), some (.int y3), none, none] [] μ1) (he55 : ∀   (μ1 : hm_M), hm_LL ν μ1 → e55 μ1 = some (r, μR) → hm_T (hm_LL ν) m_X10_few fr 0 0 (some (.long r)) μR 55 [some (.ref 179), some (.int v1), some (.int v2), none, none, none] [] μ1)  (s0 : Int64) (s1 : Int32) (y3 : Int32) (μ1 : hm_M) (hL : hm_LL ν μ1) (h : f_X10_few_J48 v1 v2 c26 e55 s0 s1 y3 μ1 = some (r, μR)) : hm_T (hm_LL ν) m_X10_few fr 0 0 (some (.long r)) μR 48 [some (.ref 179), some (.int v1), some (.int v2), some (.int y3), none, none] [.long s0, .int s1, .ref 202] μ1 := by
  unfold f_X10_few_J48 at h
  obtain ⟨μ4, eμ4, h⟩ := hm_bs h
  refine tp_sdJ (pc' := 49) (show decode cX10_few 48 = .ok (.lastore, 1) by decide +kernel) rfl (la_a hL (by decide) rfl) eμ4 ?_
  replace hL := hL.same (hm_sdJ_s eμ4)
  refine tr_iinc (pc' := 52) (v := y3 + (1 : Int32)) (lv' := [some (.ref 179), some (.int v1), some (.int v2), some (.int (y3 + (1 : Int32))), none, none]) (show decode cX10_few 49 = .ok (.iinc 3 1, 3) by decide +kernel) rfl rfl rfl (Nat.le_of_ble_eq_true rfl) rfl rfl ?_
  refine tr_goto (tgt := 26) (show decode cX10_few 52 = .ok (.goto (-26), 3) by decide +kernel) rfl ?_
  exact hc26 (y3 + (1 : Int32)) μ4 hL h
def f_X10_few_L26 (v1 : Int32) (v2 : Int32) (e55 : hm_M → Option (Int64 × hm_M)) : Nat → Int32 → hm_M → Option (Int64 × hm_M)
  | 0, _, _ => none
  | n + 1, y3, μ1 => (if (20 : Int32) < y3 then
  e55 μ1
  else
  (if y3 = 0 then
  f_X10_few_J48 v1 v2 (f_X10_few_L26 v1 v2 e55 n) e55 (1000000000000 : Int64) y3 y3 μ1
  else
  f_X10_few_J48 v1 v2 (f_X10_few_L26 v1 v2 e55 n) e55 (0 : Int64) y3 y3 μ1))
theorem ok_X10_few_L26 {fr : Nat} (hfr : 1 ≤ fr) {ν : hm_N} {r : Int64} {μR : hm_M}  (v1 : Int32) (v2 : Int32) (e55 : hm_M → Option (Int64 × hm_M))  (he55 : ∀   (μ1 : hm_M), hm_LL ν μ1 → e55 μ1 = some (r, μR) → hm_T (hm_LL ν) m_X10_few fr 0 0 (some (.long r)) μR 55 [some (.ref 179), some (.int v1), some (.int v2), none, none, none] [] μ1)  : ∀ (n : Nat) (y3 : Int32)  (μ1 : hm_M), hm_LL ν μ1 → f_X10_few_L26 v1 v2 e55 n y3 μ1 = some (r, μR) → hm_T (hm_LL ν) m_X10_few fr 0 0 (some (.long r)) μR 26 [some (.ref 179), some (.int v1), some (.int v2), some (.int y3), none, none] [] μ1 := by
  intro n
  induction n with
  | zero =>
    intro y3 μ1 hL h
    unfold f_X10_few_L26 at h
    cases h
  | succ n ih =>
    intro y3 μ1 hL h
    unfold f_X10_few_L26 at h
    refine tr_iload_n (pc' := 27) (show decode cX10_few 26 = .ok (.iload_n 3, 1) by decide +kernel) rfl rfl rfl ?_
    refine tr_bipush (pc' := 29) (v := (20 : Int32)) (show decode cX10_few 27 = .ok (.bipush 20, 2) by decide +kernel) rfl (by decide) ?_
    rcases hm_is h with ⟨hc, h⟩ | ⟨hc, h⟩
    · refine tr_icmp_gt_t (tgt := 55) hc (show decode cX10_few 29 = .ok (.if_icmp .gt 26, 3) by decide +kernel) (by decide) ?_
      refine hm_fgt [true, true, true, false, false, false] (lv' := [some (.ref 179), some (.int v1), some (.int v2), none, none, none]) rfl ?_
      exact he55 μ1 hL h
    · refine tr_icmp_gt_f (tgt := 55) (pc' := 32) hc (show decode cX10_few 29 = .ok (.if_icmp .gt 26, 3) by decide +kernel) (by decide) rfl ?_
      refine tr_aload_n (pc' := 33) (show decode cX10_few 32 = .ok (.aload_n 0, 1) by decide +kernel) rfl rfl rfl ?_
      refine tr_getR (pc' := 36) fl_HandRingModel_92 (show decode cX10_few 33 = .ok (.getfield 92, 3) by decide +kernel) rfl (la_o hL (by decide) rfl) (la_r hL 139 rfl) ?_
      refine tr_iload_n (pc' := 37) (show decode cX10_few 36 = .ok (.iload_n 3, 1) by decide +kernel) rfl rfl rfl ?_
      refine tr_iload_n (pc' := 38) (show decode cX10_few 37 = .ok (.iload_n 3, 1) by decide +kernel) rfl rfl rfl ?_
      rcases hm_is h with ⟨hc, h⟩ | ⟨hc, h⟩
      · refine tr_if_ne_f (tgt := 47) (pc' := 41) hc (show decode cX10_few 38 = .ok (.ifCond .ne 9, 3) by decide +kernel) (by decide) rfl ?_
        refine tr_ldc2 (pc' := 44) (v := (1000000000000 : Int64)) (show decode cX10_few 41 = .ok (.ldc2_w 465, 3) by decide +kernel) rfl kd_HandRingModel_465 ?_
        refine tr_goto (tgt := 48) (show decode cX10_few 44 = .ok (.goto 4, 3) by decide +kernel) rfl ?_
        exact ok_X10_few_J48 hfr _ _ (f_X10_few_L26 v1 v2 e55 n) e55 ih he55 (1000000000000 : Int64) y3 y3 μ1 hL h
      · refine tr_if_ne_t (tgt := 47) hc (show decode cX10_few 38 = .ok (.ifCond .ne 9, 3) by decide +kernel) (by decide) ?_
        refine tr_lconst (pc' := 48) (v := (0 : Int64)) (show decode cX10_few 47 = .ok (.lconst 0, 1) by decide +kernel) rfl (by decide) ?_
        exact ok_X10_few_J48 hfr _ _ (f_X10_few_L26 v1 v2 e55 n) e55 ih he55 (0 : Int64) y3 y3 μ1 hL h
def f_X10_few_L67 (v1 : Int32) (v2 : Int32) (w67_3 : Int32) (c57 : Int32 → hm_M → Option (Int64 × hm_M)) (e146 : hm_M → Option (Int64 × hm_M)) (e140 : hm_M → Option (Int64 × hm_M)) : Nat → Int32 → hm_M → Option (Int64 × hm_M)
  | 0, _, _ => none
  | n + 1, y4, μ1 => (if y4 < 0 then
  e140 μ1
  else
  Option.bind (hm_ldJ μ1 202 21 (y4 + (1 : Int32))) fun x6 =>
  Option.bind (hm_ldJ μ1 202 21 y4) fun x7 =>
  Option.bind (hm_ld μ1 181 5665 (51 : Int32)) fun x8 =>
  Option.bind (hm_sdJ μ1 202 21 (y4 + (1 : Int32)) (x6 + ((x7 * x8.toInt64) / (10 : Int64)))) fun μ9 =>
  Option.bind (hm_ldJ μ9 202 21 y4) fun x10 =>
  Option.bind (hm_ld μ9 181 5665 (51 : Int32)) fun x11 =>
  Option.bind (hm_sdJ μ9 202 21 y4 ((x10 * (((10 : Int32) - x11).toInt64)) / (10 : Int64))) fun μ12 =>
  (f_X10_few_L67 v1 v2 w67_3 c57 e146 e140 n) (y4 + (-1 : Int32)) μ12)
theorem ok_X10_few_L67 {fr : Nat} (hfr : 1 ≤ fr) {ν : hm_N} {r : Int64} {μR : hm_M}  (v1 : Int32) (v2 : Int32) (w67_3 : Int32) (c57 : Int32 → hm_M → Option (Int64 × hm_M)) (e146 : hm_M → Option (Int64 × hm_M)) (e140 : hm_M → Option (Int64 × hm_M)) (hc57 : ∀ (y3 : Int32)  (μ1 : hm_M), hm_LL ν μ1 → c57 y3 μ1 = some (r, μR) → hm_T (hm_LL ν) m_X10_few fr 0 0 (some (.long r)) μR 57 [some (.ref 179), some (.int v1), some (.int v2), some (.int y3), none, none] [] μ1) (he146 : ∀   (μ1 : hm_M), hm_LL ν μ1 → e146 μ1 = some (r, μR) → hm_T (hm_LL ν) m_X10_few fr 0 0 (some (.long r)) μR 146 [some (.ref 179), some (.int v1), none, none, none, none] [] μ1) (he140 : ∀   (μ1 : hm_M), hm_LL ν μ1 → e140 μ1 = some (r, μR) → hm_T (hm_LL ν) m_X10_few fr 0 0 (some (.long r)) μR 140 [some (.ref 179), some (.int v1), some (.int v2), some (.int w67_3), none, none] [] μ1)  : ∀ (n : Nat) (y4 : Int32)  (μ1 : hm_M), hm_LL ν μ1 → f_X10_few_L67 v1 v2 w67_3 c57 e146 e140 n y4 μ1 = some (r, μR) → hm_T (hm_LL ν) m_X10_few fr 0 0 (some (.long r)) μR 67 [some (.ref 179), some (.int v1), some (.int v2), some (.int w67_3), some (.int y4), none] [] μ1 := by
  intro n
  induction n with
  | zero =>
    intro y4 μ1 hL h
    unfold f_X10_few_L67 at h
    cases h
  | succ n ih =>
    intro y4 μ1 hL h
    unfold f_X10_few_L67 at h
    refine tr_iload (pc' := 69) (show decode cX10_few 67 = .ok (.iload 4, 2) by decide +kernel) rfl rfl ?_
    rcases hm_is h with ⟨hc, h⟩ | ⟨hc, h⟩
    · refine tr_if_lt_t (tgt := 140) hc (show decode cX10_few 69 = .ok (.ifCond .lt 71, 3) by decide +kernel) (by decide) ?_
      refine hm_fgt [true, true, true, true, false, false] (lv' := [some (.ref 179), some (.int v1), some (.int v2), some (.int w67_3), none, none]) rfl ?_
      exact he140 μ1 hL h
    · refine tr_if_lt_f (tgt := 140) (pc' := 72) hc (show decode cX10_few 69 = .ok (.ifCond .lt 71, 3) by decide +kernel) (by decide) rfl ?_
      refine tr_aload_n (pc' := 73) (show decode cX10_few 72 = .ok (.aload_n 0, 1) by decide +kernel) rfl rfl rfl ?_
      refine tr_getR (pc' := 76) fl_HandRingModel_92 (show decode cX10_few 73 = .ok (.getfield 92, 3) by decide +kernel) rfl (la_o hL (by decide) rfl) (la_r hL 139 rfl) ?_
      refine tr_iload (pc' := 78) (show decode cX10_few 76 = .ok (.iload 4, 2) by decide +kernel) rfl rfl ?_
      refine tr_iconst (pc' := 79) (v := (1 : Int32)) (show decode cX10_few 78 = .ok (.iconst 1, 1) by decide +kernel) rfl (by decide) ?_
      refine tr_iadd (pc' := 80) (show decode cX10_few 79 = .ok (.iadd, 1) by decide +kernel) rfl ?_
      refine tr_dup2 (pc' := 81) (show decode cX10_few 80 = .ok (.dup2, 1) by decide +kernel) rfl rfl rfl ?_
      obtain ⟨x6, ex6, h⟩ := hm_bs h
      refine tp_ldJ (pc' := 82) (show decode cX10_few 81 = .ok (.laload, 1) by decide +kernel) rfl (la_a hL (by decide) rfl) ex6 ?_
      refine tr_aload_n (pc' := 83) (show decode cX10_few 82 = .ok (.aload_n 0, 1) by decide +kernel) rfl rfl rfl ?_
      refine tr_getR (pc' := 86) fl_HandRingModel_92 (show decode cX10_few 83 = .ok (.getfield 92, 3) by decide +kernel) rfl (la_o hL (by decide) rfl) (la_r hL 139 rfl) ?_
      refine tr_iload (pc' := 88) (show decode cX10_few 86 = .ok (.iload 4, 2) by decide +kernel) rfl rfl ?_
      obtain ⟨x7, ex7, h⟩ := hm_bs h
      refine tp_ldJ (pc' := 89) (show decode cX10_few 88 = .ok (.laload, 1) by decide +kernel) rfl (la_a hL (by decide) rfl) ex7 ?_
      refine tr_aload_n (pc' := 90) (show decode cX10_few 89 = .ok (.aload_n 0, 1) by decide +kernel) rfl rfl rfl ?_
      refine tr_getR (pc' := 93) fl_HandRingModel_24 (show decode cX10_few 90 = .ok (.getfield 24, 3) by decide +kernel) rfl (la_o hL (by decide) rfl) (la_r hL 118 rfl) ?_
      refine tr_bipush (pc' := 95) (v := (51 : Int32)) (show decode cX10_few 93 = .ok (.bipush 51, 2) by decide +kernel) rfl (by decide) ?_
      obtain ⟨x8, ex8, h⟩ := hm_bs h
      refine tp_ldI (pc' := 96) (show decode cX10_few 95 = .ok (.iaload, 1) by decide +kernel) rfl (la_a hL (by decide) rfl) ex8 ?_
      refine tr_i2l (pc' := 97) (show decode cX10_few 96 = .ok (.i2l, 1) by decide +kernel) rfl ?_
      refine tr_lmul (pc' := 98) (show decode cX10_few 97 = .ok (.lmul, 1) by decide +kernel) rfl ?_
      refine tr_ldc2 (pc' := 101) (v := (10 : Int64)) (show decode cX10_few 98 = .ok (.ldc2_w 467, 3) by decide +kernel) rfl kd_HandRingModel_467 ?_
      refine tr_ldiv (pc' := 102) (show decode cX10_few 101 = .ok (.ldiv, 1) by decide +kernel) rfl (by decide) ?_
      refine tr_ladd (pc' := 103) (show decode cX10_few 102 = .ok (.ladd, 1) by decide +kernel) rfl ?_
      obtain ⟨μ9, eμ9, h⟩ := hm_bs h
      refine tp_sdJ (pc' := 104) (show decode cX10_few 103 = .ok (.lastore, 1) by decide +kernel) rfl (la_a hL (by decide) rfl) eμ9 ?_
      replace hL := hL.same (hm_sdJ_s eμ9)
      refine tr_aload_n (pc' := 105) (show decode cX10_few 104 = .ok (.aload_n 0, 1) by decide +kernel) rfl rfl rfl ?_
      refine tr_getR (pc' := 108) fl_HandRingModel_92 (show decode cX10_few 105 = .ok (.getfield 92, 3) by decide +kernel) rfl (la_o hL (by decide) rfl) (la_r hL 139 rfl) ?_
      refine tr_iload (pc' := 110) (show decode cX10_few 108 = .ok (.iload 4, 2) by decide +kernel) rfl rfl ?_
      refine tr_aload_n (pc' := 111) (show decode cX10_few 110 = .ok (.aload_n 0, 1) by decide +kernel) rfl rfl rfl ?_
      refine tr_getR (pc' := 114) fl_HandRingModel_92 (show decode cX10_few 111 = .ok (.getfield 92, 3) by decide +kernel) rfl (la_o hL (by decide) rfl) (la_r hL 139 rfl) ?_
      refine tr_iload (pc' := 116) (show decode cX10_few 114 = .ok (.iload 4, 2) by decide +kernel) rfl rfl ?_
      obtain ⟨x10, ex10, h⟩ := hm_bs h
      refine tp_ldJ (pc' := 117) (show decode cX10_few 116 = .ok (.laload, 1) by decide +kernel) rfl (la_a hL (by decide) rfl) ex10 ?_
      refine tr_bipush (pc' := 119) (v := (10 : Int32)) (show decode cX10_few 117 = .ok (.bipush 10, 2) by decide +kernel) rfl (by decide) ?_
      refine tr_aload_n (pc' := 120) (show decode cX10_few 119 = .ok (.aload_n 0, 1) by decide +kernel) rfl rfl rfl ?_
      refine tr_getR (pc' := 123) fl_HandRingModel_24 (show decode cX10_few 120 = .ok (.getfield 24, 3) by decide +kernel) rfl (la_o hL (by decide) rfl) (la_r hL 118 rfl) ?_
      refine tr_bipush (pc' := 125) (v := (51 : Int32)) (show decode cX10_few 123 = .ok (.bipush 51, 2) by decide +kernel) rfl (by decide) ?_
      obtain ⟨x11, ex11, h⟩ := hm_bs h
      refine tp_ldI (pc' := 126) (show decode cX10_few 125 = .ok (.iaload, 1) by decide +kernel) rfl (la_a hL (by decide) rfl) ex11 ?_
      refine tr_isub (pc' := 127) (show decode cX10_few 126 = .ok (.isub, 1) by decide +kernel) rfl ?_
      refine tr_i2l (pc' := 128) (show decode cX10_few 127 = .ok (.i2l, 1) by decide +kernel) rfl ?_
      refine tr_lmul (pc' := 129) (show decode cX10_few 128 = .ok (.lmul, 1) by decide +kernel) rfl ?_
      refine tr_ldc2 (pc' := 132) (v := (10 : Int64)) (show decode cX10_few 129 = .ok (.ldc2_w 467, 3) by decide +kernel) rfl kd_HandRingModel_467 ?_
      refine tr_ldiv (pc' := 133) (show decode cX10_few 132 = .ok (.ldiv, 1) by decide +kernel) rfl (by decide) ?_
      obtain ⟨μ12, eμ12, h⟩ := hm_bs h
      refine tp_sdJ (pc' := 134) (show decode cX10_few 133 = .ok (.lastore, 1) by decide +kernel) rfl (la_a hL (by decide) rfl) eμ12 ?_
      replace hL := hL.same (hm_sdJ_s eμ12)
      refine tr_iinc (pc' := 137) (v := y4 + (-1 : Int32)) (lv' := [some (.ref 179), some (.int v1), some (.int v2), some (.int w67_3), some (.int (y4 + (-1 : Int32))), none]) (show decode cX10_few 134 = .ok (.iinc 4 (-1), 3) by decide +kernel) rfl rfl rfl (Nat.le_of_ble_eq_true rfl) rfl rfl ?_
      refine tr_goto (tgt := 67) (show decode cX10_few 137 = .ok (.goto (-70), 3) by decide +kernel) rfl ?_
      exact ih (y4 + (-1 : Int32)) μ12 hL h
def f_X10_few_L57 (v1 : Int32) (v2 : Int32) (e146 : hm_M → Option (Int64 × hm_M)) : Nat → Int32 → hm_M → Option (Int64 × hm_M)
  | 0, _, _ => none
  | n + 1, y3, μ1 => (if v2 ≤ y3 then
  e146 μ1
  else
  f_X10_few_L67 v1 v2 y3 (f_X10_few_L57 v1 v2 e146 n) e146 (fun μz13 => (f_X10_few_L57 v1 v2 e146 n) (y3 + (1 : Int32)) μz13) hm_fu (v1 - (1 : Int32)) μ1)
theorem ok_X10_few_L57 {fr : Nat} (hfr : 1 ≤ fr) {ν : hm_N} {r : Int64} {μR : hm_M}  (v1 : Int32) (v2 : Int32) (e146 : hm_M → Option (Int64 × hm_M))  (he146 : ∀   (μ1 : hm_M), hm_LL ν μ1 → e146 μ1 = some (r, μR) → hm_T (hm_LL ν) m_X10_few fr 0 0 (some (.long r)) μR 146 [some (.ref 179), some (.int v1), none, none, none, none] [] μ1)  : ∀ (n : Nat) (y3 : Int32)  (μ1 : hm_M), hm_LL ν μ1 → f_X10_few_L57 v1 v2 e146 n y3 μ1 = some (r, μR) → hm_T (hm_LL ν) m_X10_few fr 0 0 (some (.long r)) μR 57 [some (.ref 179), some (.int v1), some (.int v2), some (.int y3), none, none] [] μ1 := by
  intro n
  induction n with
  | zero =>
    intro y3 μ1 hL h
    unfold f_X10_few_L57 at h
    cases h
  | succ n ih =>
    intro y3 μ1 hL h
    unfold f_X10_few_L57 at h
    refine tr_iload_n (pc' := 58) (show decode cX10_few 57 = .ok (.iload_n 3, 1) by decide +kernel) rfl rfl rfl ?_
    refine tr_iload_n (pc' := 59) (show decode cX10_few 58 = .ok (.iload_n 2, 1) by decide +kernel) rfl rfl rfl ?_
    rcases hm_is h with ⟨hc, h⟩ | ⟨hc, h⟩
    · refine tr_icmp_ge_t (tgt := 146) hc (show decode cX10_few 59 = .ok (.if_icmp .ge 87, 3) by decide +kernel) (by decide) ?_
      refine hm_fgt [true, true, false, false, false, false] (lv' := [some (.ref 179), some (.int v1), none, none, none, none]) rfl ?_
      exact he146 μ1 hL h
    · refine tr_icmp_ge_f (tgt := 146) (pc' := 62) hc (show decode cX10_few 59 = .ok (.if_icmp .ge 87, 3) by decide +kernel) (by decide) rfl ?_
      refine tr_iload_n (pc' := 63) (show decode cX10_few 62 = .ok (.iload_n 1, 1) by decide +kernel) rfl rfl rfl ?_
      refine tr_iconst (pc' := 64) (v := (1 : Int32)) (show decode cX10_few 63 = .ok (.iconst 1, 1) by decide +kernel) rfl (by decide) ?_
      refine tr_isub (pc' := 65) (show decode cX10_few 64 = .ok (.isub, 1) by decide +kernel) rfl ?_
      refine tr_istore (pc' := 67) (lv' := [some (.ref 179), some (.int v1), some (.int v2), some (.int y3), some (.int (v1 - (1 : Int32))), none]) (show decode cX10_few 65 = .ok (.istore 4, 2) by decide +kernel) rfl (Nat.le_of_ble_eq_true rfl) rfl rfl ?_
      refine ok_X10_few_L67 hfr _ _ y3 (f_X10_few_L57 v1 v2 e146 n) e146 _ ih he146 ?_ _ (v1 - (1 : Int32)) μ1 hL h
      · intro μz13 hL h
        refine tr_iinc (pc' := 143) (v := y3 + (1 : Int32)) (lv' := [some (.ref 179), some (.int v1), some (.int v2), some (.int (y3 + (1 : Int32))), none, none]) (show decode cX10_few 140 = .ok (.iinc 3 1, 3) by decide +kernel) rfl rfl rfl (Nat.le_of_ble_eq_true rfl) rfl rfl ?_
        refine tr_goto (tgt := 57) (show decode cX10_few 143 = .ok (.goto (-86), 3) by decide +kernel) rfl ?_
        exact ih (y3 + (1 : Int32)) μz13 hL h
def f_X10_few_L151 (v1 : Int32) (v2 : Int32) (e173 : Int64 → hm_M → Option (Int64 × hm_M)) : Nat → Int64 → Int32 → hm_M → Option (Int64 × hm_M)
  | 0, _, _, _ => none
  | n + 1, y3, y5, μ1 => (if v1 ≤ y5 then
  e173 y3 μ1
  else
  Option.bind (hm_ldJ μ1 202 21 y5) fun x15 =>
  (f_X10_few_L151 v1 v2 e173 n) (y3 + x15) (y5 + (1 : Int32)) μ1)
theorem ok_X10_few_L151 {fr : Nat} (hfr : 1 ≤ fr) {ν : hm_N} {r : Int64} {μR : hm_M}  (v1 : Int32) (v2 : Int32) (e173 : Int64 → hm_M → Option (Int64 × hm_M))  (he173 : ∀ (y3 : Int64)  (μ1 : hm_M), hm_LL ν μ1 → e173 y3 μ1 = some (r, μR) → hm_T (hm_LL ν) m_X10_few fr 0 0 (some (.long r)) μR 173 [none, none, none, some (.long y3), none, none] [] μ1)  : ∀ (n : Nat) (y3 : Int64) (y5 : Int32)  (μ1 : hm_M), hm_LL ν μ1 → f_X10_few_L151 v1 v2 e173 n y3 y5 μ1 = some (r, μR) → hm_T (hm_LL ν) m_X10_few fr 0 0 (some (.long r)) μR 151 [some (.ref 179), some (.int v1), none, some (.long y3), none, some (.int y5)] [] μ1 := by
  intro n
  induction n with
  | zero =>
    intro y3 y5 μ1 hL h
    unfold f_X10_few_L151 at h
    cases h
  | succ n ih =>
    intro y3 y5 μ1 hL h
    unfold f_X10_few_L151 at h
    refine tr_iload (pc' := 153) (show decode cX10_few 151 = .ok (.iload 5, 2) by decide +kernel) rfl rfl ?_
    refine tr_iload_n (pc' := 154) (show decode cX10_few 153 = .ok (.iload_n 1, 1) by decide +kernel) rfl rfl rfl ?_
    rcases hm_is h with ⟨hc, h⟩ | ⟨hc, h⟩
    · refine tr_icmp_ge_t (tgt := 173) hc (show decode cX10_few 154 = .ok (.if_icmp .ge 19, 3) by decide +kernel) (by decide) ?_
      refine hm_fgt [false, false, false, true, false, false] (lv' := [none, none, none, some (.long y3), none, none]) rfl ?_
      exact he173 y3 μ1 hL h
    · refine tr_icmp_ge_f (tgt := 173) (pc' := 157) hc (show decode cX10_few 154 = .ok (.if_icmp .ge 19, 3) by decide +kernel) (by decide) rfl ?_
      refine tr_lload_n (pc' := 158) (show decode cX10_few 157 = .ok (.lload_n 3, 1) by decide +kernel) rfl rfl rfl ?_
      refine tr_aload_n (pc' := 159) (show decode cX10_few 158 = .ok (.aload_n 0, 1) by decide +kernel) rfl rfl rfl ?_
      refine tr_getR (pc' := 162) fl_HandRingModel_92 (show decode cX10_few 159 = .ok (.getfield 92, 3) by decide +kernel) rfl (la_o hL (by decide) rfl) (la_r hL 139 rfl) ?_
      refine tr_iload (pc' := 164) (show decode cX10_few 162 = .ok (.iload 5, 2) by decide +kernel) rfl rfl ?_
      obtain ⟨x15, ex15, h⟩ := hm_bs h
      refine tp_ldJ (pc' := 165) (show decode cX10_few 164 = .ok (.laload, 1) by decide +kernel) rfl (la_a hL (by decide) rfl) ex15 ?_
      refine tr_ladd (pc' := 166) (show decode cX10_few 165 = .ok (.ladd, 1) by decide +kernel) rfl ?_
      refine tr_lstore_n (pc' := 167) (lv' := [some (.ref 179), some (.int v1), none, some (.long (y3 + x15)), none, some (.int y5)]) (show decode cX10_few 166 = .ok (.lstore_n 3, 1) by decide +kernel) rfl rfl (Nat.le_of_ble_eq_true rfl) rfl rfl ?_
      refine tr_iinc (pc' := 170) (v := y5 + (1 : Int32)) (lv' := [some (.ref 179), some (.int v1), none, some (.long (y3 + x15)), none, some (.int (y5 + (1 : Int32)))]) (show decode cX10_few 167 = .ok (.iinc 5 1, 3) by decide +kernel) rfl rfl rfl (Nat.le_of_ble_eq_true rfl) rfl rfl ?_
      refine tr_goto (tgt := 151) (show decode cX10_few 170 = .ok (.goto (-19), 3) by decide +kernel) rfl ?_
      exact ih (y3 + x15) (y5 + (1 : Int32)) μ1 hL h
def f_X10_few (v1 : Int32) (v2 : Int32) (μ : hm_M) : Option (Int64 × hm_M) :=
  Option.bind (f_X10_lies v1 (1 : Int32) (20 : Int32)) fun x2 =>
  (if x2 = 0 then
  some ((-1 : Int64), μ)
  else
  Option.bind (f_X10_lies v2 (0 : Int32) (99 : Int32)) fun x3 =>
  (if x3 = 0 then
  some ((-1 : Int64), μ)
  else
  f_X10_few_L26 v1 v2 (fun μz5 => f_X10_few_L57 v1 v2 (fun μz14 => f_X10_few_L151 v1 v2 (fun z16_3 μz16 => some (z16_3, μz16)) hm_fu (0 : Int64) (0 : Int32) μz14) hm_fu (0 : Int32) μz5) hm_fu (0 : Int32) μ))
set_option maxRecDepth 100000 in
theorem ok_X10_few {fr : Nat} (hfr : 1 ≤ fr) {ν : hm_N} {r : Int64} {μR : hm_M}  (v1 : Int32) (v2 : Int32)  (μ : hm_M) (hL : hm_LL ν μ) (h : f_X10_few v1 v2 μ = some (r, μR)) : hm_CC (hm_LL ν) m_X10_few fr 0 0 [.ref 179, .int v1, .int v2] μ (some (.long r)) μR := by
  refine hm_enter (lv := [some (.ref 179), some (.int v1), some (.int v2), none, none, none]) (by decide) rfl (Nat.le_of_ble_eq_true rfl) ?_
  unfold f_X10_few at h
  refine tr_iload_n (pc' := 1) (show decode cX10_few 0 = .ok (.iload_n 1, 1) by decide +kernel) rfl rfl rfl ?_
  refine tr_iconst (pc' := 2) (v := (1 : Int32)) (show decode cX10_few 1 = .ok (.iconst 1, 1) by decide +kernel) rfl (by decide) ?_
  refine tr_bipush (pc' := 4) (v := (20 : Int32)) (show decode cX10_few 2 = .ok (.bipush 20, 2) by decide +kernel) rfl (by decide) ?_
  obtain ⟨x2, ex2, h⟩ := hm_bs h
  have cx2 := ok_X10_lies (fr := fr - 1) (ν := ν) (by omega) v1 (1 : Int32) (20 : Int32) μ hL ex2
  refine tp_callS (pc' := 7) (As := [.int v1, .int (1 : Int32), .int (20 : Int32)]) (fr1 := fr - 1) okm_X10_lies lk_HandRingModel_108 (show decode cX10_few 4 = .ok (.invokestatic 108, 3) by decide +kernel) rfl rfl rfl (Nat.le_of_ble_eq_true rfl) (by omega) cx2 (st' := [.int x2]) rfl ?_
  rcases hm_is h with ⟨hc, h⟩ | ⟨hc, h⟩
  · refine tr_if_eq_t (tgt := 20) hc (show decode cX10_few 7 = .ok (.ifCond .eq 13, 3) by decide +kernel) (by decide) ?_
    refine tr_ldc2 (pc' := 23) (v := (-1 : Int64)) (show decode cX10_few 20 = .ok (.ldc2_w 463, 3) by decide +kernel) rfl kd_HandRingModel_463 ?_
    cases h
    exact tr_lret rfl (show decode cX10_few 23 = .ok (.lreturn, 1) by decide +kernel) hL
  · refine tr_if_eq_f (tgt := 20) (pc' := 10) hc (show decode cX10_few 7 = .ok (.ifCond .eq 13, 3) by decide +kernel) (by decide) rfl ?_
    refine tr_iload_n (pc' := 11) (show decode cX10_few 10 = .ok (.iload_n 2, 1) by decide +kernel) rfl rfl rfl ?_
    refine tr_iconst (pc' := 12) (v := (0 : Int32)) (show decode cX10_few 11 = .ok (.iconst 0, 1) by decide +kernel) rfl (by decide) ?_
    refine tr_bipush (pc' := 14) (v := (99 : Int32)) (show decode cX10_few 12 = .ok (.bipush 99, 2) by decide +kernel) rfl (by decide) ?_
    obtain ⟨x3, ex3, h⟩ := hm_bs h
    have cx3 := ok_X10_lies (fr := fr - 1) (ν := ν) (by omega) v2 (0 : Int32) (99 : Int32) μ hL ex3
    refine tp_callS (pc' := 17) (As := [.int v2, .int (0 : Int32), .int (99 : Int32)]) (fr1 := fr - 1) okm_X10_lies lk_HandRingModel_108 (show decode cX10_few 14 = .ok (.invokestatic 108, 3) by decide +kernel) rfl rfl rfl (Nat.le_of_ble_eq_true rfl) (by omega) cx3 (st' := [.int x3]) rfl ?_
    rcases hm_is h with ⟨hc, h⟩ | ⟨hc, h⟩
    · refine tr_if_ne_f (tgt := 24) (pc' := 20) hc (show decode cX10_few 17 = .ok (.ifCond .ne 7, 3) by decide +kernel) (by decide) rfl ?_
      refine tr_ldc2 (pc' := 23) (v := (-1 : Int64)) (show decode cX10_few 20 = .ok (.ldc2_w 463, 3) by decide +kernel) rfl kd_HandRingModel_463 ?_
      cases h
      exact tr_lret rfl (show decode cX10_few 23 = .ok (.lreturn, 1) by decide +kernel) hL
    · refine tr_if_ne_t (tgt := 24) hc (show decode cX10_few 17 = .ok (.ifCond .ne 7, 3) by decide +kernel) (by decide) ?_
      refine tr_iconst (pc' := 25) (v := (0 : Int32)) (show decode cX10_few 24 = .ok (.iconst 0, 1) by decide +kernel) rfl (by decide) ?_
      refine tr_istore_n (pc' := 26) (lv' := [some (.ref 179), some (.int v1), some (.int v2), some (.int (0 : Int32)), none, none]) (show decode cX10_few 25 = .ok (.istore_n 3, 1) by decide +kernel) rfl rfl (Nat.le_of_ble_eq_true rfl) rfl rfl ?_
      refine ok_X10_few_L26 hfr _ _ _ ?_ _ (0 : Int32) μ hL h
      · intro μz5 hL h
        refine tr_iconst (pc' := 56) (v := (0 : Int32)) (show decode cX10_few 55 = .ok (.iconst 0, 1) by decide +kernel) rfl (by decide) ?_
        refine tr_istore_n (pc' := 57) (lv' := [some (.ref 179), some (.int v1), some (.int v2), some (.int (0 : Int32)), none, none]) (show decode cX10_few 56 = .ok (.istore_n 3, 1) by decide +kernel) rfl rfl (Nat.le_of_ble_eq_true rfl) rfl rfl ?_
        refine ok_X10_few_L57 hfr _ _ _ ?_ _ (0 : Int32) μz5 hL h
        · intro μz14 hL h
          refine tr_lconst (pc' := 147) (v := (0 : Int64)) (show decode cX10_few 146 = .ok (.lconst 0, 1) by decide +kernel) rfl (by decide) ?_
          refine tr_lstore_n (pc' := 148) (lv' := [some (.ref 179), some (.int v1), none, some (.long (0 : Int64)), none, none]) (show decode cX10_few 147 = .ok (.lstore_n 3, 1) by decide +kernel) rfl rfl (Nat.le_of_ble_eq_true rfl) rfl rfl ?_
          refine tr_iconst (pc' := 149) (v := (0 : Int32)) (show decode cX10_few 148 = .ok (.iconst 0, 1) by decide +kernel) rfl (by decide) ?_
          refine tr_istore (pc' := 151) (lv' := [some (.ref 179), some (.int v1), none, some (.long (0 : Int64)), none, some (.int (0 : Int32))]) (show decode cX10_few 149 = .ok (.istore 5, 2) by decide +kernel) rfl (Nat.le_of_ble_eq_true rfl) rfl rfl ?_
          refine ok_X10_few_L151 hfr _ _ _ ?_ _ (0 : Int64) (0 : Int32) μz14 hL h
          · intro z16_3 μz16 hL h
            refine tr_lload_n (pc' := 174) (show decode cX10_few 173 = .ok (.lload_n 3, 1) by decide +kernel) rfl rfl rfl ?_
            cases h
            exact tr_lret rfl (show decode cX10_few 174 = .ok (.lreturn, 1) by decide +kernel) hL
def f_X10_stopped (μ : hm_M) : Option Int32 :=
  some (μ.1 179 46)
set_option maxRecDepth 100000 in
theorem ok_X10_stopped {fr : Nat} (hfr : 0 ≤ fr) {ν : hm_N} {r : Int32}    (μ : hm_M) (hL : hm_LL ν μ) (h : f_X10_stopped μ = some r) : hm_CC (hm_LL ν) m_X10_stopped fr 0 0 [.ref 179] μ (some (.int r)) μ := by
  refine hm_enter (lv := [some (.ref 179)]) (by decide) rfl (Nat.le_of_ble_eq_true rfl) ?_
  unfold f_X10_stopped at h
  refine tr_aload_n (pc' := 1) (show decode cX10_stopped 0 = .ok (.aload_n 0, 1) by decide +kernel) rfl rfl rfl ?_
  refine tr_getI (pc' := 4) fl_HandRingModel_96 (show decode cX10_stopped 1 = .ok (.getfield 96, 3) by decide +kernel) rfl (la_o hL (by decide) rfl) ?_
  cases h
  exact tr_iret rfl (show decode cX10_stopped 4 = .ok (.ireturn, 1) by decide +kernel) hL
def f_X10_goesAlong_J137 (v1 : Int32) (v2 : Int32) (w79_3 : Int32) (c79 : Int32 → hm_M → Option hm_M) (e146 : hm_M → Option hm_M) (s0 : Int32) (y4 : Int32) (μ1 : hm_M) : Option hm_M :=
  Option.bind (hm_pZ μ1 179 50 s0) fun μ14 =>
  c79 (y4 + (1 : Int32)) μ14
theorem ok_X10_goesAlong_J137 {fr : Nat} (hfr : 90 ≤ fr) {ν : hm_N} {μR : hm_M}  (v1 : Int32) (v2 : Int32) (w79_3 : Int32) (c79 : Int32 → hm_M → Option hm_M) (e146 : hm_M → Option hm_M) (hc79 : ∀ (y4 : Int32)  (μ1 : hm_M), hm_LL ν μ1 → c79 y4 μ1 = some μR → hm_T (hm_LL ν) m_X10_goesAlong fr 0 0 none μR 79 [some (.ref 179), none, some (.int v2), some (.int w79_3), some (.int y4)] [] μ1) (he146 : ∀   (μ1 : hm_M), hm_LL ν μ1 → e146 μ1 = some μR → hm_T (hm_LL ν) m_X10_goesAlong fr 0 0 none μR 146 [some (.ref 179), none, some (.int v2), none, none] [] μ1)  (s0 : Int32) (y4 : Int32) (μ1 : hm_M) (hL : hm_LL ν μ1) (h : f_X10_goesAlong_J137 v1 v2 w79_3 c79 e146 s0 y4 μ1 = some μR) : hm_T (hm_LL ν) m_X10_goesAlong fr 0 0 none μR 137 [some (.ref 179), none, some (.int v2), some (.int w79_3), some (.int y4)] [.int s0, .ref 179] μ1 := by
  unfold f_X10_goesAlong_J137 at h
  obtain ⟨μ14, eμ14, h⟩ := hm_bs h
  refine tp_pZ (pc' := 140) fl_HandRingModel_484 (show decode cX10_goesAlong 137 = .ok (.putfield 484, 3) by decide +kernel) rfl (la_o hL (by decide) rfl) eμ14 ?_
  replace hL := hL.same (hm_pZ_s eμ14)
  refine tr_iinc (pc' := 143) (v := y4 + (1 : Int32)) (lv' := [some (.ref 179), none, some (.int v2), some (.int w79_3), some (.int (y4 + (1 : Int32)))]) (show decode cX10_goesAlong 140 = .ok (.iinc 4 1, 3) by decide +kernel) rfl rfl rfl (Nat.le_of_ble_eq_true rfl) rfl rfl ?_
  refine tr_goto (tgt := 79) (show decode cX10_goesAlong 143 = .ok (.goto (-64), 3) by decide +kernel) rfl ?_
  exact hc79 (y4 + (1 : Int32)) μ14 hL h
def f_X10_goesAlong_J136 (v1 : Int32) (v2 : Int32) (w79_3 : Int32) (c79 : Int32 → hm_M → Option hm_M) (e146 : hm_M → Option hm_M) (y4 : Int32) (μ1 : hm_M) : Option hm_M :=
  f_X10_goesAlong_J137 v1 v2 w79_3 c79 e146 (0 : Int32) y4 μ1
theorem ok_X10_goesAlong_J136 {fr : Nat} (hfr : 90 ≤ fr) {ν : hm_N} {μR : hm_M}  (v1 : Int32) (v2 : Int32) (w79_3 : Int32) (c79 : Int32 → hm_M → Option hm_M) (e146 : hm_M → Option hm_M) (hc79 : ∀ (y4 : Int32)  (μ1 : hm_M), hm_LL ν μ1 → c79 y4 μ1 = some μR → hm_T (hm_LL ν) m_X10_goesAlong fr 0 0 none μR 79 [some (.ref 179), none, some (.int v2), some (.int w79_3), some (.int y4)] [] μ1) (he146 : ∀   (μ1 : hm_M), hm_LL ν μ1 → e146 μ1 = some μR → hm_T (hm_LL ν) m_X10_goesAlong fr 0 0 none μR 146 [some (.ref 179), none, some (.int v2), none, none] [] μ1)  (y4 : Int32) (μ1 : hm_M) (hL : hm_LL ν μ1) (h : f_X10_goesAlong_J136 v1 v2 w79_3 c79 e146 y4 μ1 = some μR) : hm_T (hm_LL ν) m_X10_goesAlong fr 0 0 none μR 136 [some (.ref 179), none, some (.int v2), some (.int w79_3), some (.int y4)] [.ref 179] μ1 := by
  unfold f_X10_goesAlong_J136 at h
  refine tr_iconst (pc' := 137) (v := (0 : Int32)) (show decode cX10_goesAlong 136 = .ok (.iconst 0, 1) by decide +kernel) rfl (by decide) ?_
  exact ok_X10_goesAlong_J137 hfr _ _ w79_3 c79 e146 hc79 he146 (0 : Int32) y4 μ1 hL h
def f_X10_goesAlong_J100 (v1 : Int32) (v2 : Int32) (w79_3 : Int32) (c79 : Int32 → hm_M → Option hm_M) (e146 : hm_M → Option hm_M) (y4 : Int32) (μ1 : hm_M) : Option hm_M :=
  Option.bind (hm_pZ μ1 179 24 (0 : Int32)) fun μ10 =>
  hm_b2 (F_X10_sumOf v2 μ10) fun x11 μ12 =>
  Option.bind (hm_sdJ μ12 203 2 y4 x11) fun μ13 =>
  (if (μ13.1 179 50) = 0 then
  f_X10_goesAlong_J136 v1 v2 w79_3 c79 e146 y4 μ13
  else
  (if (μ13.1 179 24) = 0 then
  f_X10_goesAlong_J137 v1 v2 w79_3 c79 e146 (1 : Int32) y4 μ13
  else
  f_X10_goesAlong_J136 v1 v2 w79_3 c79 e146 y4 μ13))
theorem ok_X10_goesAlong_J100 {fr : Nat} (hfr : 90 ≤ fr) {ν : hm_N} {μR : hm_M}  (v1 : Int32) (v2 : Int32) (w79_3 : Int32) (c79 : Int32 → hm_M → Option hm_M) (e146 : hm_M → Option hm_M) (hc79 : ∀ (y4 : Int32)  (μ1 : hm_M), hm_LL ν μ1 → c79 y4 μ1 = some μR → hm_T (hm_LL ν) m_X10_goesAlong fr 0 0 none μR 79 [some (.ref 179), none, some (.int v2), some (.int w79_3), some (.int y4)] [] μ1) (he146 : ∀   (μ1 : hm_M), hm_LL ν μ1 → e146 μ1 = some μR → hm_T (hm_LL ν) m_X10_goesAlong fr 0 0 none μR 146 [some (.ref 179), none, some (.int v2), none, none] [] μ1)  (y4 : Int32) (μ1 : hm_M) (hL : hm_LL ν μ1) (h : f_X10_goesAlong_J100 v1 v2 w79_3 c79 e146 y4 μ1 = some μR) : hm_T (hm_LL ν) m_X10_goesAlong fr 0 0 none μR 100 [some (.ref 179), none, some (.int v2), some (.int w79_3), some (.int y4)] [] μ1 := by
  unfold f_X10_goesAlong_J100 at h
  refine tr_aload_n (pc' := 101) (show decode cX10_goesAlong 100 = .ok (.aload_n 0, 1) by decide +kernel) rfl rfl rfl ?_
  refine tr_iconst (pc' := 102) (v := (0 : Int32)) (show decode cX10_goesAlong 101 = .ok (.iconst 0, 1) by decide +kernel) rfl (by decide) ?_
  obtain ⟨μ10, eμ10, h⟩ := hm_bs h
  refine tp_pZ (pc' := 105) fl_HandRingModel_284 (show decode cX10_goesAlong 102 = .ok (.putfield 284, 3) by decide +kernel) rfl (la_o hL (by decide) rfl) eμ10 ?_
  replace hL := hL.same (hm_pZ_s eμ10)
  refine tr_aload_n (pc' := 106) (show decode cX10_goesAlong 105 = .ok (.aload_n 0, 1) by decide +kernel) rfl rfl rfl ?_
  refine tr_getR (pc' := 109) fl_HandRingModel_99 (show decode cX10_goesAlong 106 = .ok (.getfield 99, 3) by decide +kernel) rfl (la_o hL (by decide) rfl) (la_r hL 140 rfl) ?_
  refine tr_iload (pc' := 111) (show decode cX10_goesAlong 109 = .ok (.iload 4, 2) by decide +kernel) rfl rfl ?_
  refine tr_aload_n (pc' := 112) (show decode cX10_goesAlong 111 = .ok (.aload_n 0, 1) by decide +kernel) rfl rfl rfl ?_
  refine tr_iload_n (pc' := 113) (show decode cX10_goesAlong 112 = .ok (.iload_n 2, 1) by decide +kernel) rfl rfl rfl ?_
  obtain ⟨x11, μ12, ex11, h⟩ := hm_b2s h
  have cx11 := OK_X10_sumOf (fr := fr - 1) (ν := ν) (by omega) v2 μ10 hL ex11
  refine tp_callV (pc' := 116) (As := [.int v2]) (fr1 := fr - 1) (ci := 10) okm_X10_sumOf lk_HandRingModel_301 (show decode cX10_goesAlong 113 = .ok (.invokevirtual 301, 3) by decide +kernel) rfl rfl rfl (by decide) (la_o hL (by decide) rfl) rfl rfl (Nat.le_of_ble_eq_true rfl) (by omega) cx11 (st' := [.long x11, .int y4, .ref 203]) rfl ?_
  replace hL := cx11.1
  obtain ⟨μ13, eμ13, h⟩ := hm_bs h
  refine tp_sdJ (pc' := 117) (show decode cX10_goesAlong 116 = .ok (.lastore, 1) by decide +kernel) rfl (la_a hL (by decide) rfl) eμ13 ?_
  replace hL := hL.same (hm_sdJ_s eμ13)
  refine tr_aload_n (pc' := 118) (show decode cX10_goesAlong 117 = .ok (.aload_n 0, 1) by decide +kernel) rfl rfl rfl ?_
  refine tr_aload_n (pc' := 119) (show decode cX10_goesAlong 118 = .ok (.aload_n 0, 1) by decide +kernel) rfl rfl rfl ?_
  refine tr_getI (pc' := 122) fl_HandRingModel_484 (show decode cX10_goesAlong 119 = .ok (.getfield 484, 3) by decide +kernel) rfl (la_o hL (by decide) rfl) ?_
  rcases hm_is h with ⟨hc, h⟩ | ⟨hc, h⟩
  · refine tr_if_eq_t (tgt := 136) hc (show decode cX10_goesAlong 122 = .ok (.ifCond .eq 14, 3) by decide +kernel) (by decide) ?_
    exact ok_X10_goesAlong_J136 hfr _ _ w79_3 c79 e146 hc79 he146 y4 μ13 hL h
  · refine tr_if_eq_f (tgt := 136) (pc' := 125) hc (show decode cX10_goesAlong 122 = .ok (.ifCond .eq 14, 3) by decide +kernel) (by decide) rfl ?_
    refine tr_aload_n (pc' := 126) (show decode cX10_goesAlong 125 = .ok (.aload_n 0, 1) by decide +kernel) rfl rfl rfl ?_
    refine tr_getI (pc' := 129) fl_HandRingModel_284 (show decode cX10_goesAlong 126 = .ok (.getfield 284, 3) by decide +kernel) rfl (la_o hL (by decide) rfl) ?_
    rcases hm_is h with ⟨hc, h⟩ | ⟨hc, h⟩
    · refine tr_if_ne_f (tgt := 136) (pc' := 132) hc (show decode cX10_goesAlong 129 = .ok (.ifCond .ne 7, 3) by decide +kernel) (by decide) rfl ?_
      refine tr_iconst (pc' := 133) (v := (1 : Int32)) (show decode cX10_goesAlong 132 = .ok (.iconst 1, 1) by decide +kernel) rfl (by decide) ?_
      refine tr_goto (tgt := 137) (show decode cX10_goesAlong 133 = .ok (.goto 4, 3) by decide +kernel) rfl ?_
      exact ok_X10_goesAlong_J137 hfr _ _ w79_3 c79 e146 hc79 he146 (1 : Int32) y4 μ13 hL h
    · refine tr_if_ne_t (tgt := 136) hc (show decode cX10_goesAlong 129 = .ok (.ifCond .ne 7, 3) by decide +kernel) (by decide) ?_
      exact ok_X10_goesAlong_J136 hfr _ _ w79_3 c79 e146 hc79 he146 y4 μ13 hL h
def f_X10_goesAlong_L79 (v1 : Int32) (v2 : Int32) (w79_3 : Int32) (e146 : hm_M → Option hm_M) : Nat → Int32 → hm_M → Option hm_M
  | 0, _, _ => none
  | n + 1, y4, μ1 => (if w79_3 ≤ y4 then
  e146 μ1
  else
  (if y4 ≤ 0 then
  f_X10_goesAlong_J100 v1 v2 w79_3 (f_X10_goesAlong_L79 v1 v2 w79_3 e146 n) e146 y4 μ1
  else
  Option.bind (hm_pI μ1 179 22 ((μ1.1 179 22) + (1 : Int32))) fun μ15 =>
  f_X10_goesAlong_J100 v1 v2 w79_3 (f_X10_goesAlong_L79 v1 v2 w79_3 e146 n) e146 y4 μ15))
theorem ok_X10_goesAlong_L79 {fr : Nat} (hfr : 90 ≤ fr) {ν : hm_N} {μR : hm_M}  (v1 : Int32) (v2 : Int32) (w79_3 : Int32) (e146 : hm_M → Option hm_M)  (he146 : ∀   (μ1 : hm_M), hm_LL ν μ1 → e146 μ1 = some μR → hm_T (hm_LL ν) m_X10_goesAlong fr 0 0 none μR 146 [some (.ref 179), none, some (.int v2), none, none] [] μ1)  : ∀ (n : Nat) (y4 : Int32)  (μ1 : hm_M), hm_LL ν μ1 → f_X10_goesAlong_L79 v1 v2 w79_3 e146 n y4 μ1 = some μR → hm_T (hm_LL ν) m_X10_goesAlong fr 0 0 none μR 79 [some (.ref 179), none, some (.int v2), some (.int w79_3), some (.int y4)] [] μ1 := by
  intro n
  induction n with
  | zero =>
    intro y4 μ1 hL h
    unfold f_X10_goesAlong_L79 at h
    cases h
  | succ n ih =>
    intro y4 μ1 hL h
    unfold f_X10_goesAlong_L79 at h
    refine tr_iload (pc' := 81) (show decode cX10_goesAlong 79 = .ok (.iload 4, 2) by decide +kernel) rfl rfl ?_
    refine tr_iload_n (pc' := 82) (show decode cX10_goesAlong 81 = .ok (.iload_n 3, 1) by decide +kernel) rfl rfl rfl ?_
    rcases hm_is h with ⟨hc, h⟩ | ⟨hc, h⟩
    · refine tr_icmp_ge_t (tgt := 146) hc (show decode cX10_goesAlong 82 = .ok (.if_icmp .ge 64, 3) by decide +kernel) (by decide) ?_
      refine hm_fgt [true, false, true, false, false] (lv' := [some (.ref 179), none, some (.int v2), none, none]) rfl ?_
      exact he146 μ1 hL h
    · refine tr_icmp_ge_f (tgt := 146) (pc' := 85) hc (show decode cX10_goesAlong 82 = .ok (.if_icmp .ge 64, 3) by decide +kernel) (by decide) rfl ?_
      refine tr_iload (pc' := 87) (show decode cX10_goesAlong 85 = .ok (.iload 4, 2) by decide +kernel) rfl rfl ?_
      rcases hm_is h with ⟨hc, h⟩ | ⟨hc, h⟩
      · refine tr_if_le_t (tgt := 100) hc (show decode cX10_goesAlong 87 = .ok (.ifCond .le 13, 3) by decide +kernel) (by decide) ?_
        exact ok_X10_goesAlong_J100 hfr _ _ w79_3 (f_X10_goesAlong_L79 v1 v2 w79_3 e146 n) e146 ih he146 y4 μ1 hL h
      · refine tr_if_le_f (tgt := 100) (pc' := 90) hc (show decode cX10_goesAlong 87 = .ok (.ifCond .le 13, 3) by decide +kernel) (by decide) rfl ?_
        refine tr_aload_n (pc' := 91) (show decode cX10_goesAlong 90 = .ok (.aload_n 0, 1) by decide +kernel) rfl rfl rfl ?_
        refine tr_dup (pc' := 92) (show decode cX10_goesAlong 91 = .ok (.dup, 1) by decide +kernel) rfl rfl ?_
        refine tr_getI (pc' := 95) fl_HandRingModel_274 (show decode cX10_goesAlong 92 = .ok (.getfield 274, 3) by decide +kernel) rfl (la_o hL (by decide) rfl) ?_
        refine tr_iconst (pc' := 96) (v := (1 : Int32)) (show decode cX10_goesAlong 95 = .ok (.iconst 1, 1) by decide +kernel) rfl (by decide) ?_
        refine tr_iadd (pc' := 97) (show decode cX10_goesAlong 96 = .ok (.iadd, 1) by decide +kernel) rfl ?_
        obtain ⟨μ15, eμ15, h⟩ := hm_bs h
        refine tp_pI (pc' := 100) fl_HandRingModel_274 (show decode cX10_goesAlong 97 = .ok (.putfield 274, 3) by decide +kernel) rfl (la_o hL (by decide) rfl) eμ15 ?_
        replace hL := hL.same (hm_pI_s eμ15)
        exact ok_X10_goesAlong_J100 hfr _ _ w79_3 (f_X10_goesAlong_L79 v1 v2 w79_3 e146 n) e146 ih he146 y4 μ15 hL h
def f_X10_goesAlong_J237 (v1 : Int32) (v2 : Int32) (s0 : Int32) (μ1 : hm_M) : Option hm_M :=
  Option.bind (hm_pZ μ1 179 51 s0) fun μ24 =>
  Option.bind (hm_pI μ24 179 22 ((μ24.1 179 22) + (1 : Int32))) fun μ25 =>
  some μ25
theorem ok_X10_goesAlong_J237 {fr : Nat} (hfr : 90 ≤ fr) {ν : hm_N} {μR : hm_M}  (v1 : Int32) (v2 : Int32)    (s0 : Int32) (μ1 : hm_M) (hL : hm_LL ν μ1) (h : f_X10_goesAlong_J237 v1 v2 s0 μ1 = some μR) : hm_T (hm_LL ν) m_X10_goesAlong fr 0 0 none μR 237 [some (.ref 179), none, none, none, none] [.int s0, .ref 179] μ1 := by
  unfold f_X10_goesAlong_J237 at h
  obtain ⟨μ24, eμ24, h⟩ := hm_bs h
  refine tp_pZ (pc' := 240) fl_HandRingModel_490 (show decode cX10_goesAlong 237 = .ok (.putfield 490, 3) by decide +kernel) rfl (la_o hL (by decide) rfl) eμ24 ?_
  replace hL := hL.same (hm_pZ_s eμ24)
  refine tr_aload_n (pc' := 241) (show decode cX10_goesAlong 240 = .ok (.aload_n 0, 1) by decide +kernel) rfl rfl rfl ?_
  refine tr_dup (pc' := 242) (show decode cX10_goesAlong 241 = .ok (.dup, 1) by decide +kernel) rfl rfl ?_
  refine tr_getI (pc' := 245) fl_HandRingModel_274 (show decode cX10_goesAlong 242 = .ok (.getfield 274, 3) by decide +kernel) rfl (la_o hL (by decide) rfl) ?_
  refine tr_iconst (pc' := 246) (v := (1 : Int32)) (show decode cX10_goesAlong 245 = .ok (.iconst 1, 1) by decide +kernel) rfl (by decide) ?_
  refine tr_iadd (pc' := 247) (show decode cX10_goesAlong 246 = .ok (.iadd, 1) by decide +kernel) rfl ?_
  obtain ⟨μ25, eμ25, h⟩ := hm_bs h
  refine tp_pI (pc' := 250) fl_HandRingModel_274 (show decode cX10_goesAlong 247 = .ok (.putfield 274, 3) by decide +kernel) rfl (la_o hL (by decide) rfl) eμ25 ?_
  replace hL := hL.same (hm_pI_s eμ25)
  cases h
  exact tr_vret rfl (show decode cX10_goesAlong 250 = .ok (.return_, 1) by decide +kernel) hL
def f_X10_goesAlong_J236 (v1 : Int32) (v2 : Int32) (μ1 : hm_M) : Option hm_M :=
  f_X10_goesAlong_J237 v1 v2 (0 : Int32) μ1
theorem ok_X10_goesAlong_J236 {fr : Nat} (hfr : 90 ≤ fr) {ν : hm_N} {μR : hm_M}  (v1 : Int32) (v2 : Int32)     (μ1 : hm_M) (hL : hm_LL ν μ1) (h : f_X10_goesAlong_J236 v1 v2 μ1 = some μR) : hm_T (hm_LL ν) m_X10_goesAlong fr 0 0 none μR 236 [some (.ref 179), none, none, none, none] [.ref 179] μ1 := by
  unfold f_X10_goesAlong_J236 at h
  refine tr_iconst (pc' := 237) (v := (0 : Int32)) (show decode cX10_goesAlong 236 = .ok (.iconst 0, 1) by decide +kernel) rfl (by decide) ?_
  exact ok_X10_goesAlong_J237 hfr _ _ (0 : Int32) μ1 hL h
def f_X10_goesAlong_J214 (v1 : Int32) (v2 : Int32) (s0 : Int32) (μ1 : hm_M) : Option hm_M :=
  Option.bind (hm_pZ μ1 179 51 s0) fun μ23 =>
  (if (μ23.1 179 51) = 0 then
  f_X10_goesAlong_J236 v1 v2 μ23
  else
  (if (μ23.1 179 24) = 0 then
  f_X10_goesAlong_J237 v1 v2 (1 : Int32) μ23
  else
  f_X10_goesAlong_J236 v1 v2 μ23))
theorem ok_X10_goesAlong_J214 {fr : Nat} (hfr : 90 ≤ fr) {ν : hm_N} {μR : hm_M}  (v1 : Int32) (v2 : Int32)    (s0 : Int32) (μ1 : hm_M) (hL : hm_LL ν μ1) (h : f_X10_goesAlong_J214 v1 v2 s0 μ1 = some μR) : hm_T (hm_LL ν) m_X10_goesAlong fr 0 0 none μR 214 [some (.ref 179), none, none, none, none] [.int s0, .ref 179] μ1 := by
  unfold f_X10_goesAlong_J214 at h
  obtain ⟨μ23, eμ23, h⟩ := hm_bs h
  refine tp_pZ (pc' := 217) fl_HandRingModel_490 (show decode cX10_goesAlong 214 = .ok (.putfield 490, 3) by decide +kernel) rfl (la_o hL (by decide) rfl) eμ23 ?_
  replace hL := hL.same (hm_pZ_s eμ23)
  refine tr_aload_n (pc' := 218) (show decode cX10_goesAlong 217 = .ok (.aload_n 0, 1) by decide +kernel) rfl rfl rfl ?_
  refine tr_aload_n (pc' := 219) (show decode cX10_goesAlong 218 = .ok (.aload_n 0, 1) by decide +kernel) rfl rfl rfl ?_
  refine tr_getI (pc' := 222) fl_HandRingModel_490 (show decode cX10_goesAlong 219 = .ok (.getfield 490, 3) by decide +kernel) rfl (la_o hL (by decide) rfl) ?_
  rcases hm_is h with ⟨hc, h⟩ | ⟨hc, h⟩
  · refine tr_if_eq_t (tgt := 236) hc (show decode cX10_goesAlong 222 = .ok (.ifCond .eq 14, 3) by decide +kernel) (by decide) ?_
    exact ok_X10_goesAlong_J236 hfr _ _ μ23 hL h
  · refine tr_if_eq_f (tgt := 236) (pc' := 225) hc (show decode cX10_goesAlong 222 = .ok (.ifCond .eq 14, 3) by decide +kernel) (by decide) rfl ?_
    refine tr_aload_n (pc' := 226) (show decode cX10_goesAlong 225 = .ok (.aload_n 0, 1) by decide +kernel) rfl rfl rfl ?_
    refine tr_getI (pc' := 229) fl_HandRingModel_284 (show decode cX10_goesAlong 226 = .ok (.getfield 284, 3) by decide +kernel) rfl (la_o hL (by decide) rfl) ?_
    rcases hm_is h with ⟨hc, h⟩ | ⟨hc, h⟩
    · refine tr_if_ne_f (tgt := 236) (pc' := 232) hc (show decode cX10_goesAlong 229 = .ok (.ifCond .ne 7, 3) by decide +kernel) (by decide) rfl ?_
      refine tr_iconst (pc' := 233) (v := (1 : Int32)) (show decode cX10_goesAlong 232 = .ok (.iconst 1, 1) by decide +kernel) rfl (by decide) ?_
      refine tr_goto (tgt := 237) (show decode cX10_goesAlong 233 = .ok (.goto 4, 3) by decide +kernel) rfl ?_
      exact ok_X10_goesAlong_J237 hfr _ _ (1 : Int32) μ23 hL h
    · refine tr_if_ne_t (tgt := 236) hc (show decode cX10_goesAlong 229 = .ok (.ifCond .ne 7, 3) by decide +kernel) (by decide) ?_
      exact ok_X10_goesAlong_J236 hfr _ _ μ23 hL h
def f_X10_goesAlong_J209 (v1 : Int32) (v2 : Int32) (μ1 : hm_M) : Option hm_M :=
  f_X10_goesAlong_J214 v1 v2 (1 : Int32) μ1
theorem ok_X10_goesAlong_J209 {fr : Nat} (hfr : 90 ≤ fr) {ν : hm_N} {μR : hm_M}  (v1 : Int32) (v2 : Int32)     (μ1 : hm_M) (hL : hm_LL ν μ1) (h : f_X10_goesAlong_J209 v1 v2 μ1 = some μR) : hm_T (hm_LL ν) m_X10_goesAlong fr 0 0 none μR 209 [some (.ref 179), none, none, none, none] [.ref 179] μ1 := by
  unfold f_X10_goesAlong_J209 at h
  refine tr_iconst (pc' := 210) (v := (1 : Int32)) (show decode cX10_goesAlong 209 = .ok (.iconst 1, 1) by decide +kernel) rfl (by decide) ?_
  refine tr_goto (tgt := 214) (show decode cX10_goesAlong 210 = .ok (.goto 4, 3) by decide +kernel) rfl ?_
  exact ok_X10_goesAlong_J214 hfr _ _ (1 : Int32) μ1 hL h
def f_X10_goesAlong_J187 (v1 : Int32) (v2 : Int32) (μ1 : hm_M) : Option hm_M :=
  Option.bind (hm_pZ μ1 179 24 (0 : Int32)) fun μ20 =>
  hm_b2 (f_X10_passes0 (4 : Int32) μ20) fun x21 μ22 =>
  (if x21 = 0 then
  f_X10_goesAlong_J209 v1 v2 μ22
  else
  hm_b2 (F_X10_testOf v2 μ22) fun x26 μ27 =>
  (if x26 = 0 then
  f_X10_goesAlong_J214 v1 v2 (0 : Int32) μ27
  else
  f_X10_goesAlong_J209 v1 v2 μ27))
theorem ok_X10_goesAlong_J187 {fr : Nat} (hfr : 90 ≤ fr) {ν : hm_N} {μR : hm_M}  (v1 : Int32) (v2 : Int32)     (μ1 : hm_M) (hL : hm_LL ν μ1) (h : f_X10_goesAlong_J187 v1 v2 μ1 = some μR) : hm_T (hm_LL ν) m_X10_goesAlong fr 0 0 none μR 187 [some (.ref 179), none, some (.int v2), none, none] [] μ1 := by
  unfold f_X10_goesAlong_J187 at h
  refine tr_aload_n (pc' := 188) (show decode cX10_goesAlong 187 = .ok (.aload_n 0, 1) by decide +kernel) rfl rfl rfl ?_
  refine tr_iconst (pc' := 189) (v := (0 : Int32)) (show decode cX10_goesAlong 188 = .ok (.iconst 0, 1) by decide +kernel) rfl (by decide) ?_
  obtain ⟨μ20, eμ20, h⟩ := hm_bs h
  refine tp_pZ (pc' := 192) fl_HandRingModel_284 (show decode cX10_goesAlong 189 = .ok (.putfield 284, 3) by decide +kernel) rfl (la_o hL (by decide) rfl) eμ20 ?_
  replace hL := hL.same (hm_pZ_s eμ20)
  refine tr_aload_n (pc' := 193) (show decode cX10_goesAlong 192 = .ok (.aload_n 0, 1) by decide +kernel) rfl rfl rfl ?_
  refine tr_aload_n (pc' := 194) (show decode cX10_goesAlong 193 = .ok (.aload_n 0, 1) by decide +kernel) rfl rfl rfl ?_
  refine tr_iconst (pc' := 195) (v := (4 : Int32)) (show decode cX10_goesAlong 194 = .ok (.iconst 4, 1) by decide +kernel) rfl (by decide) ?_
  obtain ⟨x21, μ22, ex21, h⟩ := hm_b2s h
  have cx21 := ok_X10_passes0 (fr := fr - 1) (ν := ν) (by omega) (4 : Int32) μ20 hL ex21
  refine tp_callV (pc' := 198) (As := [.int (4 : Int32)]) (fr1 := fr - 1) (ci := 10) okm_X10_passes0 lk_HandRingModel_298 (show decode cX10_goesAlong 195 = .ok (.invokevirtual 298, 3) by decide +kernel) rfl rfl rfl (by decide) (la_o hL (by decide) rfl) rfl rfl (Nat.le_of_ble_eq_true rfl) (by omega) cx21 (st' := [.int x21, .ref 179]) rfl ?_
  replace hL := cx21.1
  rcases hm_is h with ⟨hc, h⟩ | ⟨hc, h⟩
  · refine tr_if_eq_t (tgt := 209) hc (show decode cX10_goesAlong 198 = .ok (.ifCond .eq 11, 3) by decide +kernel) (by decide) ?_
    refine hm_fgt [true, false, false, false, false] (lv' := [some (.ref 179), none, none, none, none]) rfl ?_
    exact ok_X10_goesAlong_J209 hfr _ _ μ22 hL h
  · refine tr_if_eq_f (tgt := 209) (pc' := 201) hc (show decode cX10_goesAlong 198 = .ok (.ifCond .eq 11, 3) by decide +kernel) (by decide) rfl ?_
    refine tr_aload_n (pc' := 202) (show decode cX10_goesAlong 201 = .ok (.aload_n 0, 1) by decide +kernel) rfl rfl rfl ?_
    refine tr_iload_n (pc' := 203) (show decode cX10_goesAlong 202 = .ok (.iload_n 2, 1) by decide +kernel) rfl rfl rfl ?_
    obtain ⟨x26, μ27, ex26, h⟩ := hm_b2s h
    have cx26 := OK_X10_testOf (fr := fr - 1) (ν := ν) (by omega) v2 μ22 hL ex26
    refine tp_callV (pc' := 206) (As := [.int v2]) (fr1 := fr - 1) (ci := 10) okm_X10_testOf lk_HandRingModel_334 (show decode cX10_goesAlong 203 = .ok (.invokevirtual 334, 3) by decide +kernel) rfl rfl rfl (by decide) (la_o hL (by decide) rfl) rfl rfl (Nat.le_of_ble_eq_true rfl) (by omega) cx26 (st' := [.int x26, .ref 179]) rfl ?_
    replace hL := cx26.1
    rcases hm_is h with ⟨hc, h⟩ | ⟨hc, h⟩
    · refine tr_if_eq_t (tgt := 213) hc (show decode cX10_goesAlong 206 = .ok (.ifCond .eq 7, 3) by decide +kernel) (by decide) ?_
      refine tr_iconst (pc' := 214) (v := (0 : Int32)) (show decode cX10_goesAlong 213 = .ok (.iconst 0, 1) by decide +kernel) rfl (by decide) ?_
      refine hm_fgt [true, false, false, false, false] (lv' := [some (.ref 179), none, none, none, none]) rfl ?_
      exact ok_X10_goesAlong_J214 hfr _ _ (0 : Int32) μ27 hL h
    · refine tr_if_eq_f (tgt := 213) (pc' := 209) hc (show decode cX10_goesAlong 206 = .ok (.ifCond .eq 7, 3) by decide +kernel) (by decide) rfl ?_
      refine hm_fgt [true, false, false, false, false] (lv' := [some (.ref 179), none, none, none, none]) rfl ?_
      exact ok_X10_goesAlong_J209 hfr _ _ μ27 hL h
def f_X10_goesAlong_J75 (v1 : Int32) (v2 : Int32) (s0 : Int32) (μ1 : hm_M) : Option hm_M :=
  f_X10_goesAlong_L79 v1 v2 s0 (fun μz16 => Option.bind (hm_pI μz16 179 48 (1 : Int32)) fun μ17 =>
  hm_b2 (f_X10_passes0 (29 : Int32) μ17) fun x18 μ19 =>
  (if x18 = 0 then
  f_X10_goesAlong_J187 v1 v2 μ19
  else
  Option.bind (hm_ld μ19 181 5665 ((2865 : Int32) + (μ19.1 179 22))) fun x28 =>
  Option.bind (hm_pI μ19 179 48 x28) fun μ29 =>
  Option.bind (hm_pI μ29 179 22 ((μ29.1 179 22) + (1 : Int32))) fun μ30 =>
  f_X10_goesAlong_J187 v1 v2 μ30)) hm_fu (0 : Int32) μ1
theorem ok_X10_goesAlong_J75 {fr : Nat} (hfr : 90 ≤ fr) {ν : hm_N} {μR : hm_M}  (v1 : Int32) (v2 : Int32)    (s0 : Int32) (μ1 : hm_M) (hL : hm_LL ν μ1) (h : f_X10_goesAlong_J75 v1 v2 s0 μ1 = some μR) : hm_T (hm_LL ν) m_X10_goesAlong fr 0 0 none μR 75 [some (.ref 179), none, some (.int v2), none, none] [.int s0] μ1 := by
  unfold f_X10_goesAlong_J75 at h
  refine tr_istore_n (pc' := 76) (lv' := [some (.ref 179), none, some (.int v2), some (.int s0), none]) (show decode cX10_goesAlong 75 = .ok (.istore_n 3, 1) by decide +kernel) rfl rfl (Nat.le_of_ble_eq_true rfl) rfl rfl ?_
  refine tr_iconst (pc' := 77) (v := (0 : Int32)) (show decode cX10_goesAlong 76 = .ok (.iconst 0, 1) by decide +kernel) rfl (by decide) ?_
  refine tr_istore (pc' := 79) (lv' := [some (.ref 179), none, some (.int v2), some (.int s0), some (.int (0 : Int32))]) (show decode cX10_goesAlong 77 = .ok (.istore 4, 2) by decide +kernel) rfl (Nat.le_of_ble_eq_true rfl) rfl rfl ?_
  refine ok_X10_goesAlong_L79 hfr _ _ s0 _ ?_ _ (0 : Int32) μ1 hL h
  · intro μz16 hL h
    refine tr_aload_n (pc' := 147) (show decode cX10_goesAlong 146 = .ok (.aload_n 0, 1) by decide +kernel) rfl rfl rfl ?_
    refine tr_iconst (pc' := 148) (v := (1 : Int32)) (show decode cX10_goesAlong 147 = .ok (.iconst 1, 1) by decide +kernel) rfl (by decide) ?_
    obtain ⟨μ17, eμ17, h⟩ := hm_bs h
    refine tp_pI (pc' := 151) fl_HandRingModel_487 (show decode cX10_goesAlong 148 = .ok (.putfield 487, 3) by decide +kernel) rfl (la_o hL (by decide) rfl) eμ17 ?_
    replace hL := hL.same (hm_pI_s eμ17)
    refine tr_aload_n (pc' := 152) (show decode cX10_goesAlong 151 = .ok (.aload_n 0, 1) by decide +kernel) rfl rfl rfl ?_
    refine tr_bipush (pc' := 154) (v := (29 : Int32)) (show decode cX10_goesAlong 152 = .ok (.bipush 29, 2) by decide +kernel) rfl (by decide) ?_
    obtain ⟨x18, μ19, ex18, h⟩ := hm_b2s h
    have cx18 := ok_X10_passes0 (fr := fr - 1) (ν := ν) (by omega) (29 : Int32) μ17 hL ex18
    refine tp_callV (pc' := 157) (As := [.int (29 : Int32)]) (fr1 := fr - 1) (ci := 10) okm_X10_passes0 lk_HandRingModel_298 (show decode cX10_goesAlong 154 = .ok (.invokevirtual 298, 3) by decide +kernel) rfl rfl rfl (by decide) (la_o hL (by decide) rfl) rfl rfl (Nat.le_of_ble_eq_true rfl) (by omega) cx18 (st' := [.int x18]) rfl ?_
    replace hL := cx18.1
    rcases hm_is h with ⟨hc, h⟩ | ⟨hc, h⟩
    · refine tr_if_eq_t (tgt := 187) hc (show decode cX10_goesAlong 157 = .ok (.ifCond .eq 30, 3) by decide +kernel) (by decide) ?_
      exact ok_X10_goesAlong_J187 hfr _ _ μ19 hL h
    · refine tr_if_eq_f (tgt := 187) (pc' := 160) hc (show decode cX10_goesAlong 157 = .ok (.ifCond .eq 30, 3) by decide +kernel) (by decide) rfl ?_
      refine tr_aload_n (pc' := 161) (show decode cX10_goesAlong 160 = .ok (.aload_n 0, 1) by decide +kernel) rfl rfl rfl ?_
      refine tr_aload_n (pc' := 162) (show decode cX10_goesAlong 161 = .ok (.aload_n 0, 1) by decide +kernel) rfl rfl rfl ?_
      refine tr_getR (pc' := 165) fl_HandRingModel_24 (show decode cX10_goesAlong 162 = .ok (.getfield 24, 3) by decide +kernel) rfl (la_o hL (by decide) rfl) (la_r hL 118 rfl) ?_
      refine tr_sipush (pc' := 168) (v := (2865 : Int32)) (show decode cX10_goesAlong 165 = .ok (.sipush 2865, 3) by decide +kernel) rfl (by decide) ?_
      refine tr_aload_n (pc' := 169) (show decode cX10_goesAlong 168 = .ok (.aload_n 0, 1) by decide +kernel) rfl rfl rfl ?_
      refine tr_getI (pc' := 172) fl_HandRingModel_274 (show decode cX10_goesAlong 169 = .ok (.getfield 274, 3) by decide +kernel) rfl (la_o hL (by decide) rfl) ?_
      refine tr_iadd (pc' := 173) (show decode cX10_goesAlong 172 = .ok (.iadd, 1) by decide +kernel) rfl ?_
      obtain ⟨x28, ex28, h⟩ := hm_bs h
      refine tp_ldI (pc' := 174) (show decode cX10_goesAlong 173 = .ok (.iaload, 1) by decide +kernel) rfl (la_a hL (by decide) rfl) ex28 ?_
      obtain ⟨μ29, eμ29, h⟩ := hm_bs h
      refine tp_pI (pc' := 177) fl_HandRingModel_487 (show decode cX10_goesAlong 174 = .ok (.putfield 487, 3) by decide +kernel) rfl (la_o hL (by decide) rfl) eμ29 ?_
      replace hL := hL.same (hm_pI_s eμ29)
      refine tr_aload_n (pc' := 178) (show decode cX10_goesAlong 177 = .ok (.aload_n 0, 1) by decide +kernel) rfl rfl rfl ?_
      refine tr_dup (pc' := 179) (show decode cX10_goesAlong 178 = .ok (.dup, 1) by decide +kernel) rfl rfl ?_
      refine tr_getI (pc' := 182) fl_HandRingModel_274 (show decode cX10_goesAlong 179 = .ok (.getfield 274, 3) by decide +kernel) rfl (la_o hL (by decide) rfl) ?_
      refine tr_iconst (pc' := 183) (v := (1 : Int32)) (show decode cX10_goesAlong 182 = .ok (.iconst 1, 1) by decide +kernel) rfl (by decide) ?_
      refine tr_iadd (pc' := 184) (show decode cX10_goesAlong 183 = .ok (.iadd, 1) by decide +kernel) rfl ?_
      obtain ⟨μ30, eμ30, h⟩ := hm_bs h
      refine tp_pI (pc' := 187) fl_HandRingModel_274 (show decode cX10_goesAlong 184 = .ok (.putfield 274, 3) by decide +kernel) rfl (la_o hL (by decide) rfl) eμ30 ?_
      replace hL := hL.same (hm_pI_s eμ30)
      exact ok_X10_goesAlong_J187 hfr _ _ μ30 hL h
def f_X10_goesAlong_J13 (v1 : Int32) (v2 : Int32) (s0 : Int32) (μ1 : hm_M) : Option hm_M :=
  Option.bind (hm_pI μ1 179 29 s0) fun μ2 =>
  Option.bind (hm_pZ μ2 179 25 (1 : Int32)) fun μ3 =>
  Option.bind (hm_pI μ3 179 23 v1) fun μ4 =>
  Option.bind (hm_pI μ4 179 22 (μ4.1 179 47)) fun μ5 =>
  Option.bind (f_X10_codeAt (μ5.1 179 22) μ5) fun x6 =>
  Option.bind (hm_pI μ5 179 49 x6) fun μ7 =>
  Option.bind (hm_pI μ7 179 22 ((μ7.1 179 22) + (1 : Int32))) fun μ8 =>
  Option.bind (hm_pZ μ8 179 50 (1 : Int32)) fun μ9 =>
  (if (μ9.1 179 49) = (28 : Int32) then
  f_X10_goesAlong_J75 v1 v2 (0 : Int32) μ9
  else
  f_X10_goesAlong_J75 v1 v2 (2 : Int32) μ9)
theorem ok_X10_goesAlong_J13 {fr : Nat} (hfr : 90 ≤ fr) {ν : hm_N} {μR : hm_M}  (v1 : Int32) (v2 : Int32)    (s0 : Int32) (μ1 : hm_M) (hL : hm_LL ν μ1) (h : f_X10_goesAlong_J13 v1 v2 s0 μ1 = some μR) : hm_T (hm_LL ν) m_X10_goesAlong fr 0 0 none μR 13 [some (.ref 179), some (.int v1), some (.int v2), none, none] [.int s0, .ref 179] μ1 := by
  unfold f_X10_goesAlong_J13 at h
  obtain ⟨μ2, eμ2, h⟩ := hm_bs h
  refine tp_pI (pc' := 16) fl_HandRingModel_322 (show decode cX10_goesAlong 13 = .ok (.putfield 322, 3) by decide +kernel) rfl (la_o hL (by decide) rfl) eμ2 ?_
  replace hL := hL.same (hm_pI_s eμ2)
  refine tr_aload_n (pc' := 17) (show decode cX10_goesAlong 16 = .ok (.aload_n 0, 1) by decide +kernel) rfl rfl rfl ?_
  refine tr_iconst (pc' := 18) (v := (1 : Int32)) (show decode cX10_goesAlong 17 = .ok (.iconst 1, 1) by decide +kernel) rfl (by decide) ?_
  obtain ⟨μ3, eμ3, h⟩ := hm_bs h
  refine tp_pZ (pc' := 21) fl_HandRingModel_304 (show decode cX10_goesAlong 18 = .ok (.putfield 304, 3) by decide +kernel) rfl (la_o hL (by decide) rfl) eμ3 ?_
  replace hL := hL.same (hm_pZ_s eμ3)
  refine tr_aload_n (pc' := 22) (show decode cX10_goesAlong 21 = .ok (.aload_n 0, 1) by decide +kernel) rfl rfl rfl ?_
  refine tr_iload_n (pc' := 23) (show decode cX10_goesAlong 22 = .ok (.iload_n 1, 1) by decide +kernel) rfl rfl rfl ?_
  obtain ⟨μ4, eμ4, h⟩ := hm_bs h
  refine tp_pI (pc' := 26) fl_HandRingModel_271 (show decode cX10_goesAlong 23 = .ok (.putfield 271, 3) by decide +kernel) rfl (la_o hL (by decide) rfl) eμ4 ?_
  replace hL := hL.same (hm_pI_s eμ4)
  refine tr_aload_n (pc' := 27) (show decode cX10_goesAlong 26 = .ok (.aload_n 0, 1) by decide +kernel) rfl rfl rfl ?_
  refine tr_aload_n (pc' := 28) (show decode cX10_goesAlong 27 = .ok (.aload_n 0, 1) by decide +kernel) rfl rfl rfl ?_
  refine tr_getI (pc' := 31) fl_HandRingModel_472 (show decode cX10_goesAlong 28 = .ok (.getfield 472, 3) by decide +kernel) rfl (la_o hL (by decide) rfl) ?_
  obtain ⟨μ5, eμ5, h⟩ := hm_bs h
  refine tp_pI (pc' := 34) fl_HandRingModel_274 (show decode cX10_goesAlong 31 = .ok (.putfield 274, 3) by decide +kernel) rfl (la_o hL (by decide) rfl) eμ5 ?_
  replace hL := hL.same (hm_pI_s eμ5)
  refine tr_aload_n (pc' := 35) (show decode cX10_goesAlong 34 = .ok (.aload_n 0, 1) by decide +kernel) rfl rfl rfl ?_
  refine tr_aload_n (pc' := 36) (show decode cX10_goesAlong 35 = .ok (.aload_n 0, 1) by decide +kernel) rfl rfl rfl ?_
  refine tr_aload_n (pc' := 37) (show decode cX10_goesAlong 36 = .ok (.aload_n 0, 1) by decide +kernel) rfl rfl rfl ?_
  refine tr_getI (pc' := 40) fl_HandRingModel_274 (show decode cX10_goesAlong 37 = .ok (.getfield 274, 3) by decide +kernel) rfl (la_o hL (by decide) rfl) ?_
  obtain ⟨x6, ex6, h⟩ := hm_bs h
  have cx6 := ok_X10_codeAt (fr := fr - 1) (ν := ν) (by omega) (μ5.1 179 22) μ5 hL ex6
  refine tp_callV (pc' := 43) (As := [.int (μ5.1 179 22)]) (fr1 := fr - 1) (ci := 10) okm_X10_codeAt lk_HandRingModel_277 (show decode cX10_goesAlong 40 = .ok (.invokevirtual 277, 3) by decide +kernel) rfl rfl rfl (by decide) (la_o hL (by decide) rfl) rfl rfl (Nat.le_of_ble_eq_true rfl) (by omega) cx6 (st' := [.int x6, .ref 179]) rfl ?_
  obtain ⟨μ7, eμ7, h⟩ := hm_bs h
  refine tp_pI (pc' := 46) fl_HandRingModel_481 (show decode cX10_goesAlong 43 = .ok (.putfield 481, 3) by decide +kernel) rfl (la_o hL (by decide) rfl) eμ7 ?_
  replace hL := hL.same (hm_pI_s eμ7)
  refine tr_aload_n (pc' := 47) (show decode cX10_goesAlong 46 = .ok (.aload_n 0, 1) by decide +kernel) rfl rfl rfl ?_
  refine tr_dup (pc' := 48) (show decode cX10_goesAlong 47 = .ok (.dup, 1) by decide +kernel) rfl rfl ?_
  refine tr_getI (pc' := 51) fl_HandRingModel_274 (show decode cX10_goesAlong 48 = .ok (.getfield 274, 3) by decide +kernel) rfl (la_o hL (by decide) rfl) ?_
  refine tr_iconst (pc' := 52) (v := (1 : Int32)) (show decode cX10_goesAlong 51 = .ok (.iconst 1, 1) by decide +kernel) rfl (by decide) ?_
  refine tr_iadd (pc' := 53) (show decode cX10_goesAlong 52 = .ok (.iadd, 1) by decide +kernel) rfl ?_
  obtain ⟨μ8, eμ8, h⟩ := hm_bs h
  refine tp_pI (pc' := 56) fl_HandRingModel_274 (show decode cX10_goesAlong 53 = .ok (.putfield 274, 3) by decide +kernel) rfl (la_o hL (by decide) rfl) eμ8 ?_
  replace hL := hL.same (hm_pI_s eμ8)
  refine tr_aload_n (pc' := 57) (show decode cX10_goesAlong 56 = .ok (.aload_n 0, 1) by decide +kernel) rfl rfl rfl ?_
  refine tr_iconst (pc' := 58) (v := (1 : Int32)) (show decode cX10_goesAlong 57 = .ok (.iconst 1, 1) by decide +kernel) rfl (by decide) ?_
  obtain ⟨μ9, eμ9, h⟩ := hm_bs h
  refine tp_pZ (pc' := 61) fl_HandRingModel_484 (show decode cX10_goesAlong 58 = .ok (.putfield 484, 3) by decide +kernel) rfl (la_o hL (by decide) rfl) eμ9 ?_
  replace hL := hL.same (hm_pZ_s eμ9)
  refine tr_aload_n (pc' := 62) (show decode cX10_goesAlong 61 = .ok (.aload_n 0, 1) by decide +kernel) rfl rfl rfl ?_
  refine tr_getI (pc' := 65) fl_HandRingModel_481 (show decode cX10_goesAlong 62 = .ok (.getfield 481, 3) by decide +kernel) rfl (la_o hL (by decide) rfl) ?_
  refine tr_bipush (pc' := 67) (v := (28 : Int32)) (show decode cX10_goesAlong 65 = .ok (.bipush 28, 2) by decide +kernel) rfl (by decide) ?_
  rcases hm_is h with ⟨hc, h⟩ | ⟨hc, h⟩
  · refine tr_icmp_ne_f (tgt := 74) (pc' := 70) hc (show decode cX10_goesAlong 67 = .ok (.if_icmp .ne 7, 3) by decide +kernel) (by decide) rfl ?_
    refine tr_iconst (pc' := 71) (v := (0 : Int32)) (show decode cX10_goesAlong 70 = .ok (.iconst 0, 1) by decide +kernel) rfl (by decide) ?_
    refine tr_goto (tgt := 75) (show decode cX10_goesAlong 71 = .ok (.goto 4, 3) by decide +kernel) rfl ?_
    refine hm_fgt [true, false, true, false, false] (lv' := [some (.ref 179), none, some (.int v2), none, none]) rfl ?_
    exact ok_X10_goesAlong_J75 hfr _ _ (0 : Int32) μ9 hL h
  · refine tr_icmp_ne_t (tgt := 74) hc (show decode cX10_goesAlong 67 = .ok (.if_icmp .ne 7, 3) by decide +kernel) (by decide) ?_
    refine tr_iconst (pc' := 75) (v := (2 : Int32)) (show decode cX10_goesAlong 74 = .ok (.iconst 2, 1) by decide +kernel) rfl (by decide) ?_
    refine hm_fgt [true, false, true, false, false] (lv' := [some (.ref 179), none, some (.int v2), none, none]) rfl ?_
    exact ok_X10_goesAlong_J75 hfr _ _ (2 : Int32) μ9 hL h
def f_X10_goesAlong (v1 : Int32) (v2 : Int32) (μ : hm_M) : Option hm_M :=
  (if v2 = 0 then
  f_X10_goesAlong_J13 v1 v2 (0 : Int32) μ
  else
  hm_b2 (f_X10_lostInAll μ) fun x31 μ32 =>
  f_X10_goesAlong_J13 v1 v2 x31 μ32)
set_option maxRecDepth 100000 in
theorem ok_X10_goesAlong {fr : Nat} (hfr : 90 ≤ fr) {ν : hm_N} {μR : hm_M}  (v1 : Int32) (v2 : Int32)  (μ : hm_M) (hL : hm_LL ν μ) (h : f_X10_goesAlong v1 v2 μ = some μR) : hm_CC (hm_LL ν) m_X10_goesAlong fr 0 0 [.ref 179, .int v1, .int v2] μ none μR := by
  refine hm_enter (lv := [some (.ref 179), some (.int v1), some (.int v2), none, none]) (by decide) rfl (Nat.le_of_ble_eq_true rfl) ?_
  unfold f_X10_goesAlong at h
  refine tr_aload_n (pc' := 1) (show decode cX10_goesAlong 0 = .ok (.aload_n 0, 1) by decide +kernel) rfl rfl rfl ?_
  refine tr_iload_n (pc' := 2) (show decode cX10_goesAlong 1 = .ok (.iload_n 2, 1) by decide +kernel) rfl rfl rfl ?_
  rcases hm_is h with ⟨hc, h⟩ | ⟨hc, h⟩
  · refine tr_if_eq_t (tgt := 12) hc (show decode cX10_goesAlong 2 = .ok (.ifCond .eq 10, 3) by decide +kernel) (by decide) ?_
    refine tr_iconst (pc' := 13) (v := (0 : Int32)) (show decode cX10_goesAlong 12 = .ok (.iconst 0, 1) by decide +kernel) rfl (by decide) ?_
    exact ok_X10_goesAlong_J13 hfr _ _ (0 : Int32) μ hL h
  · refine tr_if_eq_f (tgt := 12) (pc' := 5) hc (show decode cX10_goesAlong 2 = .ok (.ifCond .eq 10, 3) by decide +kernel) (by decide) rfl ?_
    refine tr_aload_n (pc' := 6) (show decode cX10_goesAlong 5 = .ok (.aload_n 0, 1) by decide +kernel) rfl rfl rfl ?_
    obtain ⟨x31, μ32, ex31, h⟩ := hm_b2s h
    have cx31 := ok_X10_lostInAll (fr := fr - 1) (ν := ν) (by omega) μ hL ex31
    refine tp_callV (pc' := 9) (As := []) (fr1 := fr - 1) (ci := 10) okm_X10_lostInAll lk_HandRingModel_395 (show decode cX10_goesAlong 6 = .ok (.invokevirtual 395, 3) by decide +kernel) rfl rfl rfl (by decide) (la_o hL (by decide) rfl) rfl rfl (Nat.le_of_ble_eq_true rfl) (by omega) cx31 (st' := [.int x31, .ref 179]) rfl ?_
    replace hL := cx31.1
    refine tr_goto (tgt := 13) (show decode cX10_goesAlong 9 = .ok (.goto 4, 3) by decide +kernel) rfl ?_
    exact ok_X10_goesAlong_J13 hfr _ _ x31 μ32 hL h
def f_X10_small (v0 : Int64) : Option Int32 :=
  (if (lg_cmp v0 (0 : Int64)) < 0 then
  some (-1 : Int32)
  else
  (if (lg_cmp v0 (1000000 : Int64)) ≤ 0 then
  some v0.toInt32
  else
  some (-1 : Int32)))
set_option maxRecDepth 100000 in
theorem ok_X10_small {fr : Nat} (hfr : 0 ≤ fr) {ν : hm_N} {r : Int32}  (v0 : Int64)  (μ : hm_M) (hL : hm_LL ν μ) (h : f_X10_small v0 = some r) : hm_CC (hm_LL ν) m_X10_small fr 0 0 [.long v0] μ (some (.int r)) μ := by
  refine hm_enter (lv := [some (.long v0), none]) (by decide) rfl (Nat.le_of_ble_eq_true rfl) ?_
  unfold f_X10_small at h
  refine tr_lload_n (pc' := 1) (show decode cX10_small 0 = .ok (.lload_n 0, 1) by decide +kernel) rfl rfl rfl ?_
  refine tr_lconst (pc' := 2) (v := (0 : Int64)) (show decode cX10_small 1 = .ok (.lconst 0, 1) by decide +kernel) rfl (by decide) ?_
  refine tr_lcmp (pc' := 3) (show decode cX10_small 2 = .ok (.lcmp, 1) by decide +kernel) rfl ?_
  rcases hm_is h with ⟨hc, h⟩ | ⟨hc, h⟩
  · refine tr_if_lt_t (tgt := 14) hc (show decode cX10_small 3 = .ok (.ifCond .lt 11, 3) by decide +kernel) (by decide) ?_
    refine tr_iconst (pc' := 15) (v := (-1 : Int32)) (show decode cX10_small 14 = .ok (.iconst (-1), 1) by decide +kernel) rfl (by decide) ?_
    refine tr_goto (tgt := 20) (show decode cX10_small 15 = .ok (.goto 5, 3) by decide +kernel) rfl ?_
    cases h
    exact tr_iret rfl (show decode cX10_small 20 = .ok (.ireturn, 1) by decide +kernel) hL
  · refine tr_if_lt_f (tgt := 14) (pc' := 6) hc (show decode cX10_small 3 = .ok (.ifCond .lt 11, 3) by decide +kernel) (by decide) rfl ?_
    refine tr_lload_n (pc' := 7) (show decode cX10_small 6 = .ok (.lload_n 0, 1) by decide +kernel) rfl rfl rfl ?_
    refine tr_ldc2 (pc' := 10) (v := (1000000 : Int64)) (show decode cX10_small 7 = .ok (.ldc2_w 493, 3) by decide +kernel) rfl kd_HandRingModel_493 ?_
    refine tr_lcmp (pc' := 11) (show decode cX10_small 10 = .ok (.lcmp, 1) by decide +kernel) rfl ?_
    rcases hm_is h with ⟨hc, h⟩ | ⟨hc, h⟩
    · refine tr_if_le_t (tgt := 18) hc (show decode cX10_small 11 = .ok (.ifCond .le 7, 3) by decide +kernel) (by decide) ?_
      refine tr_lload_n (pc' := 19) (show decode cX10_small 18 = .ok (.lload_n 0, 1) by decide +kernel) rfl rfl rfl ?_
      refine tr_l2i (pc' := 20) (show decode cX10_small 19 = .ok (.l2i, 1) by decide +kernel) rfl ?_
      cases h
      exact tr_iret rfl (show decode cX10_small 20 = .ok (.ireturn, 1) by decide +kernel) hL
    · refine tr_if_le_f (tgt := 18) (pc' := 14) hc (show decode cX10_small 11 = .ok (.ifCond .le 7, 3) by decide +kernel) (by decide) rfl ?_
      refine tr_iconst (pc' := 15) (v := (-1 : Int32)) (show decode cX10_small 14 = .ok (.iconst (-1), 1) by decide +kernel) rfl (by decide) ?_
      refine tr_goto (tgt := 20) (show decode cX10_small 15 = .ok (.goto 5, 3) by decide +kernel) rfl ?_
      cases h
      exact tr_iret rfl (show decode cX10_small 20 = .ok (.ireturn, 1) by decide +kernel) hL
def f_X10_obeys (μ : hm_M) : Option (Int32 × hm_M) :=
  Option.bind (hm_ldJ μ 203 2 (0 : Int32)) fun x2 =>
  Option.bind (f_X10_small x2) fun x3 =>
  Option.bind (hm_ldJ μ 203 2 (1 : Int32)) fun x4 =>
  Option.bind (f_X10_small x4) fun x5 =>
  (if (μ.1 179 49) < (24 : Int32) ∨ (28 : Int32) < (μ.1 179 49) then
  hm_b2 (f_X10_takesKept x3 x5 μ) fun x6 μ7 =>
  (if 0 ≤ x6 then
  Option.bind (hm_pI μ7 179 28 x6) fun μ8 =>
  some (x6, μ8)
  else
  Option.bind (hm_pI μ7 179 28 (μ7.1 179 28)) fun μ9 =>
  some (x6, μ9))
  else
  (if (μ.1 179 49) = (24 : Int32) then
  hm_b2 (f_X10_loosesKept x3 x5 μ) fun x22 μ23 =>
  some (x22, μ23)
  else
  (if (μ.1 179 49) = (25 : Int32) then
  hm_b2 (f_X10_takesKept x3 x5 μ) fun x18 μ19 =>
  (if 0 ≤ x18 then
  Option.bind (hm_pI μ19 179 28 x18) fun μ20 =>
  some (x18, μ20)
  else
  Option.bind (hm_pI μ19 179 28 (μ19.1 179 28)) fun μ21 =>
  some (x18, μ21))
  else
  (if (μ.1 179 49) = (26 : Int32) then
  hm_b2 (f_X10_walksKept x3 x5 μ) fun x16 μ17 =>
  some (x16, μ17)
  else
  (if (μ.1 179 49) = (27 : Int32) then
  hm_b2 (f_X10_takesKept x3 x5 μ) fun x12 μ13 =>
  (if 0 ≤ x12 then
  Option.bind (hm_pI μ13 179 28 x12) fun μ14 =>
  some (x12, μ14)
  else
  Option.bind (hm_pI μ13 179 28 (μ13.1 179 28)) fun μ15 =>
  some (x12, μ15))
  else
  (if (μ.1 179 49) = (28 : Int32) then
  hm_b2 (f_X10_passesKept μ) fun x10 μ11 =>
  some (x10, μ11)
  else
  none))))))
set_option maxRecDepth 100000 in
theorem ok_X10_obeys {fr : Nat} (hfr : 93 ≤ fr) {ν : hm_N} {r : Int32} {μR : hm_M}    (μ : hm_M) (hL : hm_LL ν μ) (h : f_X10_obeys μ = some (r, μR)) : hm_CC (hm_LL ν) m_X10_obeys fr 0 0 [.ref 179] μ (some (.int r)) μR := by
  refine hm_enter (lv := [some (.ref 179), none, none, none]) (by decide) rfl (Nat.le_of_ble_eq_true rfl) ?_
  unfold f_X10_obeys at h
  refine tr_aload_n (pc' := 1) (show decode cX10_obeys 0 = .ok (.aload_n 0, 1) by decide +kernel) rfl rfl rfl ?_
  refine tr_getR (pc' := 4) fl_HandRingModel_99 (show decode cX10_obeys 1 = .ok (.getfield 99, 3) by decide +kernel) rfl (la_o hL (by decide) rfl) (la_r hL 140 rfl) ?_
  refine tr_iconst (pc' := 5) (v := (0 : Int32)) (show decode cX10_obeys 4 = .ok (.iconst 0, 1) by decide +kernel) rfl (by decide) ?_
  obtain ⟨x2, ex2, h⟩ := hm_bs h
  refine tp_ldJ (pc' := 6) (show decode cX10_obeys 5 = .ok (.laload, 1) by decide +kernel) rfl (la_a hL (by decide) rfl) ex2 ?_
  obtain ⟨x3, ex3, h⟩ := hm_bs h
  have cx3 := ok_X10_small (fr := fr - 1) (ν := ν) (by omega) x2 μ hL ex3
  refine tp_callS (pc' := 9) (As := [.long x2]) (fr1 := fr - 1) okm_X10_small lk_HandRingModel_495 (show decode cX10_obeys 6 = .ok (.invokestatic 495, 3) by decide +kernel) rfl rfl rfl (Nat.le_of_ble_eq_true rfl) (by omega) cx3 (st' := [.int x3]) rfl ?_
  refine tr_istore_n (pc' := 10) (lv' := [some (.ref 179), some (.int x3), none, none]) (show decode cX10_obeys 9 = .ok (.istore_n 1, 1) by decide +kernel) rfl rfl (Nat.le_of_ble_eq_true rfl) rfl rfl ?_
  refine tr_aload_n (pc' := 11) (show decode cX10_obeys 10 = .ok (.aload_n 0, 1) by decide +kernel) rfl rfl rfl ?_
  refine tr_getR (pc' := 14) fl_HandRingModel_99 (show decode cX10_obeys 11 = .ok (.getfield 99, 3) by decide +kernel) rfl (la_o hL (by decide) rfl) (la_r hL 140 rfl) ?_
  refine tr_iconst (pc' := 15) (v := (1 : Int32)) (show decode cX10_obeys 14 = .ok (.iconst 1, 1) by decide +kernel) rfl (by decide) ?_
  obtain ⟨x4, ex4, h⟩ := hm_bs h
  refine tp_ldJ (pc' := 16) (show decode cX10_obeys 15 = .ok (.laload, 1) by decide +kernel) rfl (la_a hL (by decide) rfl) ex4 ?_
  obtain ⟨x5, ex5, h⟩ := hm_bs h
  have cx5 := ok_X10_small (fr := fr - 1) (ν := ν) (by omega) x4 μ hL ex5
  refine tp_callS (pc' := 19) (As := [.long x4]) (fr1 := fr - 1) okm_X10_small lk_HandRingModel_495 (show decode cX10_obeys 16 = .ok (.invokestatic 495, 3) by decide +kernel) rfl rfl rfl (Nat.le_of_ble_eq_true rfl) (by omega) cx5 (st' := [.int x5]) rfl ?_
  refine tr_istore_n (pc' := 20) (lv' := [some (.ref 179), some (.int x3), some (.int x5), none]) (show decode cX10_obeys 19 = .ok (.istore_n 2, 1) by decide +kernel) rfl rfl (Nat.le_of_ble_eq_true rfl) rfl rfl ?_
  refine tr_aload_n (pc' := 21) (show decode cX10_obeys 20 = .ok (.aload_n 0, 1) by decide +kernel) rfl rfl rfl ?_
  refine tr_getI (pc' := 24) fl_HandRingModel_481 (show decode cX10_obeys 21 = .ok (.getfield 481, 3) by decide +kernel) rfl (la_o hL (by decide) rfl) ?_
  rcases hm_is h with ⟨hc, h⟩ | ⟨-, h⟩
  · refine tp_tout (tgt := 79) hc (by decide) (by decide) (show decode cX10_obeys 24 = .ok (.tableswitch 55 24 28 #[36, 55, 43, 55, 50], 36) by decide +kernel) (by decide) ?_
    refine tr_aload_n (pc' := 80) (show decode cX10_obeys 79 = .ok (.aload_n 0, 1) by decide +kernel) rfl rfl rfl ?_
    refine tr_iload_n (pc' := 81) (show decode cX10_obeys 80 = .ok (.iload_n 1, 1) by decide +kernel) rfl rfl rfl ?_
    refine tr_iload_n (pc' := 82) (show decode cX10_obeys 81 = .ok (.iload_n 2, 1) by decide +kernel) rfl rfl rfl ?_
    obtain ⟨x6, μ7, ex6, h⟩ := hm_b2s h
    have cx6 := ok_X10_takesKept (fr := fr - 1) (ν := ν) (by omega) x3 x5 μ hL ex6
    refine tp_callV (pc' := 85) (As := [.int x3, .int x5]) (fr1 := fr - 1) (ci := 10) okm_X10_takesKept lk_HandRingModel_377 (show decode cX10_obeys 82 = .ok (.invokevirtual 377, 3) by decide +kernel) rfl rfl rfl (by decide) (la_o hL (by decide) rfl) rfl rfl (Nat.le_of_ble_eq_true rfl) (by omega) cx6 (st' := [.int x6]) rfl ?_
    replace hL := cx6.1
    refine tr_istore_n (pc' := 86) (lv' := [some (.ref 179), some (.int x3), some (.int x5), some (.int x6)]) (show decode cX10_obeys 85 = .ok (.istore_n 3, 1) by decide +kernel) rfl rfl (Nat.le_of_ble_eq_true rfl) rfl rfl ?_
    refine tr_aload_n (pc' := 87) (show decode cX10_obeys 86 = .ok (.aload_n 0, 1) by decide +kernel) rfl rfl rfl ?_
    refine tr_iload_n (pc' := 88) (show decode cX10_obeys 87 = .ok (.iload_n 3, 1) by decide +kernel) rfl rfl rfl ?_
    rcases hm_is h with ⟨hc, h⟩ | ⟨hc, h⟩
    · refine tr_if_ge_t (tgt := 98) hc (show decode cX10_obeys 88 = .ok (.ifCond .ge 10, 3) by decide +kernel) (by decide) ?_
      refine tr_iload_n (pc' := 99) (show decode cX10_obeys 98 = .ok (.iload_n 3, 1) by decide +kernel) rfl rfl rfl ?_
      obtain ⟨μ8, eμ8, h⟩ := hm_bs h
      refine tp_pI (pc' := 102) fl_HandRingModel_316 (show decode cX10_obeys 99 = .ok (.putfield 316, 3) by decide +kernel) rfl (la_o hL (by decide) rfl) eμ8 ?_
      replace hL := hL.same (hm_pI_s eμ8)
      refine tr_iload_n (pc' := 103) (show decode cX10_obeys 102 = .ok (.iload_n 3, 1) by decide +kernel) rfl rfl rfl ?_
      cases h
      exact tr_iret rfl (show decode cX10_obeys 103 = .ok (.ireturn, 1) by decide +kernel) hL
    · refine tr_if_ge_f (tgt := 98) (pc' := 91) hc (show decode cX10_obeys 88 = .ok (.ifCond .ge 10, 3) by decide +kernel) (by decide) rfl ?_
      refine tr_aload_n (pc' := 92) (show decode cX10_obeys 91 = .ok (.aload_n 0, 1) by decide +kernel) rfl rfl rfl ?_
      refine tr_getI (pc' := 95) fl_HandRingModel_316 (show decode cX10_obeys 92 = .ok (.getfield 316, 3) by decide +kernel) rfl (la_o hL (by decide) rfl) ?_
      refine tr_goto (tgt := 99) (show decode cX10_obeys 95 = .ok (.goto 4, 3) by decide +kernel) rfl ?_
      obtain ⟨μ9, eμ9, h⟩ := hm_bs h
      refine tp_pI (pc' := 102) fl_HandRingModel_316 (show decode cX10_obeys 99 = .ok (.putfield 316, 3) by decide +kernel) rfl (la_o hL (by decide) rfl) eμ9 ?_
      replace hL := hL.same (hm_pI_s eμ9)
      refine tr_iload_n (pc' := 103) (show decode cX10_obeys 102 = .ok (.iload_n 3, 1) by decide +kernel) rfl rfl rfl ?_
      cases h
      exact tr_iret rfl (show decode cX10_obeys 103 = .ok (.ireturn, 1) by decide +kernel) hL
  · rcases hm_is h with ⟨hc, h⟩ | ⟨-, h⟩
    · refine tp_tin (tgt := 60) (off := 36) hc (show decode cX10_obeys 24 = .ok (.tableswitch 55 24 28 #[36, 55, 43, 55, 50], 36) by decide +kernel) (by decide) (by decide) (by decide) (by decide) ?_
      refine tr_aload_n (pc' := 61) (show decode cX10_obeys 60 = .ok (.aload_n 0, 1) by decide +kernel) rfl rfl rfl ?_
      refine tr_iload_n (pc' := 62) (show decode cX10_obeys 61 = .ok (.iload_n 1, 1) by decide +kernel) rfl rfl rfl ?_
      refine tr_iload_n (pc' := 63) (show decode cX10_obeys 62 = .ok (.iload_n 2, 1) by decide +kernel) rfl rfl rfl ?_
      obtain ⟨x22, μ23, ex22, h⟩ := hm_b2s h
      have cx22 := ok_X10_loosesKept (fr := fr - 1) (ν := ν) (by omega) x3 x5 μ hL ex22
      refine tp_callV (pc' := 66) (As := [.int x3, .int x5]) (fr1 := fr - 1) (ci := 10) okm_X10_loosesKept lk_HandRingModel_383 (show decode cX10_obeys 63 = .ok (.invokevirtual 383, 3) by decide +kernel) rfl rfl rfl (by decide) (la_o hL (by decide) rfl) rfl rfl (Nat.le_of_ble_eq_true rfl) (by omega) cx22 (st' := [.int x22]) rfl ?_
      replace hL := cx22.1
      cases h
      exact tr_iret rfl (show decode cX10_obeys 66 = .ok (.ireturn, 1) by decide +kernel) hL
    · rcases hm_is h with ⟨hc, h⟩ | ⟨-, h⟩
      · refine tp_tin (tgt := 79) (off := 55) hc (show decode cX10_obeys 24 = .ok (.tableswitch 55 24 28 #[36, 55, 43, 55, 50], 36) by decide +kernel) (by decide) (by decide) (by decide) (by decide) ?_
        refine tr_aload_n (pc' := 80) (show decode cX10_obeys 79 = .ok (.aload_n 0, 1) by decide +kernel) rfl rfl rfl ?_
        refine tr_iload_n (pc' := 81) (show decode cX10_obeys 80 = .ok (.iload_n 1, 1) by decide +kernel) rfl rfl rfl ?_
        refine tr_iload_n (pc' := 82) (show decode cX10_obeys 81 = .ok (.iload_n 2, 1) by decide +kernel) rfl rfl rfl ?_
        obtain ⟨x18, μ19, ex18, h⟩ := hm_b2s h
        have cx18 := ok_X10_takesKept (fr := fr - 1) (ν := ν) (by omega) x3 x5 μ hL ex18
        refine tp_callV (pc' := 85) (As := [.int x3, .int x5]) (fr1 := fr - 1) (ci := 10) okm_X10_takesKept lk_HandRingModel_377 (show decode cX10_obeys 82 = .ok (.invokevirtual 377, 3) by decide +kernel) rfl rfl rfl (by decide) (la_o hL (by decide) rfl) rfl rfl (Nat.le_of_ble_eq_true rfl) (by omega) cx18 (st' := [.int x18]) rfl ?_
        replace hL := cx18.1
        refine tr_istore_n (pc' := 86) (lv' := [some (.ref 179), some (.int x3), some (.int x5), some (.int x18)]) (show decode cX10_obeys 85 = .ok (.istore_n 3, 1) by decide +kernel) rfl rfl (Nat.le_of_ble_eq_true rfl) rfl rfl ?_
        refine tr_aload_n (pc' := 87) (show decode cX10_obeys 86 = .ok (.aload_n 0, 1) by decide +kernel) rfl rfl rfl ?_
        refine tr_iload_n (pc' := 88) (show decode cX10_obeys 87 = .ok (.iload_n 3, 1) by decide +kernel) rfl rfl rfl ?_
        rcases hm_is h with ⟨hc, h⟩ | ⟨hc, h⟩
        · refine tr_if_ge_t (tgt := 98) hc (show decode cX10_obeys 88 = .ok (.ifCond .ge 10, 3) by decide +kernel) (by decide) ?_
          refine tr_iload_n (pc' := 99) (show decode cX10_obeys 98 = .ok (.iload_n 3, 1) by decide +kernel) rfl rfl rfl ?_
          obtain ⟨μ20, eμ20, h⟩ := hm_bs h
          refine tp_pI (pc' := 102) fl_HandRingModel_316 (show decode cX10_obeys 99 = .ok (.putfield 316, 3) by decide +kernel) rfl (la_o hL (by decide) rfl) eμ20 ?_
          replace hL := hL.same (hm_pI_s eμ20)
          refine tr_iload_n (pc' := 103) (show decode cX10_obeys 102 = .ok (.iload_n 3, 1) by decide +kernel) rfl rfl rfl ?_
          cases h
          exact tr_iret rfl (show decode cX10_obeys 103 = .ok (.ireturn, 1) by decide +kernel) hL
        · refine tr_if_ge_f (tgt := 98) (pc' := 91) hc (show decode cX10_obeys 88 = .ok (.ifCond .ge 10, 3) by decide +kernel) (by decide) rfl ?_
          refine tr_aload_n (pc' := 92) (show decode cX10_obeys 91 = .ok (.aload_n 0, 1) by decide +kernel) rfl rfl rfl ?_
          refine tr_getI (pc' := 95) fl_HandRingModel_316 (show decode cX10_obeys 92 = .ok (.getfield 316, 3) by decide +kernel) rfl (la_o hL (by decide) rfl) ?_
          refine tr_goto (tgt := 99) (show decode cX10_obeys 95 = .ok (.goto 4, 3) by decide +kernel) rfl ?_
          obtain ⟨μ21, eμ21, h⟩ := hm_bs h
          refine tp_pI (pc' := 102) fl_HandRingModel_316 (show decode cX10_obeys 99 = .ok (.putfield 316, 3) by decide +kernel) rfl (la_o hL (by decide) rfl) eμ21 ?_
          replace hL := hL.same (hm_pI_s eμ21)
          refine tr_iload_n (pc' := 103) (show decode cX10_obeys 102 = .ok (.iload_n 3, 1) by decide +kernel) rfl rfl rfl ?_
          cases h
          exact tr_iret rfl (show decode cX10_obeys 103 = .ok (.ireturn, 1) by decide +kernel) hL
      · rcases hm_is h with ⟨hc, h⟩ | ⟨-, h⟩
        · refine tp_tin (tgt := 67) (off := 43) hc (show decode cX10_obeys 24 = .ok (.tableswitch 55 24 28 #[36, 55, 43, 55, 50], 36) by decide +kernel) (by decide) (by decide) (by decide) (by decide) ?_
          refine tr_aload_n (pc' := 68) (show decode cX10_obeys 67 = .ok (.aload_n 0, 1) by decide +kernel) rfl rfl rfl ?_
          refine tr_iload_n (pc' := 69) (show decode cX10_obeys 68 = .ok (.iload_n 1, 1) by decide +kernel) rfl rfl rfl ?_
          refine tr_iload_n (pc' := 70) (show decode cX10_obeys 69 = .ok (.iload_n 2, 1) by decide +kernel) rfl rfl rfl ?_
          obtain ⟨x16, μ17, ex16, h⟩ := hm_b2s h
          have cx16 := ok_X10_walksKept (fr := fr - 1) (ν := ν) (by omega) x3 x5 μ hL ex16
          refine tp_callV (pc' := 73) (As := [.int x3, .int x5]) (fr1 := fr - 1) (ci := 10) okm_X10_walksKept lk_HandRingModel_386 (show decode cX10_obeys 70 = .ok (.invokevirtual 386, 3) by decide +kernel) rfl rfl rfl (by decide) (la_o hL (by decide) rfl) rfl rfl (Nat.le_of_ble_eq_true rfl) (by omega) cx16 (st' := [.int x16]) rfl ?_
          replace hL := cx16.1
          cases h
          exact tr_iret rfl (show decode cX10_obeys 73 = .ok (.ireturn, 1) by decide +kernel) hL
        · rcases hm_is h with ⟨hc, h⟩ | ⟨-, h⟩
          · refine tp_tin (tgt := 79) (off := 55) hc (show decode cX10_obeys 24 = .ok (.tableswitch 55 24 28 #[36, 55, 43, 55, 50], 36) by decide +kernel) (by decide) (by decide) (by decide) (by decide) ?_
            refine tr_aload_n (pc' := 80) (show decode cX10_obeys 79 = .ok (.aload_n 0, 1) by decide +kernel) rfl rfl rfl ?_
            refine tr_iload_n (pc' := 81) (show decode cX10_obeys 80 = .ok (.iload_n 1, 1) by decide +kernel) rfl rfl rfl ?_
            refine tr_iload_n (pc' := 82) (show decode cX10_obeys 81 = .ok (.iload_n 2, 1) by decide +kernel) rfl rfl rfl ?_
            obtain ⟨x12, μ13, ex12, h⟩ := hm_b2s h
            have cx12 := ok_X10_takesKept (fr := fr - 1) (ν := ν) (by omega) x3 x5 μ hL ex12
            refine tp_callV (pc' := 85) (As := [.int x3, .int x5]) (fr1 := fr - 1) (ci := 10) okm_X10_takesKept lk_HandRingModel_377 (show decode cX10_obeys 82 = .ok (.invokevirtual 377, 3) by decide +kernel) rfl rfl rfl (by decide) (la_o hL (by decide) rfl) rfl rfl (Nat.le_of_ble_eq_true rfl) (by omega) cx12 (st' := [.int x12]) rfl ?_
            replace hL := cx12.1
            refine tr_istore_n (pc' := 86) (lv' := [some (.ref 179), some (.int x3), some (.int x5), some (.int x12)]) (show decode cX10_obeys 85 = .ok (.istore_n 3, 1) by decide +kernel) rfl rfl (Nat.le_of_ble_eq_true rfl) rfl rfl ?_
            refine tr_aload_n (pc' := 87) (show decode cX10_obeys 86 = .ok (.aload_n 0, 1) by decide +kernel) rfl rfl rfl ?_
            refine tr_iload_n (pc' := 88) (show decode cX10_obeys 87 = .ok (.iload_n 3, 1) by decide +kernel) rfl rfl rfl ?_
            rcases hm_is h with ⟨hc, h⟩ | ⟨hc, h⟩
            · refine tr_if_ge_t (tgt := 98) hc (show decode cX10_obeys 88 = .ok (.ifCond .ge 10, 3) by decide +kernel) (by decide) ?_
              refine tr_iload_n (pc' := 99) (show decode cX10_obeys 98 = .ok (.iload_n 3, 1) by decide +kernel) rfl rfl rfl ?_
              obtain ⟨μ14, eμ14, h⟩ := hm_bs h
              refine tp_pI (pc' := 102) fl_HandRingModel_316 (show decode cX10_obeys 99 = .ok (.putfield 316, 3) by decide +kernel) rfl (la_o hL (by decide) rfl) eμ14 ?_
              replace hL := hL.same (hm_pI_s eμ14)
              refine tr_iload_n (pc' := 103) (show decode cX10_obeys 102 = .ok (.iload_n 3, 1) by decide +kernel) rfl rfl rfl ?_
              cases h
              exact tr_iret rfl (show decode cX10_obeys 103 = .ok (.ireturn, 1) by decide +kernel) hL
            · refine tr_if_ge_f (tgt := 98) (pc' := 91) hc (show decode cX10_obeys 88 = .ok (.ifCond .ge 10, 3) by decide +kernel) (by decide) rfl ?_
              refine tr_aload_n (pc' := 92) (show decode cX10_obeys 91 = .ok (.aload_n 0, 1) by decide +kernel) rfl rfl rfl ?_
              refine tr_getI (pc' := 95) fl_HandRingModel_316 (show decode cX10_obeys 92 = .ok (.getfield 316, 3) by decide +kernel) rfl (la_o hL (by decide) rfl) ?_
              refine tr_goto (tgt := 99) (show decode cX10_obeys 95 = .ok (.goto 4, 3) by decide +kernel) rfl ?_
              obtain ⟨μ15, eμ15, h⟩ := hm_bs h
              refine tp_pI (pc' := 102) fl_HandRingModel_316 (show decode cX10_obeys 99 = .ok (.putfield 316, 3) by decide +kernel) rfl (la_o hL (by decide) rfl) eμ15 ?_
              replace hL := hL.same (hm_pI_s eμ15)
              refine tr_iload_n (pc' := 103) (show decode cX10_obeys 102 = .ok (.iload_n 3, 1) by decide +kernel) rfl rfl rfl ?_
              cases h
              exact tr_iret rfl (show decode cX10_obeys 103 = .ok (.ireturn, 1) by decide +kernel) hL
          · rcases hm_is h with ⟨hc, h⟩ | ⟨-, h⟩
            · refine tp_tin (tgt := 74) (off := 50) hc (show decode cX10_obeys 24 = .ok (.tableswitch 55 24 28 #[36, 55, 43, 55, 50], 36) by decide +kernel) (by decide) (by decide) (by decide) (by decide) ?_
              refine tr_aload_n (pc' := 75) (show decode cX10_obeys 74 = .ok (.aload_n 0, 1) by decide +kernel) rfl rfl rfl ?_
              obtain ⟨x10, μ11, ex10, h⟩ := hm_b2s h
              have cx10 := ok_X10_passesKept (fr := fr - 1) (ν := ν) (by omega) μ hL ex10
              refine tp_callV (pc' := 78) (As := []) (fr1 := fr - 1) (ci := 10) okm_X10_passesKept lk_HandRingModel_389 (show decode cX10_obeys 75 = .ok (.invokevirtual 389, 3) by decide +kernel) rfl rfl rfl (by decide) (la_o hL (by decide) rfl) rfl rfl (Nat.le_of_ble_eq_true rfl) (by omega) cx10 (st' := [.int x10]) rfl ?_
              replace hL := cx10.1
              cases h
              exact tr_iret rfl (show decode cX10_obeys 78 = .ok (.ireturn, 1) by decide +kernel) hL
            · cases h
def f_X10_runs_J67 (v1 : Int32) (w19_2 : Int32) (w19_3 : Int32) (c19 : Int32 → hm_M → Option (Int32 × hm_M)) (e73 : hm_M → Option (Int32 × hm_M)) (y4 : Int32) (μ1 : hm_M) : Option (Int32 × hm_M) :=
  c19 (y4 + (1 : Int32)) μ1
theorem ok_X10_runs_J67 {fr : Nat} (hfr : 94 ≤ fr) {ν : hm_N} {r : Int32} {μR : hm_M}  (v1 : Int32) (w19_2 : Int32) (w19_3 : Int32) (c19 : Int32 → hm_M → Option (Int32 × hm_M)) (e73 : hm_M → Option (Int32 × hm_M)) (hc19 : ∀ (y4 : Int32)  (μ1 : hm_M), hm_LL ν μ1 → c19 y4 μ1 = some (r, μR) → hm_T (hm_LL ν) m_X10_runs fr 0 0 (some (.int r)) μR 19 [some (.ref 179), some (.int v1), some (.int w19_2), some (.int w19_3), some (.int y4)] [] μ1) (he73 : ∀   (μ1 : hm_M), hm_LL ν μ1 → e73 μ1 = some (r, μR) → hm_T (hm_LL ν) m_X10_runs fr 0 0 (some (.int r)) μR 73 [some (.ref 179), none, none, some (.int w19_3), none] [] μ1)  (y4 : Int32) (μ1 : hm_M) (hL : hm_LL ν μ1) (h : f_X10_runs_J67 v1 w19_2 w19_3 c19 e73 y4 μ1 = some (r, μR)) : hm_T (hm_LL ν) m_X10_runs fr 0 0 (some (.int r)) μR 67 [some (.ref 179), some (.int v1), some (.int w19_2), some (.int w19_3), some (.int y4)] [] μ1 := by
  unfold f_X10_runs_J67 at h
  refine tr_iinc (pc' := 70) (v := y4 + (1 : Int32)) (lv' := [some (.ref 179), some (.int v1), some (.int w19_2), some (.int w19_3), some (.int (y4 + (1 : Int32)))]) (show decode cX10_runs 67 = .ok (.iinc 4 1, 3) by decide +kernel) rfl rfl rfl (Nat.le_of_ble_eq_true rfl) rfl rfl ?_
  refine tr_goto (tgt := 19) (show decode cX10_runs 70 = .ok (.goto (-51), 3) by decide +kernel) rfl ?_
  exact hc19 (y4 + (1 : Int32)) μ1 hL h
def f_X10_runs_L19 (v1 : Int32) (w19_2 : Int32) (w19_3 : Int32) (e73 : hm_M → Option (Int32 × hm_M)) : Nat → Int32 → hm_M → Option (Int32 × hm_M)
  | 0, _, _ => none
  | n + 1, y4, μ1 => (if w19_2 ≤ y4 then
  e73 μ1
  else
  Option.bind (f_X10_goesAlong v1 (1 : Int32) μ1) fun μ5 =>
  (if (μ5.1 179 51) = 0 then
  f_X10_runs_J67 v1 w19_2 w19_3 (f_X10_runs_L19 v1 w19_2 w19_3 e73 n) e73 y4 μ5
  else
  (if (μ5.1 179 50) = 0 then
  some ((0 : Int32), μ5)
  else
  hm_b2 (f_X10_obeys μ5) fun x6 μ7 =>
  (if 0 ≤ x6 then
  Option.bind (hm_pI μ7 179 27 ((μ7.1 179 27) + (1 : Int32))) fun μ8 =>
  f_X10_runs_J67 v1 w19_2 w19_3 (f_X10_runs_L19 v1 w19_2 w19_3 e73 n) e73 y4 μ8
  else
  some ((0 : Int32), μ7)))))
theorem ok_X10_runs_L19 {fr : Nat} (hfr : 94 ≤ fr) {ν : hm_N} {r : Int32} {μR : hm_M}  (v1 : Int32) (w19_2 : Int32) (w19_3 : Int32) (e73 : hm_M → Option (Int32 × hm_M))  (he73 : ∀   (μ1 : hm_M), hm_LL ν μ1 → e73 μ1 = some (r, μR) → hm_T (hm_LL ν) m_X10_runs fr 0 0 (some (.int r)) μR 73 [some (.ref 179), none, none, some (.int w19_3), none] [] μ1)  : ∀ (n : Nat) (y4 : Int32)  (μ1 : hm_M), hm_LL ν μ1 → f_X10_runs_L19 v1 w19_2 w19_3 e73 n y4 μ1 = some (r, μR) → hm_T (hm_LL ν) m_X10_runs fr 0 0 (some (.int r)) μR 19 [some (.ref 179), some (.int v1), some (.int w19_2), some (.int w19_3), some (.int y4)] [] μ1 := by
  intro n
  induction n with
  | zero =>
    intro y4 μ1 hL h
    unfold f_X10_runs_L19 at h
    cases h
  | succ n ih =>
    intro y4 μ1 hL h
    unfold f_X10_runs_L19 at h
    refine tr_iload (pc' := 21) (show decode cX10_runs 19 = .ok (.iload 4, 2) by decide +kernel) rfl rfl ?_
    refine tr_iload_n (pc' := 22) (show decode cX10_runs 21 = .ok (.iload_n 2, 1) by decide +kernel) rfl rfl rfl ?_
    rcases hm_is h with ⟨hc, h⟩ | ⟨hc, h⟩
    · refine tr_icmp_ge_t (tgt := 73) hc (show decode cX10_runs 22 = .ok (.if_icmp .ge 51, 3) by decide +kernel) (by decide) ?_
      refine hm_fgt [true, false, false, true, false] (lv' := [some (.ref 179), none, none, some (.int w19_3), none]) rfl ?_
      exact he73 μ1 hL h
    · refine tr_icmp_ge_f (tgt := 73) (pc' := 25) hc (show decode cX10_runs 22 = .ok (.if_icmp .ge 51, 3) by decide +kernel) (by decide) rfl ?_
      refine tr_aload_n (pc' := 26) (show decode cX10_runs 25 = .ok (.aload_n 0, 1) by decide +kernel) rfl rfl rfl ?_
      refine tr_iload_n (pc' := 27) (show decode cX10_runs 26 = .ok (.iload_n 1, 1) by decide +kernel) rfl rfl rfl ?_
      refine tr_iconst (pc' := 28) (v := (1 : Int32)) (show decode cX10_runs 27 = .ok (.iconst 1, 1) by decide +kernel) rfl (by decide) ?_
      obtain ⟨μ5, ex4, h⟩ := hm_bs h
      have cx4 := ok_X10_goesAlong (fr := fr - 1) (ν := ν) (by omega) v1 (1 : Int32) μ1 hL ex4
      refine tp_callV (pc' := 31) (As := [.int v1, .int (1 : Int32)]) (fr1 := fr - 1) (ci := 10) okm_X10_goesAlong lk_HandRingModel_499 (show decode cX10_runs 28 = .ok (.invokevirtual 499, 3) by decide +kernel) rfl rfl rfl (by decide) (la_o hL (by decide) rfl) rfl rfl (Nat.le_of_ble_eq_true rfl) (by omega) cx4 (st' := []) rfl ?_
      replace hL := cx4.1
      refine tr_aload_n (pc' := 32) (show decode cX10_runs 31 = .ok (.aload_n 0, 1) by decide +kernel) rfl rfl rfl ?_
      refine tr_getI (pc' := 35) fl_HandRingModel_490 (show decode cX10_runs 32 = .ok (.getfield 490, 3) by decide +kernel) rfl (la_o hL (by decide) rfl) ?_
      rcases hm_is h with ⟨hc, h⟩ | ⟨hc, h⟩
      · refine tr_if_ne_f (tgt := 41) (pc' := 38) hc (show decode cX10_runs 35 = .ok (.ifCond .ne 6, 3) by decide +kernel) (by decide) rfl ?_
        refine tr_goto (tgt := 67) (show decode cX10_runs 38 = .ok (.goto 29, 3) by decide +kernel) rfl ?_
        exact ok_X10_runs_J67 hfr _ w19_2 w19_3 (f_X10_runs_L19 v1 w19_2 w19_3 e73 n) e73 ih he73 y4 μ5 hL h
      · refine tr_if_ne_t (tgt := 41) hc (show decode cX10_runs 35 = .ok (.ifCond .ne 6, 3) by decide +kernel) (by decide) ?_
        refine tr_aload_n (pc' := 42) (show decode cX10_runs 41 = .ok (.aload_n 0, 1) by decide +kernel) rfl rfl rfl ?_
        refine tr_getI (pc' := 45) fl_HandRingModel_484 (show decode cX10_runs 42 = .ok (.getfield 484, 3) by decide +kernel) rfl (la_o hL (by decide) rfl) ?_
        rcases hm_is h with ⟨hc, h⟩ | ⟨hc, h⟩
        · refine tr_if_eq_t (tgt := 55) hc (show decode cX10_runs 45 = .ok (.ifCond .eq 10, 3) by decide +kernel) (by decide) ?_
          refine tr_iconst (pc' := 56) (v := (0 : Int32)) (show decode cX10_runs 55 = .ok (.iconst 0, 1) by decide +kernel) rfl (by decide) ?_
          cases h
          exact tr_zret rfl (by decide) (show decode cX10_runs 56 = .ok (.ireturn, 1) by decide +kernel) hL
        · refine tr_if_eq_f (tgt := 55) (pc' := 48) hc (show decode cX10_runs 45 = .ok (.ifCond .eq 10, 3) by decide +kernel) (by decide) rfl ?_
          refine tr_aload_n (pc' := 49) (show decode cX10_runs 48 = .ok (.aload_n 0, 1) by decide +kernel) rfl rfl rfl ?_
          obtain ⟨x6, μ7, ex6, h⟩ := hm_b2s h
          have cx6 := ok_X10_obeys (fr := fr - 1) (ν := ν) (by omega) μ5 hL ex6
          refine tp_callV (pc' := 52) (As := []) (fr1 := fr - 1) (ci := 10) okm_X10_obeys lk_HandRingModel_503 (show decode cX10_runs 49 = .ok (.invokevirtual 503, 3) by decide +kernel) rfl rfl rfl (by decide) (la_o hL (by decide) rfl) rfl rfl (Nat.le_of_ble_eq_true rfl) (by omega) cx6 (st' := [.int x6]) rfl ?_
          replace hL := cx6.1
          rcases hm_is h with ⟨hc, h⟩ | ⟨hc, h⟩
          · refine tr_if_ge_t (tgt := 57) hc (show decode cX10_runs 52 = .ok (.ifCond .ge 5, 3) by decide +kernel) (by decide) ?_
            refine tr_aload_n (pc' := 58) (show decode cX10_runs 57 = .ok (.aload_n 0, 1) by decide +kernel) rfl rfl rfl ?_
            refine tr_dup (pc' := 59) (show decode cX10_runs 58 = .ok (.dup, 1) by decide +kernel) rfl rfl ?_
            refine tr_getI (pc' := 62) fl_HandRingModel_313 (show decode cX10_runs 59 = .ok (.getfield 313, 3) by decide +kernel) rfl (la_o hL (by decide) rfl) ?_
            refine tr_iconst (pc' := 63) (v := (1 : Int32)) (show decode cX10_runs 62 = .ok (.iconst 1, 1) by decide +kernel) rfl (by decide) ?_
            refine tr_iadd (pc' := 64) (show decode cX10_runs 63 = .ok (.iadd, 1) by decide +kernel) rfl ?_
            obtain ⟨μ8, eμ8, h⟩ := hm_bs h
            refine tp_pI (pc' := 67) fl_HandRingModel_313 (show decode cX10_runs 64 = .ok (.putfield 313, 3) by decide +kernel) rfl (la_o hL (by decide) rfl) eμ8 ?_
            replace hL := hL.same (hm_pI_s eμ8)
            exact ok_X10_runs_J67 hfr _ w19_2 w19_3 (f_X10_runs_L19 v1 w19_2 w19_3 e73 n) e73 ih he73 y4 μ8 hL h
          · refine tr_if_ge_f (tgt := 57) (pc' := 55) hc (show decode cX10_runs 52 = .ok (.ifCond .ge 5, 3) by decide +kernel) (by decide) rfl ?_
            refine tr_iconst (pc' := 56) (v := (0 : Int32)) (show decode cX10_runs 55 = .ok (.iconst 0, 1) by decide +kernel) rfl (by decide) ?_
            cases h
            exact tr_zret rfl (by decide) (show decode cX10_runs 56 = .ok (.ireturn, 1) by decide +kernel) hL
def f_X10_runs (v1 : Int32) (μ : hm_M) : Option (Int32 × hm_M) :=
  Option.bind (f_X10_goesAlong v1 (0 : Int32) μ) fun μ3 =>
  f_X10_runs_L19 v1 (μ3.1 179 48) (μ3.1 179 22) (fun μz9 => Option.bind (hm_pI μz9 179 47 (μ3.1 179 22)) fun μ10 =>
  some ((1 : Int32), μ10)) hm_fu (0 : Int32) μ3
set_option maxRecDepth 100000 in
theorem ok_X10_runs {fr : Nat} (hfr : 94 ≤ fr) {ν : hm_N} {r : Int32} {μR : hm_M}  (v1 : Int32)  (μ : hm_M) (hL : hm_LL ν μ) (h : f_X10_runs v1 μ = some (r, μR)) : hm_CC (hm_LL ν) m_X10_runs fr 0 0 [.ref 179, .int v1] μ (some (.int r)) μR := by
  refine hm_enter (lv := [some (.ref 179), some (.int v1), none, none, none]) (by decide) rfl (Nat.le_of_ble_eq_true rfl) ?_
  unfold f_X10_runs at h
  refine tr_aload_n (pc' := 1) (show decode cX10_runs 0 = .ok (.aload_n 0, 1) by decide +kernel) rfl rfl rfl ?_
  refine tr_iload_n (pc' := 2) (show decode cX10_runs 1 = .ok (.iload_n 1, 1) by decide +kernel) rfl rfl rfl ?_
  refine tr_iconst (pc' := 3) (v := (0 : Int32)) (show decode cX10_runs 2 = .ok (.iconst 0, 1) by decide +kernel) rfl (by decide) ?_
  obtain ⟨μ3, ex2, h⟩ := hm_bs h
  have cx2 := ok_X10_goesAlong (fr := fr - 1) (ν := ν) (by omega) v1 (0 : Int32) μ hL ex2
  refine tp_callV (pc' := 6) (As := [.int v1, .int (0 : Int32)]) (fr1 := fr - 1) (ci := 10) okm_X10_goesAlong lk_HandRingModel_499 (show decode cX10_runs 3 = .ok (.invokevirtual 499, 3) by decide +kernel) rfl rfl rfl (by decide) (la_o hL (by decide) rfl) rfl rfl (Nat.le_of_ble_eq_true rfl) (by omega) cx2 (st' := []) rfl ?_
  replace hL := cx2.1
  refine tr_aload_n (pc' := 7) (show decode cX10_runs 6 = .ok (.aload_n 0, 1) by decide +kernel) rfl rfl rfl ?_
  refine tr_getI (pc' := 10) fl_HandRingModel_487 (show decode cX10_runs 7 = .ok (.getfield 487, 3) by decide +kernel) rfl (la_o hL (by decide) rfl) ?_
  refine tr_istore_n (pc' := 11) (lv' := [some (.ref 179), some (.int v1), some (.int (μ3.1 179 48)), none, none]) (show decode cX10_runs 10 = .ok (.istore_n 2, 1) by decide +kernel) rfl rfl (Nat.le_of_ble_eq_true rfl) rfl rfl ?_
  refine tr_aload_n (pc' := 12) (show decode cX10_runs 11 = .ok (.aload_n 0, 1) by decide +kernel) rfl rfl rfl ?_
  refine tr_getI (pc' := 15) fl_HandRingModel_274 (show decode cX10_runs 12 = .ok (.getfield 274, 3) by decide +kernel) rfl (la_o hL (by decide) rfl) ?_
  refine tr_istore_n (pc' := 16) (lv' := [some (.ref 179), some (.int v1), some (.int (μ3.1 179 48)), some (.int (μ3.1 179 22)), none]) (show decode cX10_runs 15 = .ok (.istore_n 3, 1) by decide +kernel) rfl rfl (Nat.le_of_ble_eq_true rfl) rfl rfl ?_
  refine tr_iconst (pc' := 17) (v := (0 : Int32)) (show decode cX10_runs 16 = .ok (.iconst 0, 1) by decide +kernel) rfl (by decide) ?_
  refine tr_istore (pc' := 19) (lv' := [some (.ref 179), some (.int v1), some (.int (μ3.1 179 48)), some (.int (μ3.1 179 22)), some (.int (0 : Int32))]) (show decode cX10_runs 17 = .ok (.istore 4, 2) by decide +kernel) rfl (Nat.le_of_ble_eq_true rfl) rfl rfl ?_
  refine ok_X10_runs_L19 hfr _ (μ3.1 179 48) (μ3.1 179 22) _ ?_ _ (0 : Int32) μ3 hL h
  · intro μz9 hL h
    refine tr_aload_n (pc' := 74) (show decode cX10_runs 73 = .ok (.aload_n 0, 1) by decide +kernel) rfl rfl rfl ?_
    refine tr_iload_n (pc' := 75) (show decode cX10_runs 74 = .ok (.iload_n 3, 1) by decide +kernel) rfl rfl rfl ?_
    obtain ⟨μ10, eμ10, h⟩ := hm_bs h
    refine tp_pI (pc' := 78) fl_HandRingModel_472 (show decode cX10_runs 75 = .ok (.putfield 472, 3) by decide +kernel) rfl (la_o hL (by decide) rfl) eμ10 ?_
    replace hL := hL.same (hm_pI_s eμ10)
    refine tr_iconst (pc' := 79) (v := (1 : Int32)) (show decode cX10_runs 78 = .ok (.iconst 1, 1) by decide +kernel) rfl (by decide) ?_
    cases h
    exact tr_zret rfl (by decide) (show decode cX10_runs 79 = .ok (.ireturn, 1) by decide +kernel) hL
def f_X10_orders_L27 (e52 : hm_M → Option (Int32 × hm_M)) : Nat → Int32 → hm_M → Option (Int32 × hm_M)
  | 0, _, _ => none
  | n + 1, y1, μ1 => (if (416 : Int32) ≤ y1 then
  e52 μ1
  else
  Option.bind (hm_ld μ1 193 416 y1) fun x7 =>
  Option.bind (hm_sd μ1 194 416 y1 x7) fun μ8 =>
  (f_X10_orders_L27 e52 n) (y1 + (1 : Int32)) μ8)
theorem ok_X10_orders_L27 {fr : Nat} (hfr : 95 ≤ fr) {ν : hm_N} {r : Int32} {μR : hm_M}   (e52 : hm_M → Option (Int32 × hm_M))  (he52 : ∀   (μ1 : hm_M), hm_LL ν μ1 → e52 μ1 = some (r, μR) → hm_T (hm_LL ν) m_X10_orders fr 0 0 (some (.int r)) μR 52 [some (.ref 179), none, none, none, none] [] μ1)  : ∀ (n : Nat) (y1 : Int32)  (μ1 : hm_M), hm_LL ν μ1 → f_X10_orders_L27 e52 n y1 μ1 = some (r, μR) → hm_T (hm_LL ν) m_X10_orders fr 0 0 (some (.int r)) μR 27 [some (.ref 179), some (.int y1), none, none, none] [] μ1 := by
  intro n
  induction n with
  | zero =>
    intro y1 μ1 hL h
    unfold f_X10_orders_L27 at h
    cases h
  | succ n ih =>
    intro y1 μ1 hL h
    unfold f_X10_orders_L27 at h
    refine tr_iload_n (pc' := 28) (show decode cX10_orders 27 = .ok (.iload_n 1, 1) by decide +kernel) rfl rfl rfl ?_
    refine tr_sipush (pc' := 31) (v := (416 : Int32)) (show decode cX10_orders 28 = .ok (.sipush 416, 3) by decide +kernel) rfl (by decide) ?_
    rcases hm_is h with ⟨hc, h⟩ | ⟨hc, h⟩
    · refine tr_icmp_ge_t (tgt := 52) hc (show decode cX10_orders 31 = .ok (.if_icmp .ge 21, 3) by decide +kernel) (by decide) ?_
      refine hm_fgt [true, false, false, false, false] (lv' := [some (.ref 179), none, none, none, none]) rfl ?_
      exact he52 μ1 hL h
    · refine tr_icmp_ge_f (tgt := 52) (pc' := 34) hc (show decode cX10_orders 31 = .ok (.if_icmp .ge 21, 3) by decide +kernel) (by decide) rfl ?_
      refine tr_aload_n (pc' := 35) (show decode cX10_orders 34 = .ok (.aload_n 0, 1) by decide +kernel) rfl rfl rfl ?_
      refine tr_getR (pc' := 38) fl_HandRingModel_68 (show decode cX10_orders 35 = .ok (.getfield 68, 3) by decide +kernel) rfl (la_o hL (by decide) rfl) (la_r hL 131 rfl) ?_
      refine tr_iload_n (pc' := 39) (show decode cX10_orders 38 = .ok (.iload_n 1, 1) by decide +kernel) rfl rfl rfl ?_
      refine tr_aload_n (pc' := 40) (show decode cX10_orders 39 = .ok (.aload_n 0, 1) by decide +kernel) rfl rfl rfl ?_
      refine tr_getR (pc' := 43) fl_HandRingModel_65 (show decode cX10_orders 40 = .ok (.getfield 65, 3) by decide +kernel) rfl (la_o hL (by decide) rfl) (la_r hL 130 rfl) ?_
      refine tr_iload_n (pc' := 44) (show decode cX10_orders 43 = .ok (.iload_n 1, 1) by decide +kernel) rfl rfl rfl ?_
      obtain ⟨x7, ex7, h⟩ := hm_bs h
      refine tp_ldI (pc' := 45) (show decode cX10_orders 44 = .ok (.iaload, 1) by decide +kernel) rfl (la_a hL (by decide) rfl) ex7 ?_
      obtain ⟨μ8, eμ8, h⟩ := hm_bs h
      refine tp_sdI (pc' := 46) (show decode cX10_orders 45 = .ok (.iastore, 1) by decide +kernel) rfl (la_a hL (by decide) rfl) eμ8 ?_
      replace hL := hL.same (hm_sd_s eμ8)
      refine tr_iinc (pc' := 49) (v := y1 + (1 : Int32)) (lv' := [some (.ref 179), some (.int (y1 + (1 : Int32))), none, none, none]) (show decode cX10_orders 46 = .ok (.iinc 1 1, 3) by decide +kernel) rfl rfl rfl (Nat.le_of_ble_eq_true rfl) rfl rfl ?_
      refine tr_goto (tgt := 27) (show decode cX10_orders 49 = .ok (.goto (-22), 3) by decide +kernel) rfl ?_
      exact ih (y1 + (1 : Int32)) μ8 hL h
def f_X10_orders_L122 (w95_1 : Int32) (w95_2 : Int32) (w122_3 : Int32) (c95 : Int32 → hm_M → Option (Int32 × hm_M)) (e173 : hm_M → Option (Int32 × hm_M)) (e150 : hm_M → Option (Int32 × hm_M)) : Nat → Int32 → hm_M → Option (Int32 × hm_M)
  | 0, _, _ => none
  | n + 1, y4, μ1 => (if (416 : Int32) ≤ y4 then
  e150 μ1
  else
  Option.bind (hm_ld μ1 194 416 y4) fun x20 =>
  Option.bind (hm_sd μ1 193 416 y4 x20) fun μ21 =>
  (f_X10_orders_L122 w95_1 w95_2 w122_3 c95 e173 e150 n) (y4 + (1 : Int32)) μ21)
theorem ok_X10_orders_L122 {fr : Nat} (hfr : 95 ≤ fr) {ν : hm_N} {r : Int32} {μR : hm_M}  (w95_1 : Int32) (w95_2 : Int32) (w122_3 : Int32) (c95 : Int32 → hm_M → Option (Int32 × hm_M)) (e173 : hm_M → Option (Int32 × hm_M)) (e150 : hm_M → Option (Int32 × hm_M)) (hc95 : ∀ (y3 : Int32)  (μ1 : hm_M), hm_LL ν μ1 → c95 y3 μ1 = some (r, μR) → hm_T (hm_LL ν) m_X10_orders fr 0 0 (some (.int r)) μR 95 [some (.ref 179), some (.int w95_1), some (.int w95_2), some (.int y3), none] [] μ1) (he173 : ∀   (μ1 : hm_M), hm_LL ν μ1 → e173 μ1 = some (r, μR) → hm_T (hm_LL ν) m_X10_orders fr 0 0 (some (.int r)) μR 173 [some (.ref 179), none, none, none, none] [] μ1) (he150 : ∀   (μ1 : hm_M), hm_LL ν μ1 → e150 μ1 = some (r, μR) → hm_T (hm_LL ν) m_X10_orders fr 0 0 (some (.int r)) μR 150 [some (.ref 179), some (.int w95_1), none, some (.int w122_3), none] [] μ1)  : ∀ (n : Nat) (y4 : Int32)  (μ1 : hm_M), hm_LL ν μ1 → f_X10_orders_L122 w95_1 w95_2 w122_3 c95 e173 e150 n y4 μ1 = some (r, μR) → hm_T (hm_LL ν) m_X10_orders fr 0 0 (some (.int r)) μR 122 [some (.ref 179), some (.int w95_1), none, some (.int w122_3), some (.int y4)] [] μ1 := by
  intro n
  induction n with
  | zero =>
    intro y4 μ1 hL h
    unfold f_X10_orders_L122 at h
    cases h
  | succ n ih =>
    intro y4 μ1 hL h
    unfold f_X10_orders_L122 at h
    refine tr_iload (pc' := 124) (show decode cX10_orders 122 = .ok (.iload 4, 2) by decide +kernel) rfl rfl ?_
    refine tr_sipush (pc' := 127) (v := (416 : Int32)) (show decode cX10_orders 124 = .ok (.sipush 416, 3) by decide +kernel) rfl (by decide) ?_
    rcases hm_is h with ⟨hc, h⟩ | ⟨hc, h⟩
    · refine tr_icmp_ge_t (tgt := 150) hc (show decode cX10_orders 127 = .ok (.if_icmp .ge 23, 3) by decide +kernel) (by decide) ?_
      refine hm_fgt [true, true, false, true, false] (lv' := [some (.ref 179), some (.int w95_1), none, some (.int w122_3), none]) rfl ?_
      exact he150 μ1 hL h
    · refine tr_icmp_ge_f (tgt := 150) (pc' := 130) hc (show decode cX10_orders 127 = .ok (.if_icmp .ge 23, 3) by decide +kernel) (by decide) rfl ?_
      refine tr_aload_n (pc' := 131) (show decode cX10_orders 130 = .ok (.aload_n 0, 1) by decide +kernel) rfl rfl rfl ?_
      refine tr_getR (pc' := 134) fl_HandRingModel_65 (show decode cX10_orders 131 = .ok (.getfield 65, 3) by decide +kernel) rfl (la_o hL (by decide) rfl) (la_r hL 130 rfl) ?_
      refine tr_iload (pc' := 136) (show decode cX10_orders 134 = .ok (.iload 4, 2) by decide +kernel) rfl rfl ?_
      refine tr_aload_n (pc' := 137) (show decode cX10_orders 136 = .ok (.aload_n 0, 1) by decide +kernel) rfl rfl rfl ?_
      refine tr_getR (pc' := 140) fl_HandRingModel_68 (show decode cX10_orders 137 = .ok (.getfield 68, 3) by decide +kernel) rfl (la_o hL (by decide) rfl) (la_r hL 131 rfl) ?_
      refine tr_iload (pc' := 142) (show decode cX10_orders 140 = .ok (.iload 4, 2) by decide +kernel) rfl rfl ?_
      obtain ⟨x20, ex20, h⟩ := hm_bs h
      refine tp_ldI (pc' := 143) (show decode cX10_orders 142 = .ok (.iaload, 1) by decide +kernel) rfl (la_a hL (by decide) rfl) ex20 ?_
      obtain ⟨μ21, eμ21, h⟩ := hm_bs h
      refine tp_sdI (pc' := 144) (show decode cX10_orders 143 = .ok (.iastore, 1) by decide +kernel) rfl (la_a hL (by decide) rfl) eμ21 ?_
      replace hL := hL.same (hm_sd_s eμ21)
      refine tr_iinc (pc' := 147) (v := y4 + (1 : Int32)) (lv' := [some (.ref 179), some (.int w95_1), none, some (.int w122_3), some (.int (y4 + (1 : Int32)))]) (show decode cX10_orders 144 = .ok (.iinc 4 1, 3) by decide +kernel) rfl rfl rfl (Nat.le_of_ble_eq_true rfl) rfl rfl ?_
      refine tr_goto (tgt := 122) (show decode cX10_orders 147 = .ok (.goto (-25), 3) by decide +kernel) rfl ?_
      exact ih (y4 + (1 : Int32)) μ21 hL h
def f_X10_orders_L95 (w95_1 : Int32) (w95_2 : Int32) (e173 : hm_M → Option (Int32 × hm_M)) : Nat → Int32 → hm_M → Option (Int32 × hm_M)
  | 0, _, _ => none
  | n + 1, y3, μ1 => (if w95_2 ≤ (μ1.1 179 47) then
  e173 μ1
  else
  hm_b2 (f_X10_runs w95_2 μ1) fun x16 μ17 =>
  (if x16 = 0 then
  Option.bind (f_X10_takesBack (1 : Int32) μ17) fun μ19 =>
  f_X10_orders_L122 w95_1 w95_2 y3 (f_X10_orders_L95 w95_1 w95_2 e173 n) e173 (fun μz22 => Option.bind (hm_pI μz22 179 33 w95_1) fun μ23 =>
  Option.bind (hm_pI μ23 179 46 y3) fun μ24 =>
  hm_b2 (f_X10_refuses (-3 : Int32) μ24) fun x25 μ26 =>
  some (x25, μ26)) hm_fu (0 : Int32) μ19
  else
  (f_X10_orders_L95 w95_1 w95_2 e173 n) (y3 + (1 : Int32)) μ17))
theorem ok_X10_orders_L95 {fr : Nat} (hfr : 95 ≤ fr) {ν : hm_N} {r : Int32} {μR : hm_M}  (w95_1 : Int32) (w95_2 : Int32) (e173 : hm_M → Option (Int32 × hm_M))  (he173 : ∀   (μ1 : hm_M), hm_LL ν μ1 → e173 μ1 = some (r, μR) → hm_T (hm_LL ν) m_X10_orders fr 0 0 (some (.int r)) μR 173 [some (.ref 179), none, none, none, none] [] μ1)  : ∀ (n : Nat) (y3 : Int32)  (μ1 : hm_M), hm_LL ν μ1 → f_X10_orders_L95 w95_1 w95_2 e173 n y3 μ1 = some (r, μR) → hm_T (hm_LL ν) m_X10_orders fr 0 0 (some (.int r)) μR 95 [some (.ref 179), some (.int w95_1), some (.int w95_2), some (.int y3), none] [] μ1 := by
  intro n
  induction n with
  | zero =>
    intro y3 μ1 hL h
    unfold f_X10_orders_L95 at h
    cases h
  | succ n ih =>
    intro y3 μ1 hL h
    unfold f_X10_orders_L95 at h
    refine tr_aload_n (pc' := 96) (show decode cX10_orders 95 = .ok (.aload_n 0, 1) by decide +kernel) rfl rfl rfl ?_
    refine tr_getI (pc' := 99) fl_HandRingModel_472 (show decode cX10_orders 96 = .ok (.getfield 472, 3) by decide +kernel) rfl (la_o hL (by decide) rfl) ?_
    refine tr_iload_n (pc' := 100) (show decode cX10_orders 99 = .ok (.iload_n 2, 1) by decide +kernel) rfl rfl rfl ?_
    rcases hm_is h with ⟨hc, h⟩ | ⟨hc, h⟩
    · refine tr_icmp_ge_t (tgt := 173) hc (show decode cX10_orders 100 = .ok (.if_icmp .ge 73, 3) by decide +kernel) (by decide) ?_
      refine hm_fgt [true, false, false, false, false] (lv' := [some (.ref 179), none, none, none, none]) rfl ?_
      exact he173 μ1 hL h
    · refine tr_icmp_ge_f (tgt := 173) (pc' := 103) hc (show decode cX10_orders 100 = .ok (.if_icmp .ge 73, 3) by decide +kernel) (by decide) rfl ?_
      refine tr_aload_n (pc' := 104) (show decode cX10_orders 103 = .ok (.aload_n 0, 1) by decide +kernel) rfl rfl rfl ?_
      refine tr_iload_n (pc' := 105) (show decode cX10_orders 104 = .ok (.iload_n 2, 1) by decide +kernel) rfl rfl rfl ?_
      obtain ⟨x16, μ17, ex16, h⟩ := hm_b2s h
      have cx16 := ok_X10_runs (fr := fr - 1) (ν := ν) (by omega) w95_2 μ1 hL ex16
      refine tp_callV (pc' := 108) (As := [.int w95_2]) (fr1 := fr - 1) (ci := 10) okm_X10_runs lk_HandRingModel_475 (show decode cX10_orders 105 = .ok (.invokevirtual 475, 3) by decide +kernel) rfl rfl rfl (by decide) (la_o hL (by decide) rfl) rfl rfl (Nat.le_of_ble_eq_true rfl) (by omega) cx16 (st' := [.int x16]) rfl ?_
      replace hL := cx16.1
      rcases hm_is h with ⟨hc, h⟩ | ⟨hc, h⟩
      · refine tr_if_eq_t (tgt := 114) hc (show decode cX10_orders 108 = .ok (.ifCond .eq 6, 3) by decide +kernel) (by decide) ?_
        refine tr_aload_n (pc' := 115) (show decode cX10_orders 114 = .ok (.aload_n 0, 1) by decide +kernel) rfl rfl rfl ?_
        refine tr_iconst (pc' := 116) (v := (1 : Int32)) (show decode cX10_orders 115 = .ok (.iconst 1, 1) by decide +kernel) rfl (by decide) ?_
        obtain ⟨μ19, ex18, h⟩ := hm_bs h
        have cx18 := ok_X10_takesBack (fr := fr - 1) (ν := ν) (by omega) (1 : Int32) μ17 hL ex18
        refine tp_callV (pc' := 119) (As := [.int (1 : Int32)]) (fr1 := fr - 1) (ci := 10) okm_X10_takesBack lk_HandRingModel_478 (show decode cX10_orders 116 = .ok (.invokevirtual 478, 3) by decide +kernel) rfl rfl rfl (by decide) (la_o hL (by decide) rfl) rfl rfl (Nat.le_of_ble_eq_true rfl) (by omega) cx18 (st' := []) rfl ?_
        replace hL := cx18.1
        refine tr_iconst (pc' := 120) (v := (0 : Int32)) (show decode cX10_orders 119 = .ok (.iconst 0, 1) by decide +kernel) rfl (by decide) ?_
        refine tr_istore (pc' := 122) (lv' := [some (.ref 179), some (.int w95_1), some (.int w95_2), some (.int y3), some (.int (0 : Int32))]) (show decode cX10_orders 120 = .ok (.istore 4, 2) by decide +kernel) rfl (Nat.le_of_ble_eq_true rfl) rfl rfl ?_
        refine hm_fgt [true, true, false, true, true] (lv' := [some (.ref 179), some (.int w95_1), none, some (.int y3), some (.int (0 : Int32))]) rfl ?_
        refine ok_X10_orders_L122 hfr w95_1 w95_2 y3 (f_X10_orders_L95 w95_1 w95_2 e173 n) e173 _ ih he173 ?_ _ (0 : Int32) μ19 hL h
        · intro μz22 hL h
          refine tr_aload_n (pc' := 151) (show decode cX10_orders 150 = .ok (.aload_n 0, 1) by decide +kernel) rfl rfl rfl ?_
          refine tr_iload_n (pc' := 152) (show decode cX10_orders 151 = .ok (.iload_n 1, 1) by decide +kernel) rfl rfl rfl ?_
          obtain ⟨μ23, eμ23, h⟩ := hm_bs h
          refine tp_pI (pc' := 155) fl_HandRingModel_11 (show decode cX10_orders 152 = .ok (.putfield 11, 3) by decide +kernel) rfl (la_o hL (by decide) rfl) eμ23 ?_
          replace hL := hL.same (hm_pI_s eμ23)
          refine tr_aload_n (pc' := 156) (show decode cX10_orders 155 = .ok (.aload_n 0, 1) by decide +kernel) rfl rfl rfl ?_
          refine tr_iload_n (pc' := 157) (show decode cX10_orders 156 = .ok (.iload_n 3, 1) by decide +kernel) rfl rfl rfl ?_
          obtain ⟨μ24, eμ24, h⟩ := hm_bs h
          refine tp_pI (pc' := 160) fl_HandRingModel_96 (show decode cX10_orders 157 = .ok (.putfield 96, 3) by decide +kernel) rfl (la_o hL (by decide) rfl) eμ24 ?_
          replace hL := hL.same (hm_pI_s eμ24)
          refine tr_aload_n (pc' := 161) (show decode cX10_orders 160 = .ok (.aload_n 0, 1) by decide +kernel) rfl rfl rfl ?_
          refine tr_bipush (pc' := 163) (v := (-3 : Int32)) (show decode cX10_orders 161 = .ok (.bipush (-3), 2) by decide +kernel) rfl (by decide) ?_
          obtain ⟨x25, μ26, ex25, h⟩ := hm_b2s h
          have cx25 := ok_X10_refuses (fr := fr - 1) (ν := ν) (by omega) (-3 : Int32) μ24 hL ex25
          refine tp_callV (pc' := 166) (As := [.int (-3 : Int32)]) (fr1 := fr - 1) (ci := 10) okm_X10_refuses lk_HandRingModel_112 (show decode cX10_orders 163 = .ok (.invokevirtual 112, 3) by decide +kernel) rfl rfl rfl (by decide) (la_o hL (by decide) rfl) rfl rfl (Nat.le_of_ble_eq_true rfl) (by omega) cx25 (st' := [.int x25]) rfl ?_
          replace hL := cx25.1
          cases h
          exact tr_iret rfl (show decode cX10_orders 166 = .ok (.ireturn, 1) by decide +kernel) hL
      · refine tr_if_eq_f (tgt := 114) (pc' := 111) hc (show decode cX10_orders 108 = .ok (.ifCond .eq 6, 3) by decide +kernel) (by decide) rfl ?_
        refine tr_goto (tgt := 167) (show decode cX10_orders 111 = .ok (.goto 56, 3) by decide +kernel) rfl ?_
        refine tr_iinc (pc' := 170) (v := y3 + (1 : Int32)) (lv' := [some (.ref 179), some (.int w95_1), some (.int w95_2), some (.int (y3 + (1 : Int32))), none]) (show decode cX10_orders 167 = .ok (.iinc 3 1, 3) by decide +kernel) rfl rfl rfl (Nat.le_of_ble_eq_true rfl) rfl rfl ?_
        refine tr_goto (tgt := 95) (show decode cX10_orders 170 = .ok (.goto (-75), 3) by decide +kernel) rfl ?_
        exact ih (y3 + (1 : Int32)) μ17 hL h
def f_X10_orders (μ : hm_M) : Option (Int32 × hm_M) :=
  Option.bind (hm_pI μ 179 46 (-1 : Int32)) fun μ2 =>
  hm_b2 (f_X10_readsAs (1 : Int32) μ2) fun x3 μ4 =>
  (if x3 = 0 then
  hm_b2 (f_X10_refuses (-6 : Int32) μ4) fun x30 μ31 =>
  some (x30, μ31)
  else
  Option.bind (f_X10_laysAside (1 : Int32) μ4) fun μ6 =>
  f_X10_orders_L27 (fun μz9 => Option.bind (f_X10_lays (6 : Int32) μz9) fun μ11 =>
  Option.bind (hm_pI μ11 179 27 (0 : Int32)) fun μ12 =>
  Option.bind (hm_pI μ12 179 28 (-1 : Int32)) fun μ13 =>
  Option.bind (hm_pI μ13 179 47 (2400 : Int32)) fun μ14 =>
  Option.bind (hm_ld μ14 181 5665 (64 : Int32)) fun x15 =>
  f_X10_orders_L95 (μz9.1 179 33) ((μ14.1 179 47) + x15) (fun μz27 => hm_b2 (f_X10_good (μz27.1 179 27) μz27) fun x28 μ29 =>
  some (x28, μ29)) hm_fu (0 : Int32) μ14) hm_fu (0 : Int32) μ6)
set_option maxRecDepth 100000 in
theorem ok_X10_orders {fr : Nat} (hfr : 95 ≤ fr) {ν : hm_N} {r : Int32} {μR : hm_M}    (μ : hm_M) (hL : hm_LL ν μ) (h : f_X10_orders μ = some (r, μR)) : hm_CC (hm_LL ν) m_X10_orders fr 0 0 [.ref 179] μ (some (.int r)) μR := by
  refine hm_enter (lv := [some (.ref 179), none, none, none, none]) (by decide) rfl (Nat.le_of_ble_eq_true rfl) ?_
  unfold f_X10_orders at h
  refine tr_aload_n (pc' := 1) (show decode cX10_orders 0 = .ok (.aload_n 0, 1) by decide +kernel) rfl rfl rfl ?_
  refine tr_iconst (pc' := 2) (v := (-1 : Int32)) (show decode cX10_orders 1 = .ok (.iconst (-1), 1) by decide +kernel) rfl (by decide) ?_
  obtain ⟨μ2, eμ2, h⟩ := hm_bs h
  refine tp_pI (pc' := 5) fl_HandRingModel_96 (show decode cX10_orders 2 = .ok (.putfield 96, 3) by decide +kernel) rfl (la_o hL (by decide) rfl) eμ2 ?_
  replace hL := hL.same (hm_pI_s eμ2)
  refine tr_aload_n (pc' := 6) (show decode cX10_orders 5 = .ok (.aload_n 0, 1) by decide +kernel) rfl rfl rfl ?_
  refine tr_iconst (pc' := 7) (v := (1 : Int32)) (show decode cX10_orders 6 = .ok (.iconst 1, 1) by decide +kernel) rfl (by decide) ?_
  obtain ⟨x3, μ4, ex3, h⟩ := hm_b2s h
  have cx3 := ok_X10_readsAs (fr := fr - 1) (ν := ν) (by omega) (1 : Int32) μ2 hL ex3
  refine tp_callV (pc' := 10) (As := [.int (1 : Int32)]) (fr1 := fr - 1) (ci := 10) okm_X10_readsAs lk_HandRingModel_261 (show decode cX10_orders 7 = .ok (.invokevirtual 261, 3) by decide +kernel) rfl rfl rfl (by decide) (la_o hL (by decide) rfl) rfl rfl (Nat.le_of_ble_eq_true rfl) (by omega) cx3 (st' := [.int x3]) rfl ?_
  replace hL := cx3.1
  rcases hm_is h with ⟨hc, h⟩ | ⟨hc, h⟩
  · refine tr_if_ne_f (tgt := 20) (pc' := 13) hc (show decode cX10_orders 10 = .ok (.ifCond .ne 10, 3) by decide +kernel) (by decide) rfl ?_
    refine tr_aload_n (pc' := 14) (show decode cX10_orders 13 = .ok (.aload_n 0, 1) by decide +kernel) rfl rfl rfl ?_
    refine tr_bipush (pc' := 16) (v := (-6 : Int32)) (show decode cX10_orders 14 = .ok (.bipush (-6), 2) by decide +kernel) rfl (by decide) ?_
    obtain ⟨x30, μ31, ex30, h⟩ := hm_b2s h
    have cx30 := ok_X10_refuses (fr := fr - 1) (ν := ν) (by omega) (-6 : Int32) μ4 hL ex30
    refine tp_callV (pc' := 19) (As := [.int (-6 : Int32)]) (fr1 := fr - 1) (ci := 10) okm_X10_refuses lk_HandRingModel_112 (show decode cX10_orders 16 = .ok (.invokevirtual 112, 3) by decide +kernel) rfl rfl rfl (by decide) (la_o hL (by decide) rfl) rfl rfl (Nat.le_of_ble_eq_true rfl) (by omega) cx30 (st' := [.int x30]) rfl ?_
    replace hL := cx30.1
    cases h
    exact tr_iret rfl (show decode cX10_orders 19 = .ok (.ireturn, 1) by decide +kernel) hL
  · refine tr_if_ne_t (tgt := 20) hc (show decode cX10_orders 10 = .ok (.ifCond .ne 10, 3) by decide +kernel) (by decide) ?_
    refine tr_aload_n (pc' := 21) (show decode cX10_orders 20 = .ok (.aload_n 0, 1) by decide +kernel) rfl rfl rfl ?_
    refine tr_iconst (pc' := 22) (v := (1 : Int32)) (show decode cX10_orders 21 = .ok (.iconst 1, 1) by decide +kernel) rfl (by decide) ?_
    obtain ⟨μ6, ex5, h⟩ := hm_bs h
    have cx5 := ok_X10_laysAside (fr := fr - 1) (ν := ν) (by omega) (1 : Int32) μ4 hL ex5
    refine tp_callV (pc' := 25) (As := [.int (1 : Int32)]) (fr1 := fr - 1) (ci := 10) okm_X10_laysAside lk_HandRingModel_469 (show decode cX10_orders 22 = .ok (.invokevirtual 469, 3) by decide +kernel) rfl rfl rfl (by decide) (la_o hL (by decide) rfl) rfl rfl (Nat.le_of_ble_eq_true rfl) (by omega) cx5 (st' := []) rfl ?_
    replace hL := cx5.1
    refine tr_iconst (pc' := 26) (v := (0 : Int32)) (show decode cX10_orders 25 = .ok (.iconst 0, 1) by decide +kernel) rfl (by decide) ?_
    refine tr_istore_n (pc' := 27) (lv' := [some (.ref 179), some (.int (0 : Int32)), none, none, none]) (show decode cX10_orders 26 = .ok (.istore_n 1, 1) by decide +kernel) rfl rfl (Nat.le_of_ble_eq_true rfl) rfl rfl ?_
    refine ok_X10_orders_L27 hfr _ ?_ _ (0 : Int32) μ6 hL h
    · intro μz9 hL h
      refine tr_aload_n (pc' := 53) (show decode cX10_orders 52 = .ok (.aload_n 0, 1) by decide +kernel) rfl rfl rfl ?_
      refine tr_getI (pc' := 56) fl_HandRingModel_11 (show decode cX10_orders 53 = .ok (.getfield 11, 3) by decide +kernel) rfl (la_o hL (by decide) rfl) ?_
      refine tr_istore_n (pc' := 57) (lv' := [some (.ref 179), some (.int (μz9.1 179 33)), none, none, none]) (show decode cX10_orders 56 = .ok (.istore_n 1, 1) by decide +kernel) rfl rfl (Nat.le_of_ble_eq_true rfl) rfl rfl ?_
      refine tr_aload_n (pc' := 58) (show decode cX10_orders 57 = .ok (.aload_n 0, 1) by decide +kernel) rfl rfl rfl ?_
      refine tr_bipush (pc' := 60) (v := (6 : Int32)) (show decode cX10_orders 58 = .ok (.bipush 6, 2) by decide +kernel) rfl (by decide) ?_
      obtain ⟨μ11, ex10, h⟩ := hm_bs h
      have cx10 := ok_X10_lays (fr := fr - 1) (ν := ν) (by omega) (6 : Int32) μz9 hL ex10
      refine tp_callV (pc' := 63) (As := [.int (6 : Int32)]) (fr1 := fr - 1) (ci := 10) okm_X10_lays lk_HandRingModel_265 (show decode cX10_orders 60 = .ok (.invokevirtual 265, 3) by decide +kernel) rfl rfl rfl (by decide) (la_o hL (by decide) rfl) rfl rfl (Nat.le_of_ble_eq_true rfl) (by omega) cx10 (st' := []) rfl ?_
      replace hL := cx10.1
      refine tr_aload_n (pc' := 64) (show decode cX10_orders 63 = .ok (.aload_n 0, 1) by decide +kernel) rfl rfl rfl ?_
      refine tr_iconst (pc' := 65) (v := (0 : Int32)) (show decode cX10_orders 64 = .ok (.iconst 0, 1) by decide +kernel) rfl (by decide) ?_
      obtain ⟨μ12, eμ12, h⟩ := hm_bs h
      refine tp_pI (pc' := 68) fl_HandRingModel_313 (show decode cX10_orders 65 = .ok (.putfield 313, 3) by decide +kernel) rfl (la_o hL (by decide) rfl) eμ12 ?_
      replace hL := hL.same (hm_pI_s eμ12)
      refine tr_aload_n (pc' := 69) (show decode cX10_orders 68 = .ok (.aload_n 0, 1) by decide +kernel) rfl rfl rfl ?_
      refine tr_iconst (pc' := 70) (v := (-1 : Int32)) (show decode cX10_orders 69 = .ok (.iconst (-1), 1) by decide +kernel) rfl (by decide) ?_
      obtain ⟨μ13, eμ13, h⟩ := hm_bs h
      refine tp_pI (pc' := 73) fl_HandRingModel_316 (show decode cX10_orders 70 = .ok (.putfield 316, 3) by decide +kernel) rfl (la_o hL (by decide) rfl) eμ13 ?_
      replace hL := hL.same (hm_pI_s eμ13)
      refine tr_aload_n (pc' := 74) (show decode cX10_orders 73 = .ok (.aload_n 0, 1) by decide +kernel) rfl rfl rfl ?_
      refine tr_sipush (pc' := 77) (v := (2400 : Int32)) (show decode cX10_orders 74 = .ok (.sipush 2400, 3) by decide +kernel) rfl (by decide) ?_
      obtain ⟨μ14, eμ14, h⟩ := hm_bs h
      refine tp_pI (pc' := 80) fl_HandRingModel_472 (show decode cX10_orders 77 = .ok (.putfield 472, 3) by decide +kernel) rfl (la_o hL (by decide) rfl) eμ14 ?_
      replace hL := hL.same (hm_pI_s eμ14)
      refine tr_aload_n (pc' := 81) (show decode cX10_orders 80 = .ok (.aload_n 0, 1) by decide +kernel) rfl rfl rfl ?_
      refine tr_getI (pc' := 84) fl_HandRingModel_472 (show decode cX10_orders 81 = .ok (.getfield 472, 3) by decide +kernel) rfl (la_o hL (by decide) rfl) ?_
      refine tr_aload_n (pc' := 85) (show decode cX10_orders 84 = .ok (.aload_n 0, 1) by decide +kernel) rfl rfl rfl ?_
      refine tr_getR (pc' := 88) fl_HandRingModel_24 (show decode cX10_orders 85 = .ok (.getfield 24, 3) by decide +kernel) rfl (la_o hL (by decide) rfl) (la_r hL 118 rfl) ?_
      refine tr_bipush (pc' := 90) (v := (64 : Int32)) (show decode cX10_orders 88 = .ok (.bipush 64, 2) by decide +kernel) rfl (by decide) ?_
      obtain ⟨x15, ex15, h⟩ := hm_bs h
      refine tp_ldI (pc' := 91) (show decode cX10_orders 90 = .ok (.iaload, 1) by decide +kernel) rfl (la_a hL (by decide) rfl) ex15 ?_
      refine tr_iadd (pc' := 92) (show decode cX10_orders 91 = .ok (.iadd, 1) by decide +kernel) rfl ?_
      refine tr_istore_n (pc' := 93) (lv' := [some (.ref 179), some (.int (μz9.1 179 33)), some (.int ((μ14.1 179 47) + x15)), none, none]) (show decode cX10_orders 92 = .ok (.istore_n 2, 1) by decide +kernel) rfl rfl (Nat.le_of_ble_eq_true rfl) rfl rfl ?_
      refine tr_iconst (pc' := 94) (v := (0 : Int32)) (show decode cX10_orders 93 = .ok (.iconst 0, 1) by decide +kernel) rfl (by decide) ?_
      refine tr_istore_n (pc' := 95) (lv' := [some (.ref 179), some (.int (μz9.1 179 33)), some (.int ((μ14.1 179 47) + x15)), some (.int (0 : Int32)), none]) (show decode cX10_orders 94 = .ok (.istore_n 3, 1) by decide +kernel) rfl rfl (Nat.le_of_ble_eq_true rfl) rfl rfl ?_
      refine ok_X10_orders_L95 hfr (μz9.1 179 33) ((μ14.1 179 47) + x15) _ ?_ _ (0 : Int32) μ14 hL h
      · intro μz27 hL h
        refine tr_aload_n (pc' := 174) (show decode cX10_orders 173 = .ok (.aload_n 0, 1) by decide +kernel) rfl rfl rfl ?_
        refine tr_aload_n (pc' := 175) (show decode cX10_orders 174 = .ok (.aload_n 0, 1) by decide +kernel) rfl rfl rfl ?_
        refine tr_getI (pc' := 178) fl_HandRingModel_313 (show decode cX10_orders 175 = .ok (.getfield 313, 3) by decide +kernel) rfl (la_o hL (by decide) rfl) ?_
        obtain ⟨x28, μ29, ex28, h⟩ := hm_b2s h
        have cx28 := ok_X10_good (fr := fr - 1) (ν := ν) (by omega) (μz27.1 179 27) μz27 hL ex28
        refine tp_callV (pc' := 181) (As := [.int (μz27.1 179 27)]) (fr1 := fr - 1) (ci := 10) okm_X10_good lk_HandRingModel_14 (show decode cX10_orders 178 = .ok (.invokevirtual 14, 3) by decide +kernel) rfl rfl rfl (by decide) (la_o hL (by decide) rfl) rfl rfl (Nat.le_of_ble_eq_true rfl) (by omega) cx28 (st' := [.int x28]) rfl ?_
        replace hL := cx28.1
        cases h
        exact tr_iret rfl (show decode cX10_orders 181 = .ok (.ireturn, 1) by decide +kernel) hL
def f_X10_draws (v1 : Int32) (μ : hm_M) : Option (Int32 × hm_M) :=
  Option.bind (hm_pI μ 179 55 (((((1103 : Int64) * ((μ.1 179 55).toInt64)) + (12345 : Int64)) - (((1103 : Int64) * ((μ.1 179 55).toInt64)) + (12345 : Int64)) / (1000003 : Int64) * (1000003 : Int64)).toInt32)) fun μ2 =>
  Option.bind (hm_rm2 (μ2.1 179 55) v1) fun x3 =>
  some (x3, μ2)
set_option maxRecDepth 100000 in
theorem ok_X10_draws {fr : Nat} (hfr : 0 ≤ fr) {ν : hm_N} {r : Int32} {μR : hm_M}  (v1 : Int32)  (μ : hm_M) (hL : hm_LL ν μ) (h : f_X10_draws v1 μ = some (r, μR)) : hm_CC (hm_LL ν) m_X10_draws fr 0 0 [.ref 179, .int v1] μ (some (.int r)) μR := by
  refine hm_enter (lv := [some (.ref 179), some (.int v1)]) (by decide) rfl (Nat.le_of_ble_eq_true rfl) ?_
  unfold f_X10_draws at h
  refine tr_aload_n (pc' := 1) (show decode cX10_draws 0 = .ok (.aload_n 0, 1) by decide +kernel) rfl rfl rfl ?_
  refine tr_ldc2 (pc' := 4) (v := (1103 : Int64)) (show decode cX10_draws 1 = .ok (.ldc2_w 506, 3) by decide +kernel) rfl kd_HandRingModel_506 ?_
  refine tr_aload_n (pc' := 5) (show decode cX10_draws 4 = .ok (.aload_n 0, 1) by decide +kernel) rfl rfl rfl ?_
  refine tr_getI (pc' := 8) fl_HandRingModel_508 (show decode cX10_draws 5 = .ok (.getfield 508, 3) by decide +kernel) rfl (la_o hL (by decide) rfl) ?_
  refine tr_i2l (pc' := 9) (show decode cX10_draws 8 = .ok (.i2l, 1) by decide +kernel) rfl ?_
  refine tr_lmul (pc' := 10) (show decode cX10_draws 9 = .ok (.lmul, 1) by decide +kernel) rfl ?_
  refine tr_ldc2 (pc' := 13) (v := (12345 : Int64)) (show decode cX10_draws 10 = .ok (.ldc2_w 511, 3) by decide +kernel) rfl kd_HandRingModel_511 ?_
  refine tr_ladd (pc' := 14) (show decode cX10_draws 13 = .ok (.ladd, 1) by decide +kernel) rfl ?_
  refine tr_ldc2 (pc' := 17) (v := (1000003 : Int64)) (show decode cX10_draws 14 = .ok (.ldc2_w 513, 3) by decide +kernel) rfl kd_HandRingModel_513 ?_
  refine tr_lrem (pc' := 18) (show decode cX10_draws 17 = .ok (.lrem, 1) by decide +kernel) rfl (by decide) ?_
  refine tr_l2i (pc' := 19) (show decode cX10_draws 18 = .ok (.l2i, 1) by decide +kernel) rfl ?_
  obtain ⟨μ2, eμ2, h⟩ := hm_bs h
  refine tp_pI (pc' := 22) fl_HandRingModel_508 (show decode cX10_draws 19 = .ok (.putfield 508, 3) by decide +kernel) rfl (la_o hL (by decide) rfl) eμ2 ?_
  replace hL := hL.same (hm_pI_s eμ2)
  refine tr_aload_n (pc' := 23) (show decode cX10_draws 22 = .ok (.aload_n 0, 1) by decide +kernel) rfl rfl rfl ?_
  refine tr_getI (pc' := 26) fl_HandRingModel_508 (show decode cX10_draws 23 = .ok (.getfield 508, 3) by decide +kernel) rfl (la_o hL (by decide) rfl) ?_
  refine tr_iload_n (pc' := 27) (show decode cX10_draws 26 = .ok (.iload_n 1, 1) by decide +kernel) rfl rfl rfl ?_
  obtain ⟨x3, ex3, h⟩ := hm_bs h
  refine tp_rm (pc' := 28) (show decode cX10_draws 27 = .ok (.irem, 1) by decide +kernel) rfl ex3 ?_
  cases h
  exact tr_iret rfl (show decode cX10_draws 28 = .ok (.ireturn, 1) by decide +kernel) hL
def f_X10_dayIsDrawn_J113 (μ1 : hm_M) : Option hm_M :=
  Option.bind (f_X10_dayPasses μ1) fun μ13 =>
  some μ13
theorem ok_X10_dayIsDrawn_J113 {fr : Nat} (hfr : 92 ≤ fr) {ν : hm_N} {μR : hm_M}       (μ1 : hm_M) (hL : hm_LL ν μ1) (h : f_X10_dayIsDrawn_J113 μ1 = some μR) : hm_T (hm_LL ν) m_X10_dayIsDrawn fr 0 0 none μR 113 [some (.ref 179), none, none, none, none] [] μ1 := by
  unfold f_X10_dayIsDrawn_J113 at h
  refine tr_aload_n (pc' := 114) (show decode cX10_dayIsDrawn 113 = .ok (.aload_n 0, 1) by decide +kernel) rfl rfl rfl ?_
  obtain ⟨μ13, ex12, h⟩ := hm_bs h
  have cx12 := ok_X10_dayPasses (fr := fr - 1) (ν := ν) (by omega) μ1 hL ex12
  refine tp_callV (pc' := 117) (As := []) (fr1 := fr - 1) (ci := 10) okm_X10_dayPasses lk_HandRingModel_374 (show decode cX10_dayIsDrawn 114 = .ok (.invokevirtual 374, 3) by decide +kernel) rfl rfl rfl (by decide) (la_o hL (by decide) rfl) rfl rfl (Nat.le_of_ble_eq_true rfl) (by omega) cx12 (st' := []) rfl ?_
  replace hL := cx12.1
  cases h
  exact tr_vret rfl (show decode cX10_dayIsDrawn 117 = .ok (.return_, 1) by decide +kernel) hL
def f_X10_dayIsDrawn_J87 (y1 : Int32) (y3 : Int32) (y4 : Int32) (μ1 : hm_M) : Option hm_M :=
  (if y3 = (2 : Int32) then
  (if y4 = (-1 : Int32) then
  f_X10_dayIsDrawn_J113 μ1
  else
  Option.bind (hm_sd μ1 181 5665 ((0 : Int32) + y1) y4) fun μ14 =>
  hm_b2 (f_X10_loosesAll μ14) fun x15 μ16 =>
  f_X10_dayIsDrawn_J113 μ16)
  else
  f_X10_dayIsDrawn_J113 μ1)
theorem ok_X10_dayIsDrawn_J87 {fr : Nat} (hfr : 92 ≤ fr) {ν : hm_N} {μR : hm_M}      (y1 : Int32) (y3 : Int32) (y4 : Int32) (μ1 : hm_M) (hL : hm_LL ν μ1) (h : f_X10_dayIsDrawn_J87 y1 y3 y4 μ1 = some μR) : hm_T (hm_LL ν) m_X10_dayIsDrawn fr 0 0 none μR 87 [some (.ref 179), some (.int y1), none, some (.int y3), some (.int y4)] [] μ1 := by
  unfold f_X10_dayIsDrawn_J87 at h
  refine tr_iload_n (pc' := 88) (show decode cX10_dayIsDrawn 87 = .ok (.iload_n 3, 1) by decide +kernel) rfl rfl rfl ?_
  refine tr_iconst (pc' := 89) (v := (2 : Int32)) (show decode cX10_dayIsDrawn 88 = .ok (.iconst 2, 1) by decide +kernel) rfl (by decide) ?_
  rcases hm_is h with ⟨hc, h⟩ | ⟨hc, h⟩
  · refine tr_icmp_ne_f (tgt := 113) (pc' := 92) hc (show decode cX10_dayIsDrawn 89 = .ok (.if_icmp .ne 24, 3) by decide +kernel) (by decide) rfl ?_
    refine tr_iload (pc' := 94) (show decode cX10_dayIsDrawn 92 = .ok (.iload 4, 2) by decide +kernel) rfl rfl ?_
    refine tr_iconst (pc' := 95) (v := (-1 : Int32)) (show decode cX10_dayIsDrawn 94 = .ok (.iconst (-1), 1) by decide +kernel) rfl (by decide) ?_
    rcases hm_is h with ⟨hc, h⟩ | ⟨hc, h⟩
    · refine tr_icmp_eq_t (tgt := 113) hc (show decode cX10_dayIsDrawn 95 = .ok (.if_icmp .eq 18, 3) by decide +kernel) (by decide) ?_
      refine hm_fgt [true, false, false, false, false] (lv' := [some (.ref 179), none, none, none, none]) rfl ?_
      exact ok_X10_dayIsDrawn_J113 hfr μ1 hL h
    · refine tr_icmp_eq_f (tgt := 113) (pc' := 98) hc (show decode cX10_dayIsDrawn 95 = .ok (.if_icmp .eq 18, 3) by decide +kernel) (by decide) rfl ?_
      refine tr_aload_n (pc' := 99) (show decode cX10_dayIsDrawn 98 = .ok (.aload_n 0, 1) by decide +kernel) rfl rfl rfl ?_
      refine tr_getR (pc' := 102) fl_HandRingModel_24 (show decode cX10_dayIsDrawn 99 = .ok (.getfield 24, 3) by decide +kernel) rfl (la_o hL (by decide) rfl) (la_r hL 118 rfl) ?_
      refine tr_iconst (pc' := 103) (v := (0 : Int32)) (show decode cX10_dayIsDrawn 102 = .ok (.iconst 0, 1) by decide +kernel) rfl (by decide) ?_
      refine tr_iload_n (pc' := 104) (show decode cX10_dayIsDrawn 103 = .ok (.iload_n 1, 1) by decide +kernel) rfl rfl rfl ?_
      refine tr_iadd (pc' := 105) (show decode cX10_dayIsDrawn 104 = .ok (.iadd, 1) by decide +kernel) rfl ?_
      refine tr_iload (pc' := 107) (show decode cX10_dayIsDrawn 105 = .ok (.iload 4, 2) by decide +kernel) rfl rfl ?_
      obtain ⟨μ14, eμ14, h⟩ := hm_bs h
      refine tp_sdI (pc' := 108) (show decode cX10_dayIsDrawn 107 = .ok (.iastore, 1) by decide +kernel) rfl (la_a hL (by decide) rfl) eμ14 ?_
      replace hL := hL.same (hm_sd_s eμ14)
      refine tr_aload_n (pc' := 109) (show decode cX10_dayIsDrawn 108 = .ok (.aload_n 0, 1) by decide +kernel) rfl rfl rfl ?_
      obtain ⟨x15, μ16, ex15, h⟩ := hm_b2s h
      have cx15 := ok_X10_loosesAll (fr := fr - 1) (ν := ν) (by omega) μ14 hL ex15
      refine tp_callV (pc' := 112) (As := []) (fr1 := fr - 1) (ci := 10) okm_X10_loosesAll lk_HandRingModel_362 (show decode cX10_dayIsDrawn 109 = .ok (.invokevirtual 362, 3) by decide +kernel) rfl rfl rfl (by decide) (la_o hL (by decide) rfl) rfl rfl (Nat.le_of_ble_eq_true rfl) (by omega) cx15 (st' := [.int x15]) rfl ?_
      replace hL := cx15.1
      refine tr_pop (pc' := 113) (show decode cX10_dayIsDrawn 112 = .ok (.pop, 1) by decide +kernel) rfl rfl ?_
      refine hm_fgt [true, false, false, false, false] (lv' := [some (.ref 179), none, none, none, none]) rfl ?_
      exact ok_X10_dayIsDrawn_J113 hfr μ16 hL h
  · refine tr_icmp_ne_t (tgt := 113) hc (show decode cX10_dayIsDrawn 89 = .ok (.if_icmp .ne 24, 3) by decide +kernel) (by decide) ?_
    refine hm_fgt [true, false, false, false, false] (lv' := [some (.ref 179), none, none, none, none]) rfl ?_
    exact ok_X10_dayIsDrawn_J113 hfr μ1 hL h
def f_X10_dayIsDrawn_J81 (y1 : Int32) (y2 : Int32) (y3 : Int32) (y4 : Int32) (μ1 : hm_M) : Option hm_M :=
  Option.bind (f_X10_changesHold y1 y2 μ1) fun μ20 =>
  f_X10_dayIsDrawn_J87 y1 y3 y4 μ20
theorem ok_X10_dayIsDrawn_J81 {fr : Nat} (hfr : 92 ≤ fr) {ν : hm_N} {μR : hm_M}      (y1 : Int32) (y2 : Int32) (y3 : Int32) (y4 : Int32) (μ1 : hm_M) (hL : hm_LL ν μ1) (h : f_X10_dayIsDrawn_J81 y1 y2 y3 y4 μ1 = some μR) : hm_T (hm_LL ν) m_X10_dayIsDrawn fr 0 0 none μR 81 [some (.ref 179), some (.int y1), some (.int y2), some (.int y3), some (.int y4)] [] μ1 := by
  unfold f_X10_dayIsDrawn_J81 at h
  refine tr_aload_n (pc' := 82) (show decode cX10_dayIsDrawn 81 = .ok (.aload_n 0, 1) by decide +kernel) rfl rfl rfl ?_
  refine tr_iload_n (pc' := 83) (show decode cX10_dayIsDrawn 82 = .ok (.iload_n 1, 1) by decide +kernel) rfl rfl rfl ?_
  refine tr_iload_n (pc' := 84) (show decode cX10_dayIsDrawn 83 = .ok (.iload_n 2, 1) by decide +kernel) rfl rfl rfl ?_
  obtain ⟨μ20, ex19, h⟩ := hm_bs h
  have cx19 := ok_X10_changesHold (fr := fr - 1) (ν := ν) (by omega) y1 y2 μ1 hL ex19
  refine tp_callV (pc' := 87) (As := [.int y1, .int y2]) (fr1 := fr - 1) (ci := 10) okm_X10_changesHold lk_HandRingModel_359 (show decode cX10_dayIsDrawn 84 = .ok (.invokevirtual 359, 3) by decide +kernel) rfl rfl rfl (by decide) (la_o hL (by decide) rfl) rfl rfl (Nat.le_of_ble_eq_true rfl) (by omega) cx19 (st' := []) rfl ?_
  replace hL := cx19.1
  refine hm_fgt [true, true, false, true, true] (lv' := [some (.ref 179), some (.int y1), none, some (.int y3), some (.int y4)]) rfl ?_
  exact ok_X10_dayIsDrawn_J87 hfr y1 y3 y4 μ20 hL h
def f_X10_dayIsDrawn_J55 (y1 : Int32) (y2 : Int32) (y3 : Int32) (y4 : Int32) (μ1 : hm_M) : Option hm_M :=
  (if y3 = (1 : Int32) then
  (if y1 = y2 then
  f_X10_dayIsDrawn_J87 y1 y3 y4 μ1
  else
  Option.bind (hm_ld μ1 181 5665 ((16 : Int32) + y1)) fun x17 =>
  Option.bind (f_X10_isIn x17 y2) fun x18 =>
  (if x18 = 0 then
  f_X10_dayIsDrawn_J87 y1 y3 y4 μ1
  else
  f_X10_dayIsDrawn_J81 y1 y2 y3 y4 μ1))
  else
  f_X10_dayIsDrawn_J87 y1 y3 y4 μ1)
theorem ok_X10_dayIsDrawn_J55 {fr : Nat} (hfr : 92 ≤ fr) {ν : hm_N} {μR : hm_M}      (y1 : Int32) (y2 : Int32) (y3 : Int32) (y4 : Int32) (μ1 : hm_M) (hL : hm_LL ν μ1) (h : f_X10_dayIsDrawn_J55 y1 y2 y3 y4 μ1 = some μR) : hm_T (hm_LL ν) m_X10_dayIsDrawn fr 0 0 none μR 55 [some (.ref 179), some (.int y1), some (.int y2), some (.int y3), some (.int y4)] [] μ1 := by
  unfold f_X10_dayIsDrawn_J55 at h
  refine tr_iload_n (pc' := 56) (show decode cX10_dayIsDrawn 55 = .ok (.iload_n 3, 1) by decide +kernel) rfl rfl rfl ?_
  refine tr_iconst (pc' := 57) (v := (1 : Int32)) (show decode cX10_dayIsDrawn 56 = .ok (.iconst 1, 1) by decide +kernel) rfl (by decide) ?_
  rcases hm_is h with ⟨hc, h⟩ | ⟨hc, h⟩
  · refine tr_icmp_ne_f (tgt := 87) (pc' := 60) hc (show decode cX10_dayIsDrawn 57 = .ok (.if_icmp .ne 30, 3) by decide +kernel) (by decide) rfl ?_
    refine tr_iload_n (pc' := 61) (show decode cX10_dayIsDrawn 60 = .ok (.iload_n 1, 1) by decide +kernel) rfl rfl rfl ?_
    refine tr_iload_n (pc' := 62) (show decode cX10_dayIsDrawn 61 = .ok (.iload_n 2, 1) by decide +kernel) rfl rfl rfl ?_
    rcases hm_is h with ⟨hc, h⟩ | ⟨hc, h⟩
    · refine tr_icmp_eq_t (tgt := 87) hc (show decode cX10_dayIsDrawn 62 = .ok (.if_icmp .eq 25, 3) by decide +kernel) (by decide) ?_
      refine hm_fgt [true, true, false, true, true] (lv' := [some (.ref 179), some (.int y1), none, some (.int y3), some (.int y4)]) rfl ?_
      exact ok_X10_dayIsDrawn_J87 hfr y1 y3 y4 μ1 hL h
    · refine tr_icmp_eq_f (tgt := 87) (pc' := 65) hc (show decode cX10_dayIsDrawn 62 = .ok (.if_icmp .eq 25, 3) by decide +kernel) (by decide) rfl ?_
      refine tr_aload_n (pc' := 66) (show decode cX10_dayIsDrawn 65 = .ok (.aload_n 0, 1) by decide +kernel) rfl rfl rfl ?_
      refine tr_getR (pc' := 69) fl_HandRingModel_24 (show decode cX10_dayIsDrawn 66 = .ok (.getfield 24, 3) by decide +kernel) rfl (la_o hL (by decide) rfl) (la_r hL 118 rfl) ?_
      refine tr_bipush (pc' := 71) (v := (16 : Int32)) (show decode cX10_dayIsDrawn 69 = .ok (.bipush 16, 2) by decide +kernel) rfl (by decide) ?_
      refine tr_iload_n (pc' := 72) (show decode cX10_dayIsDrawn 71 = .ok (.iload_n 1, 1) by decide +kernel) rfl rfl rfl ?_
      refine tr_iadd (pc' := 73) (show decode cX10_dayIsDrawn 72 = .ok (.iadd, 1) by decide +kernel) rfl ?_
      obtain ⟨x17, ex17, h⟩ := hm_bs h
      refine tp_ldI (pc' := 74) (show decode cX10_dayIsDrawn 73 = .ok (.iaload, 1) by decide +kernel) rfl (la_a hL (by decide) rfl) ex17 ?_
      refine tr_iload_n (pc' := 75) (show decode cX10_dayIsDrawn 74 = .ok (.iload_n 2, 1) by decide +kernel) rfl rfl rfl ?_
      obtain ⟨x18, ex18, h⟩ := hm_bs h
      have cx18 := ok_X10_isIn (fr := fr - 1) (ν := ν) (by omega) x17 y2 μ1 hL ex18
      refine tp_callS (pc' := 78) (As := [.int x17, .int y2]) (fr1 := fr - 1) okm_X10_isIn lk_HandRingModel_356 (show decode cX10_dayIsDrawn 75 = .ok (.invokestatic 356, 3) by decide +kernel) rfl rfl rfl (Nat.le_of_ble_eq_true rfl) (by omega) cx18 (st' := [.int x18]) rfl ?_
      rcases hm_is h with ⟨hc, h⟩ | ⟨hc, h⟩
      · refine tr_if_eq_t (tgt := 87) hc (show decode cX10_dayIsDrawn 78 = .ok (.ifCond .eq 9, 3) by decide +kernel) (by decide) ?_
        refine hm_fgt [true, true, false, true, true] (lv' := [some (.ref 179), some (.int y1), none, some (.int y3), some (.int y4)]) rfl ?_
        exact ok_X10_dayIsDrawn_J87 hfr y1 y3 y4 μ1 hL h
      · refine tr_if_eq_f (tgt := 87) (pc' := 81) hc (show decode cX10_dayIsDrawn 78 = .ok (.ifCond .eq 9, 3) by decide +kernel) (by decide) rfl ?_
        exact ok_X10_dayIsDrawn_J81 hfr y1 y2 y3 y4 μ1 hL h
  · refine tr_icmp_ne_t (tgt := 87) hc (show decode cX10_dayIsDrawn 57 = .ok (.if_icmp .ne 30, 3) by decide +kernel) (by decide) ?_
    refine hm_fgt [true, true, false, true, true] (lv' := [some (.ref 179), some (.int y1), none, some (.int y3), some (.int y4)]) rfl ?_
    exact ok_X10_dayIsDrawn_J87 hfr y1 y3 y4 μ1 hL h
def f_X10_dayIsDrawn (μ : hm_M) : Option hm_M :=
  Option.bind (f_X10_many μ) fun x2 =>
  hm_b2 (f_X10_draws x2 μ) fun x3 μ4 =>
  Option.bind (f_X10_many μ4) fun x5 =>
  hm_b2 (f_X10_draws x5 μ4) fun x6 μ7 =>
  hm_b2 (f_X10_draws (3 : Int32) μ7) fun x8 μ9 =>
  Option.bind (hm_ld μ9 181 5665 ((0 : Int32) + x3)) fun x10 =>
  Option.bind (f_X10_cellAt x10 ((x6 - x6 / (4 : Int32) * (4 : Int32)) + (1 : Int32))) fun x11 =>
  (if x8 = 0 then
  hm_b2 (f_X10_canTake x3 x6 μ9) fun x21 μ22 =>
  (if x21 = 0 then
  f_X10_dayIsDrawn_J55 x3 x6 x8 x11 μ22
  else
  f_X10_dayIsDrawn_J81 x3 x6 x8 x11 μ22)
  else
  f_X10_dayIsDrawn_J55 x3 x6 x8 x11 μ9)
set_option maxRecDepth 100000 in
theorem ok_X10_dayIsDrawn {fr : Nat} (hfr : 92 ≤ fr) {ν : hm_N} {μR : hm_M}    (μ : hm_M) (hL : hm_LL ν μ) (h : f_X10_dayIsDrawn μ = some μR) : hm_CC (hm_LL ν) m_X10_dayIsDrawn fr 0 0 [.ref 179] μ none μR := by
  refine hm_enter (lv := [some (.ref 179), none, none, none, none]) (by decide) rfl (Nat.le_of_ble_eq_true rfl) ?_
  unfold f_X10_dayIsDrawn at h
  refine tr_aload_n (pc' := 1) (show decode cX10_dayIsDrawn 0 = .ok (.aload_n 0, 1) by decide +kernel) rfl rfl rfl ?_
  refine tr_aload_n (pc' := 2) (show decode cX10_dayIsDrawn 1 = .ok (.aload_n 0, 1) by decide +kernel) rfl rfl rfl ?_
  obtain ⟨x2, ex2, h⟩ := hm_bs h
  have cx2 := ok_X10_many (fr := fr - 1) (ν := ν) (by omega) μ hL ex2
  refine tp_callV (pc' := 5) (As := []) (fr1 := fr - 1) (ci := 10) okm_X10_many lk_HandRingModel_118 (show decode cX10_dayIsDrawn 2 = .ok (.invokevirtual 118, 3) by decide +kernel) rfl rfl rfl (by decide) (la_o hL (by decide) rfl) rfl rfl (Nat.le_of_ble_eq_true rfl) (by omega) cx2 (st' := [.int x2, .ref 179]) rfl ?_
  obtain ⟨x3, μ4, ex3, h⟩ := hm_b2s h
  have cx3 := ok_X10_draws (fr := fr - 1) (ν := ν) (by omega) x2 μ hL ex3
  refine tp_callV (pc' := 8) (As := [.int x2]) (fr1 := fr - 1) (ci := 10) okm_X10_draws lk_HandRingModel_515 (show decode cX10_dayIsDrawn 5 = .ok (.invokevirtual 515, 3) by decide +kernel) rfl rfl rfl (by decide) (la_o hL (by decide) rfl) rfl rfl (Nat.le_of_ble_eq_true rfl) (by omega) cx3 (st' := [.int x3]) rfl ?_
  replace hL := cx3.1
  refine tr_istore_n (pc' := 9) (lv' := [some (.ref 179), some (.int x3), none, none, none]) (show decode cX10_dayIsDrawn 8 = .ok (.istore_n 1, 1) by decide +kernel) rfl rfl (Nat.le_of_ble_eq_true rfl) rfl rfl ?_
  refine tr_aload_n (pc' := 10) (show decode cX10_dayIsDrawn 9 = .ok (.aload_n 0, 1) by decide +kernel) rfl rfl rfl ?_
  refine tr_aload_n (pc' := 11) (show decode cX10_dayIsDrawn 10 = .ok (.aload_n 0, 1) by decide +kernel) rfl rfl rfl ?_
  obtain ⟨x5, ex5, h⟩ := hm_bs h
  have cx5 := ok_X10_many (fr := fr - 1) (ν := ν) (by omega) μ4 hL ex5
  refine tp_callV (pc' := 14) (As := []) (fr1 := fr - 1) (ci := 10) okm_X10_many lk_HandRingModel_118 (show decode cX10_dayIsDrawn 11 = .ok (.invokevirtual 118, 3) by decide +kernel) rfl rfl rfl (by decide) (la_o hL (by decide) rfl) rfl rfl (Nat.le_of_ble_eq_true rfl) (by omega) cx5 (st' := [.int x5, .ref 179]) rfl ?_
  obtain ⟨x6, μ7, ex6, h⟩ := hm_b2s h
  have cx6 := ok_X10_draws (fr := fr - 1) (ν := ν) (by omega) x5 μ4 hL ex6
  refine tp_callV (pc' := 17) (As := [.int x5]) (fr1 := fr - 1) (ci := 10) okm_X10_draws lk_HandRingModel_515 (show decode cX10_dayIsDrawn 14 = .ok (.invokevirtual 515, 3) by decide +kernel) rfl rfl rfl (by decide) (la_o hL (by decide) rfl) rfl rfl (Nat.le_of_ble_eq_true rfl) (by omega) cx6 (st' := [.int x6]) rfl ?_
  replace hL := cx6.1
  refine tr_istore_n (pc' := 18) (lv' := [some (.ref 179), some (.int x3), some (.int x6), none, none]) (show decode cX10_dayIsDrawn 17 = .ok (.istore_n 2, 1) by decide +kernel) rfl rfl (Nat.le_of_ble_eq_true rfl) rfl rfl ?_
  refine tr_aload_n (pc' := 19) (show decode cX10_dayIsDrawn 18 = .ok (.aload_n 0, 1) by decide +kernel) rfl rfl rfl ?_
  refine tr_iconst (pc' := 20) (v := (3 : Int32)) (show decode cX10_dayIsDrawn 19 = .ok (.iconst 3, 1) by decide +kernel) rfl (by decide) ?_
  obtain ⟨x8, μ9, ex8, h⟩ := hm_b2s h
  have cx8 := ok_X10_draws (fr := fr - 1) (ν := ν) (by omega) (3 : Int32) μ7 hL ex8
  refine tp_callV (pc' := 23) (As := [.int (3 : Int32)]) (fr1 := fr - 1) (ci := 10) okm_X10_draws lk_HandRingModel_515 (show decode cX10_dayIsDrawn 20 = .ok (.invokevirtual 515, 3) by decide +kernel) rfl rfl rfl (by decide) (la_o hL (by decide) rfl) rfl rfl (Nat.le_of_ble_eq_true rfl) (by omega) cx8 (st' := [.int x8]) rfl ?_
  replace hL := cx8.1
  refine tr_istore_n (pc' := 24) (lv' := [some (.ref 179), some (.int x3), some (.int x6), some (.int x8), none]) (show decode cX10_dayIsDrawn 23 = .ok (.istore_n 3, 1) by decide +kernel) rfl rfl (Nat.le_of_ble_eq_true rfl) rfl rfl ?_
  refine tr_aload_n (pc' := 25) (show decode cX10_dayIsDrawn 24 = .ok (.aload_n 0, 1) by decide +kernel) rfl rfl rfl ?_
  refine tr_getR (pc' := 28) fl_HandRingModel_24 (show decode cX10_dayIsDrawn 25 = .ok (.getfield 24, 3) by decide +kernel) rfl (la_o hL (by decide) rfl) (la_r hL 118 rfl) ?_
  refine tr_iconst (pc' := 29) (v := (0 : Int32)) (show decode cX10_dayIsDrawn 28 = .ok (.iconst 0, 1) by decide +kernel) rfl (by decide) ?_
  refine tr_iload_n (pc' := 30) (show decode cX10_dayIsDrawn 29 = .ok (.iload_n 1, 1) by decide +kernel) rfl rfl rfl ?_
  refine tr_iadd (pc' := 31) (show decode cX10_dayIsDrawn 30 = .ok (.iadd, 1) by decide +kernel) rfl ?_
  obtain ⟨x10, ex10, h⟩ := hm_bs h
  refine tp_ldI (pc' := 32) (show decode cX10_dayIsDrawn 31 = .ok (.iaload, 1) by decide +kernel) rfl (la_a hL (by decide) rfl) ex10 ?_
  refine tr_iload_n (pc' := 33) (show decode cX10_dayIsDrawn 32 = .ok (.iload_n 2, 1) by decide +kernel) rfl rfl rfl ?_
  refine tr_iconst (pc' := 34) (v := (4 : Int32)) (show decode cX10_dayIsDrawn 33 = .ok (.iconst 4, 1) by decide +kernel) rfl (by decide) ?_
  refine tr_irem (pc' := 35) (show decode cX10_dayIsDrawn 34 = .ok (.irem, 1) by decide +kernel) rfl (by decide) ?_
  refine tr_iconst (pc' := 36) (v := (1 : Int32)) (show decode cX10_dayIsDrawn 35 = .ok (.iconst 1, 1) by decide +kernel) rfl (by decide) ?_
  refine tr_iadd (pc' := 37) (show decode cX10_dayIsDrawn 36 = .ok (.iadd, 1) by decide +kernel) rfl ?_
  obtain ⟨x11, ex11, h⟩ := hm_bs h
  have cx11 := ok_X10_cellAt (fr := fr - 1) (ν := ν) (by omega) x10 ((x6 - x6 / (4 : Int32) * (4 : Int32)) + (1 : Int32)) μ9 hL ex11
  refine tp_callS (pc' := 40) (As := [.int x10, .int ((x6 - x6 / (4 : Int32) * (4 : Int32)) + (1 : Int32))]) (fr1 := fr - 1) okm_X10_cellAt lk_HandRingModel_371 (show decode cX10_dayIsDrawn 37 = .ok (.invokestatic 371, 3) by decide +kernel) rfl rfl rfl (Nat.le_of_ble_eq_true rfl) (by omega) cx11 (st' := [.int x11]) rfl ?_
  refine tr_istore (pc' := 42) (lv' := [some (.ref 179), some (.int x3), some (.int x6), some (.int x8), some (.int x11)]) (show decode cX10_dayIsDrawn 40 = .ok (.istore 4, 2) by decide +kernel) rfl (Nat.le_of_ble_eq_true rfl) rfl rfl ?_
  refine tr_iload_n (pc' := 43) (show decode cX10_dayIsDrawn 42 = .ok (.iload_n 3, 1) by decide +kernel) rfl rfl rfl ?_
  rcases hm_is h with ⟨hc, h⟩ | ⟨hc, h⟩
  · refine tr_if_ne_f (tgt := 55) (pc' := 46) hc (show decode cX10_dayIsDrawn 43 = .ok (.ifCond .ne 12, 3) by decide +kernel) (by decide) rfl ?_
    refine tr_aload_n (pc' := 47) (show decode cX10_dayIsDrawn 46 = .ok (.aload_n 0, 1) by decide +kernel) rfl rfl rfl ?_
    refine tr_iload_n (pc' := 48) (show decode cX10_dayIsDrawn 47 = .ok (.iload_n 1, 1) by decide +kernel) rfl rfl rfl ?_
    refine tr_iload_n (pc' := 49) (show decode cX10_dayIsDrawn 48 = .ok (.iload_n 2, 1) by decide +kernel) rfl rfl rfl ?_
    obtain ⟨x21, μ22, ex21, h⟩ := hm_b2s h
    have cx21 := ok_X10_canTake (fr := fr - 1) (ν := ν) (by omega) x3 x6 μ9 hL ex21
    refine tp_callV (pc' := 52) (As := [.int x3, .int x6]) (fr1 := fr - 1) (ci := 10) okm_X10_canTake lk_HandRingModel_365 (show decode cX10_dayIsDrawn 49 = .ok (.invokevirtual 365, 3) by decide +kernel) rfl rfl rfl (by decide) (la_o hL (by decide) rfl) rfl rfl (Nat.le_of_ble_eq_true rfl) (by omega) cx21 (st' := [.int x21]) rfl ?_
    replace hL := cx21.1
    rcases hm_is h with ⟨hc, h⟩ | ⟨hc, h⟩
    · refine tr_if_ne_f (tgt := 81) (pc' := 55) hc (show decode cX10_dayIsDrawn 52 = .ok (.ifCond .ne 29, 3) by decide +kernel) (by decide) rfl ?_
      exact ok_X10_dayIsDrawn_J55 hfr x3 x6 x8 x11 μ22 hL h
    · refine tr_if_ne_t (tgt := 81) hc (show decode cX10_dayIsDrawn 52 = .ok (.ifCond .ne 29, 3) by decide +kernel) (by decide) ?_
      exact ok_X10_dayIsDrawn_J81 hfr x3 x6 x8 x11 μ22 hL h
  · refine tr_if_ne_t (tgt := 55) hc (show decode cX10_dayIsDrawn 43 = .ok (.ifCond .ne 12, 3) by decide +kernel) (by decide) ?_
    exact ok_X10_dayIsDrawn_J55 hfr x3 x6 x8 x11 μ9 hL h
def f_X10_days_J20 (v1 : Int32) (v2 : Int32) (μ1 : hm_M) : Option (Int32 × hm_M) :=
  hm_b2 (f_X10_refuses (-1 : Int32) μ1) fun x3 μ4 =>
  some (x3, μ4)
theorem ok_X10_days_J20 {fr : Nat} (hfr : 93 ≤ fr) {ν : hm_N} {r : Int32} {μR : hm_M}  (v1 : Int32) (v2 : Int32)     (μ1 : hm_M) (hL : hm_LL ν μ1) (h : f_X10_days_J20 v1 v2 μ1 = some (r, μR)) : hm_T (hm_LL ν) m_X10_days fr 0 0 (some (.int r)) μR 20 [some (.ref 179), none, none, none, none] [] μ1 := by
  unfold f_X10_days_J20 at h
  refine tr_aload_n (pc' := 21) (show decode cX10_days 20 = .ok (.aload_n 0, 1) by decide +kernel) rfl rfl rfl ?_
  refine tr_iconst (pc' := 22) (v := (-1 : Int32)) (show decode cX10_days 21 = .ok (.iconst (-1), 1) by decide +kernel) rfl (by decide) ?_
  obtain ⟨x3, μ4, ex3, h⟩ := hm_b2s h
  have cx3 := ok_X10_refuses (fr := fr - 1) (ν := ν) (by omega) (-1 : Int32) μ1 hL ex3
  refine tp_callV (pc' := 25) (As := [.int (-1 : Int32)]) (fr1 := fr - 1) (ci := 10) okm_X10_refuses lk_HandRingModel_112 (show decode cX10_days 22 = .ok (.invokevirtual 112, 3) by decide +kernel) rfl rfl rfl (by decide) (la_o hL (by decide) rfl) rfl rfl (Nat.le_of_ble_eq_true rfl) (by omega) cx3 (st' := [.int x3]) rfl ?_
  replace hL := cx3.1
  cases h
  exact tr_iret rfl (show decode cX10_days 25 = .ok (.ireturn, 1) by decide +kernel) hL
def f_X10_days_L60 (v1 : Int32) (v2 : Int32) (e88 : hm_M → Option (Int32 × hm_M)) : Nat → Int32 → hm_M → Option (Int32 × hm_M)
  | 0, _, _ => none
  | n + 1, y3, μ1 => (if v2 ≤ y3 then
  e88 μ1
  else
  Option.bind (hm_ld μ1 181 5665 (24 : Int32)) fun x12 =>
  (if (999 : Int32) ≤ x12 then
  e88 μ1
  else
  Option.bind (f_X10_dayIsDrawn μ1) fun μ14 =>
  (f_X10_days_L60 v1 v2 e88 n) (y3 + (1 : Int32)) μ14))
theorem ok_X10_days_L60 {fr : Nat} (hfr : 93 ≤ fr) {ν : hm_N} {r : Int32} {μR : hm_M}  (v1 : Int32) (v2 : Int32) (e88 : hm_M → Option (Int32 × hm_M))  (he88 : ∀   (μ1 : hm_M), hm_LL ν μ1 → e88 μ1 = some (r, μR) → hm_T (hm_LL ν) m_X10_days fr 0 0 (some (.int r)) μR 88 [some (.ref 179), none, none, none, none] [] μ1)  : ∀ (n : Nat) (y3 : Int32)  (μ1 : hm_M), hm_LL ν μ1 → f_X10_days_L60 v1 v2 e88 n y3 μ1 = some (r, μR) → hm_T (hm_LL ν) m_X10_days fr 0 0 (some (.int r)) μR 60 [some (.ref 179), none, some (.int v2), some (.int y3), none] [] μ1 := by
  intro n
  induction n with
  | zero =>
    intro y3 μ1 hL h
    unfold f_X10_days_L60 at h
    cases h
  | succ n ih =>
    intro y3 μ1 hL h
    unfold f_X10_days_L60 at h
    refine tr_iload_n (pc' := 61) (show decode cX10_days 60 = .ok (.iload_n 3, 1) by decide +kernel) rfl rfl rfl ?_
    refine tr_iload_n (pc' := 62) (show decode cX10_days 61 = .ok (.iload_n 2, 1) by decide +kernel) rfl rfl rfl ?_
    rcases hm_is h with ⟨hc, h⟩ | ⟨hc, h⟩
    · refine tr_icmp_ge_t (tgt := 88) hc (show decode cX10_days 62 = .ok (.if_icmp .ge 26, 3) by decide +kernel) (by decide) ?_
      refine hm_fgt [true, false, false, false, false] (lv' := [some (.ref 179), none, none, none, none]) rfl ?_
      exact he88 μ1 hL h
    · refine tr_icmp_ge_f (tgt := 88) (pc' := 65) hc (show decode cX10_days 62 = .ok (.if_icmp .ge 26, 3) by decide +kernel) (by decide) rfl ?_
      refine tr_aload_n (pc' := 66) (show decode cX10_days 65 = .ok (.aload_n 0, 1) by decide +kernel) rfl rfl rfl ?_
      refine tr_getR (pc' := 69) fl_HandRingModel_24 (show decode cX10_days 66 = .ok (.getfield 24, 3) by decide +kernel) rfl (la_o hL (by decide) rfl) (la_r hL 118 rfl) ?_
      refine tr_bipush (pc' := 71) (v := (24 : Int32)) (show decode cX10_days 69 = .ok (.bipush 24, 2) by decide +kernel) rfl (by decide) ?_
      obtain ⟨x12, ex12, h⟩ := hm_bs h
      refine tp_ldI (pc' := 72) (show decode cX10_days 71 = .ok (.iaload, 1) by decide +kernel) rfl (la_a hL (by decide) rfl) ex12 ?_
      refine tr_sipush (pc' := 75) (v := (999 : Int32)) (show decode cX10_days 72 = .ok (.sipush 999, 3) by decide +kernel) rfl (by decide) ?_
      rcases hm_is h with ⟨hc, h⟩ | ⟨hc, h⟩
      · refine tr_icmp_ge_t (tgt := 88) hc (show decode cX10_days 75 = .ok (.if_icmp .ge 13, 3) by decide +kernel) (by decide) ?_
        refine hm_fgt [true, false, false, false, false] (lv' := [some (.ref 179), none, none, none, none]) rfl ?_
        exact he88 μ1 hL h
      · refine tr_icmp_ge_f (tgt := 88) (pc' := 78) hc (show decode cX10_days 75 = .ok (.if_icmp .ge 13, 3) by decide +kernel) (by decide) rfl ?_
        refine tr_aload_n (pc' := 79) (show decode cX10_days 78 = .ok (.aload_n 0, 1) by decide +kernel) rfl rfl rfl ?_
        obtain ⟨μ14, ex13, h⟩ := hm_bs h
        have cx13 := ok_X10_dayIsDrawn (fr := fr - 1) (ν := ν) (by omega) μ1 hL ex13
        refine tp_callV (pc' := 82) (As := []) (fr1 := fr - 1) (ci := 10) okm_X10_dayIsDrawn lk_HandRingModel_518 (show decode cX10_days 79 = .ok (.invokevirtual 518, 3) by decide +kernel) rfl rfl rfl (by decide) (la_o hL (by decide) rfl) rfl rfl (Nat.le_of_ble_eq_true rfl) (by omega) cx13 (st' := []) rfl ?_
        replace hL := cx13.1
        refine tr_iinc (pc' := 85) (v := y3 + (1 : Int32)) (lv' := [some (.ref 179), none, some (.int v2), some (.int (y3 + (1 : Int32))), none]) (show decode cX10_days 82 = .ok (.iinc 3 1, 3) by decide +kernel) rfl rfl rfl (Nat.le_of_ble_eq_true rfl) rfl rfl ?_
        refine tr_goto (tgt := 60) (show decode cX10_days 85 = .ok (.goto (-25), 3) by decide +kernel) rfl ?_
        exact ih (y3 + (1 : Int32)) μ14 hL h
def f_X10_days_L96 (v1 : Int32) (v2 : Int32) (w96_3 : Int32) (e123 : hm_M → Option (Int32 × hm_M)) : Nat → Int32 → hm_M → Option (Int32 × hm_M)
  | 0, _, _ => none
  | n + 1, y4, μ1 => (if (25 : Int32) ≤ y4 then
  e123 μ1
  else
  Option.bind (hm_ld μ1 181 5665 y4) fun x17 =>
  Option.bind (hm_sd μ1 204 25 y4 x17) fun μ18 =>
  (f_X10_days_L96 v1 v2 w96_3 e123 n) (y4 + (1 : Int32)) μ18)
theorem ok_X10_days_L96 {fr : Nat} (hfr : 93 ≤ fr) {ν : hm_N} {r : Int32} {μR : hm_M}  (v1 : Int32) (v2 : Int32) (w96_3 : Int32) (e123 : hm_M → Option (Int32 × hm_M))  (he123 : ∀   (μ1 : hm_M), hm_LL ν μ1 → e123 μ1 = some (r, μR) → hm_T (hm_LL ν) m_X10_days fr 0 0 (some (.int r)) μR 123 [some (.ref 179), none, none, some (.int w96_3), none] [] μ1)  : ∀ (n : Nat) (y4 : Int32)  (μ1 : hm_M), hm_LL ν μ1 → f_X10_days_L96 v1 v2 w96_3 e123 n y4 μ1 = some (r, μR) → hm_T (hm_LL ν) m_X10_days fr 0 0 (some (.int r)) μR 96 [some (.ref 179), none, none, some (.int w96_3), some (.int y4)] [] μ1 := by
  intro n
  induction n with
  | zero =>
    intro y4 μ1 hL h
    unfold f_X10_days_L96 at h
    cases h
  | succ n ih =>
    intro y4 μ1 hL h
    unfold f_X10_days_L96 at h
    refine tr_iload (pc' := 98) (show decode cX10_days 96 = .ok (.iload 4, 2) by decide +kernel) rfl rfl ?_
    refine tr_bipush (pc' := 100) (v := (25 : Int32)) (show decode cX10_days 98 = .ok (.bipush 25, 2) by decide +kernel) rfl (by decide) ?_
    rcases hm_is h with ⟨hc, h⟩ | ⟨hc, h⟩
    · refine tr_icmp_ge_t (tgt := 123) hc (show decode cX10_days 100 = .ok (.if_icmp .ge 23, 3) by decide +kernel) (by decide) ?_
      refine hm_fgt [true, false, false, true, false] (lv' := [some (.ref 179), none, none, some (.int w96_3), none]) rfl ?_
      exact he123 μ1 hL h
    · refine tr_icmp_ge_f (tgt := 123) (pc' := 103) hc (show decode cX10_days 100 = .ok (.if_icmp .ge 23, 3) by decide +kernel) (by decide) rfl ?_
      refine tr_aload_n (pc' := 104) (show decode cX10_days 103 = .ok (.aload_n 0, 1) by decide +kernel) rfl rfl rfl ?_
      refine tr_getR (pc' := 107) fl_HandRingModel_102 (show decode cX10_days 104 = .ok (.getfield 102, 3) by decide +kernel) rfl (la_o hL (by decide) rfl) (la_r hL 141 rfl) ?_
      refine tr_iload (pc' := 109) (show decode cX10_days 107 = .ok (.iload 4, 2) by decide +kernel) rfl rfl ?_
      refine tr_aload_n (pc' := 110) (show decode cX10_days 109 = .ok (.aload_n 0, 1) by decide +kernel) rfl rfl rfl ?_
      refine tr_getR (pc' := 113) fl_HandRingModel_24 (show decode cX10_days 110 = .ok (.getfield 24, 3) by decide +kernel) rfl (la_o hL (by decide) rfl) (la_r hL 118 rfl) ?_
      refine tr_iload (pc' := 115) (show decode cX10_days 113 = .ok (.iload 4, 2) by decide +kernel) rfl rfl ?_
      obtain ⟨x17, ex17, h⟩ := hm_bs h
      refine tp_ldI (pc' := 116) (show decode cX10_days 115 = .ok (.iaload, 1) by decide +kernel) rfl (la_a hL (by decide) rfl) ex17 ?_
      obtain ⟨μ18, eμ18, h⟩ := hm_bs h
      refine tp_sdI (pc' := 117) (show decode cX10_days 116 = .ok (.iastore, 1) by decide +kernel) rfl (la_a hL (by decide) rfl) eμ18 ?_
      replace hL := hL.same (hm_sd_s eμ18)
      refine tr_iinc (pc' := 120) (v := y4 + (1 : Int32)) (lv' := [some (.ref 179), none, none, some (.int w96_3), some (.int (y4 + (1 : Int32)))]) (show decode cX10_days 117 = .ok (.iinc 4 1, 3) by decide +kernel) rfl rfl rfl (Nat.le_of_ble_eq_true rfl) rfl rfl ?_
      refine tr_goto (tgt := 96) (show decode cX10_days 120 = .ok (.goto (-24), 3) by decide +kernel) rfl ?_
      exact ih (y4 + (1 : Int32)) μ18 hL h
def f_X10_days_J88 (v1 : Int32) (v2 : Int32) (μ1 : hm_M) : Option (Int32 × hm_M) :=
  Option.bind (f_X10_holdMany μ1) fun x16 =>
  f_X10_days_L96 v1 v2 x16 (fun μz19 => Option.bind (f_X10_takesBack (0 : Int32) μz19) fun μ21 =>
  hm_b2 (f_X10_good x16 μ21) fun x22 μ23 =>
  some (x22, μ23)) hm_fu (0 : Int32) μ1
theorem ok_X10_days_J88 {fr : Nat} (hfr : 93 ≤ fr) {ν : hm_N} {r : Int32} {μR : hm_M}  (v1 : Int32) (v2 : Int32)     (μ1 : hm_M) (hL : hm_LL ν μ1) (h : f_X10_days_J88 v1 v2 μ1 = some (r, μR)) : hm_T (hm_LL ν) m_X10_days fr 0 0 (some (.int r)) μR 88 [some (.ref 179), none, none, none, none] [] μ1 := by
  unfold f_X10_days_J88 at h
  refine tr_aload_n (pc' := 89) (show decode cX10_days 88 = .ok (.aload_n 0, 1) by decide +kernel) rfl rfl rfl ?_
  obtain ⟨x16, ex16, h⟩ := hm_bs h
  have cx16 := ok_X10_holdMany (fr := fr - 1) (ν := ν) (by omega) μ1 hL ex16
  refine tp_callV (pc' := 92) (As := []) (fr1 := fr - 1) (ci := 10) okm_X10_holdMany lk_HandRingModel_319 (show decode cX10_days 89 = .ok (.invokevirtual 319, 3) by decide +kernel) rfl rfl rfl (by decide) (la_o hL (by decide) rfl) rfl rfl (Nat.le_of_ble_eq_true rfl) (by omega) cx16 (st' := [.int x16]) rfl ?_
  refine tr_istore_n (pc' := 93) (lv' := [some (.ref 179), none, none, some (.int x16), none]) (show decode cX10_days 92 = .ok (.istore_n 3, 1) by decide +kernel) rfl rfl (Nat.le_of_ble_eq_true rfl) rfl rfl ?_
  refine tr_iconst (pc' := 94) (v := (0 : Int32)) (show decode cX10_days 93 = .ok (.iconst 0, 1) by decide +kernel) rfl (by decide) ?_
  refine tr_istore (pc' := 96) (lv' := [some (.ref 179), none, none, some (.int x16), some (.int (0 : Int32))]) (show decode cX10_days 94 = .ok (.istore 4, 2) by decide +kernel) rfl (Nat.le_of_ble_eq_true rfl) rfl rfl ?_
  refine ok_X10_days_L96 hfr _ _ x16 _ ?_ _ (0 : Int32) μ1 hL h
  · intro μz19 hL h
    refine tr_aload_n (pc' := 124) (show decode cX10_days 123 = .ok (.aload_n 0, 1) by decide +kernel) rfl rfl rfl ?_
    refine tr_iconst (pc' := 125) (v := (0 : Int32)) (show decode cX10_days 124 = .ok (.iconst 0, 1) by decide +kernel) rfl (by decide) ?_
    obtain ⟨μ21, ex20, h⟩ := hm_bs h
    have cx20 := ok_X10_takesBack (fr := fr - 1) (ν := ν) (by omega) (0 : Int32) μz19 hL ex20
    refine tp_callV (pc' := 128) (As := [.int (0 : Int32)]) (fr1 := fr - 1) (ci := 10) okm_X10_takesBack lk_HandRingModel_478 (show decode cX10_days 125 = .ok (.invokevirtual 478, 3) by decide +kernel) rfl rfl rfl (by decide) (la_o hL (by decide) rfl) rfl rfl (Nat.le_of_ble_eq_true rfl) (by omega) cx20 (st' := []) rfl ?_
    replace hL := cx20.1
    refine tr_aload_n (pc' := 129) (show decode cX10_days 128 = .ok (.aload_n 0, 1) by decide +kernel) rfl rfl rfl ?_
    refine tr_iload_n (pc' := 130) (show decode cX10_days 129 = .ok (.iload_n 3, 1) by decide +kernel) rfl rfl rfl ?_
    obtain ⟨x22, μ23, ex22, h⟩ := hm_b2s h
    have cx22 := ok_X10_good (fr := fr - 1) (ν := ν) (by omega) x16 μ21 hL ex22
    refine tp_callV (pc' := 133) (As := [.int x16]) (fr1 := fr - 1) (ci := 10) okm_X10_good lk_HandRingModel_14 (show decode cX10_days 130 = .ok (.invokevirtual 14, 3) by decide +kernel) rfl rfl rfl (by decide) (la_o hL (by decide) rfl) rfl rfl (Nat.le_of_ble_eq_true rfl) (by omega) cx22 (st' := [.int x22]) rfl ?_
    replace hL := cx22.1
    cases h
    exact tr_iret rfl (show decode cX10_days 133 = .ok (.ireturn, 1) by decide +kernel) hL
def f_X10_days (v1 : Int32) (v2 : Int32) (μ : hm_M) : Option (Int32 × hm_M) :=
  Option.bind (f_X10_lies v1 (0 : Int32) (1000000 : Int32)) fun x2 =>
  (if x2 = 0 then
  f_X10_days_J20 v1 v2 μ
  else
  Option.bind (f_X10_lies v2 (1 : Int32) (60 : Int32)) fun x5 =>
  (if x5 = 0 then
  f_X10_days_J20 v1 v2 μ
  else
  Option.bind (f_X10_many μ) fun x6 =>
  (if x6 = 0 then
  hm_b2 (f_X10_refuses (-3 : Int32) μ) fun x24 μ25 =>
  some (x24, μ25)
  else
  Option.bind (hm_pI μ 179 55 v1) fun μ7 =>
  Option.bind (f_X10_many μ7) fun x8 =>
  Option.bind (hm_pI μ7 179 54 x8) fun μ9 =>
  Option.bind (f_X10_laysAside (0 : Int32) μ9) fun μ11 =>
  f_X10_days_L60 v1 v2 (fun μz15 => f_X10_days_J88 v1 v2 μz15) hm_fu (0 : Int32) μ11)))
set_option maxRecDepth 100000 in
theorem ok_X10_days {fr : Nat} (hfr : 93 ≤ fr) {ν : hm_N} {r : Int32} {μR : hm_M}  (v1 : Int32) (v2 : Int32)  (μ : hm_M) (hL : hm_LL ν μ) (h : f_X10_days v1 v2 μ = some (r, μR)) : hm_CC (hm_LL ν) m_X10_days fr 0 0 [.ref 179, .int v1, .int v2] μ (some (.int r)) μR := by
  refine hm_enter (lv := [some (.ref 179), some (.int v1), some (.int v2), none, none]) (by decide) rfl (Nat.le_of_ble_eq_true rfl) ?_
  unfold f_X10_days at h
  refine tr_iload_n (pc' := 1) (show decode cX10_days 0 = .ok (.iload_n 1, 1) by decide +kernel) rfl rfl rfl ?_
  refine tr_iconst (pc' := 2) (v := (0 : Int32)) (show decode cX10_days 1 = .ok (.iconst 0, 1) by decide +kernel) rfl (by decide) ?_
  refine tr_ldc (pc' := 4) (v := (1000000 : Int32)) (show decode cX10_days 2 = .ok (.ldc 180, 2) by decide +kernel) rfl kc_HandRingModel_180 ?_
  obtain ⟨x2, ex2, h⟩ := hm_bs h
  have cx2 := ok_X10_lies (fr := fr - 1) (ν := ν) (by omega) v1 (0 : Int32) (1000000 : Int32) μ hL ex2
  refine tp_callS (pc' := 7) (As := [.int v1, .int (0 : Int32), .int (1000000 : Int32)]) (fr1 := fr - 1) okm_X10_lies lk_HandRingModel_108 (show decode cX10_days 4 = .ok (.invokestatic 108, 3) by decide +kernel) rfl rfl rfl (Nat.le_of_ble_eq_true rfl) (by omega) cx2 (st' := [.int x2]) rfl ?_
  rcases hm_is h with ⟨hc, h⟩ | ⟨hc, h⟩
  · refine tr_if_eq_t (tgt := 20) hc (show decode cX10_days 7 = .ok (.ifCond .eq 13, 3) by decide +kernel) (by decide) ?_
    refine hm_fgt [true, false, false, false, false] (lv' := [some (.ref 179), none, none, none, none]) rfl ?_
    exact ok_X10_days_J20 hfr _ _ μ hL h
  · refine tr_if_eq_f (tgt := 20) (pc' := 10) hc (show decode cX10_days 7 = .ok (.ifCond .eq 13, 3) by decide +kernel) (by decide) rfl ?_
    refine tr_iload_n (pc' := 11) (show decode cX10_days 10 = .ok (.iload_n 2, 1) by decide +kernel) rfl rfl rfl ?_
    refine tr_iconst (pc' := 12) (v := (1 : Int32)) (show decode cX10_days 11 = .ok (.iconst 1, 1) by decide +kernel) rfl (by decide) ?_
    refine tr_bipush (pc' := 14) (v := (60 : Int32)) (show decode cX10_days 12 = .ok (.bipush 60, 2) by decide +kernel) rfl (by decide) ?_
    obtain ⟨x5, ex5, h⟩ := hm_bs h
    have cx5 := ok_X10_lies (fr := fr - 1) (ν := ν) (by omega) v2 (1 : Int32) (60 : Int32) μ hL ex5
    refine tp_callS (pc' := 17) (As := [.int v2, .int (1 : Int32), .int (60 : Int32)]) (fr1 := fr - 1) okm_X10_lies lk_HandRingModel_108 (show decode cX10_days 14 = .ok (.invokestatic 108, 3) by decide +kernel) rfl rfl rfl (Nat.le_of_ble_eq_true rfl) (by omega) cx5 (st' := [.int x5]) rfl ?_
    rcases hm_is h with ⟨hc, h⟩ | ⟨hc, h⟩
    · refine tr_if_ne_f (tgt := 26) (pc' := 20) hc (show decode cX10_days 17 = .ok (.ifCond .ne 9, 3) by decide +kernel) (by decide) rfl ?_
      refine hm_fgt [true, false, false, false, false] (lv' := [some (.ref 179), none, none, none, none]) rfl ?_
      exact ok_X10_days_J20 hfr _ _ μ hL h
    · refine tr_if_ne_t (tgt := 26) hc (show decode cX10_days 17 = .ok (.ifCond .ne 9, 3) by decide +kernel) (by decide) ?_
      refine tr_aload_n (pc' := 27) (show decode cX10_days 26 = .ok (.aload_n 0, 1) by decide +kernel) rfl rfl rfl ?_
      obtain ⟨x6, ex6, h⟩ := hm_bs h
      have cx6 := ok_X10_many (fr := fr - 1) (ν := ν) (by omega) μ hL ex6
      refine tp_callV (pc' := 30) (As := []) (fr1 := fr - 1) (ci := 10) okm_X10_many lk_HandRingModel_118 (show decode cX10_days 27 = .ok (.invokevirtual 118, 3) by decide +kernel) rfl rfl rfl (by decide) (la_o hL (by decide) rfl) rfl rfl (Nat.le_of_ble_eq_true rfl) (by omega) cx6 (st' := [.int x6]) rfl ?_
      rcases hm_is h with ⟨hc, h⟩ | ⟨hc, h⟩
      · refine tr_if_ne_f (tgt := 40) (pc' := 33) hc (show decode cX10_days 30 = .ok (.ifCond .ne 10, 3) by decide +kernel) (by decide) rfl ?_
        refine tr_aload_n (pc' := 34) (show decode cX10_days 33 = .ok (.aload_n 0, 1) by decide +kernel) rfl rfl rfl ?_
        refine tr_bipush (pc' := 36) (v := (-3 : Int32)) (show decode cX10_days 34 = .ok (.bipush (-3), 2) by decide +kernel) rfl (by decide) ?_
        obtain ⟨x24, μ25, ex24, h⟩ := hm_b2s h
        have cx24 := ok_X10_refuses (fr := fr - 1) (ν := ν) (by omega) (-3 : Int32) μ hL ex24
        refine tp_callV (pc' := 39) (As := [.int (-3 : Int32)]) (fr1 := fr - 1) (ci := 10) okm_X10_refuses lk_HandRingModel_112 (show decode cX10_days 36 = .ok (.invokevirtual 112, 3) by decide +kernel) rfl rfl rfl (by decide) (la_o hL (by decide) rfl) rfl rfl (Nat.le_of_ble_eq_true rfl) (by omega) cx24 (st' := [.int x24]) rfl ?_
        replace hL := cx24.1
        cases h
        exact tr_iret rfl (show decode cX10_days 39 = .ok (.ireturn, 1) by decide +kernel) hL
      · refine tr_if_ne_t (tgt := 40) hc (show decode cX10_days 30 = .ok (.ifCond .ne 10, 3) by decide +kernel) (by decide) ?_
        refine tr_aload_n (pc' := 41) (show decode cX10_days 40 = .ok (.aload_n 0, 1) by decide +kernel) rfl rfl rfl ?_
        refine tr_iload_n (pc' := 42) (show decode cX10_days 41 = .ok (.iload_n 1, 1) by decide +kernel) rfl rfl rfl ?_
        obtain ⟨μ7, eμ7, h⟩ := hm_bs h
        refine tp_pI (pc' := 45) fl_HandRingModel_508 (show decode cX10_days 42 = .ok (.putfield 508, 3) by decide +kernel) rfl (la_o hL (by decide) rfl) eμ7 ?_
        replace hL := hL.same (hm_pI_s eμ7)
        refine tr_aload_n (pc' := 46) (show decode cX10_days 45 = .ok (.aload_n 0, 1) by decide +kernel) rfl rfl rfl ?_
        refine tr_aload_n (pc' := 47) (show decode cX10_days 46 = .ok (.aload_n 0, 1) by decide +kernel) rfl rfl rfl ?_
        obtain ⟨x8, ex8, h⟩ := hm_bs h
        have cx8 := ok_X10_many (fr := fr - 1) (ν := ν) (by omega) μ7 hL ex8
        refine tp_callV (pc' := 50) (As := []) (fr1 := fr - 1) (ci := 10) okm_X10_many lk_HandRingModel_118 (show decode cX10_days 47 = .ok (.invokevirtual 118, 3) by decide +kernel) rfl rfl rfl (by decide) (la_o hL (by decide) rfl) rfl rfl (Nat.le_of_ble_eq_true rfl) (by omega) cx8 (st' := [.int x8, .ref 179]) rfl ?_
        obtain ⟨μ9, eμ9, h⟩ := hm_bs h
        refine tp_pI (pc' := 53) fl_HandRingModel_105 (show decode cX10_days 50 = .ok (.putfield 105, 3) by decide +kernel) rfl (la_o hL (by decide) rfl) eμ9 ?_
        replace hL := hL.same (hm_pI_s eμ9)
        refine tr_aload_n (pc' := 54) (show decode cX10_days 53 = .ok (.aload_n 0, 1) by decide +kernel) rfl rfl rfl ?_
        refine tr_iconst (pc' := 55) (v := (0 : Int32)) (show decode cX10_days 54 = .ok (.iconst 0, 1) by decide +kernel) rfl (by decide) ?_
        obtain ⟨μ11, ex10, h⟩ := hm_bs h
        have cx10 := ok_X10_laysAside (fr := fr - 1) (ν := ν) (by omega) (0 : Int32) μ9 hL ex10
        refine tp_callV (pc' := 58) (As := [.int (0 : Int32)]) (fr1 := fr - 1) (ci := 10) okm_X10_laysAside lk_HandRingModel_469 (show decode cX10_days 55 = .ok (.invokevirtual 469, 3) by decide +kernel) rfl rfl rfl (by decide) (la_o hL (by decide) rfl) rfl rfl (Nat.le_of_ble_eq_true rfl) (by omega) cx10 (st' := []) rfl ?_
        replace hL := cx10.1
        refine tr_iconst (pc' := 59) (v := (0 : Int32)) (show decode cX10_days 58 = .ok (.iconst 0, 1) by decide +kernel) rfl (by decide) ?_
        refine tr_istore_n (pc' := 60) (lv' := [some (.ref 179), some (.int v1), some (.int v2), some (.int (0 : Int32)), none]) (show decode cX10_days 59 = .ok (.istore_n 3, 1) by decide +kernel) rfl rfl (Nat.le_of_ble_eq_true rfl) rfl rfl ?_
        refine hm_fgt [true, false, true, true, false] (lv' := [some (.ref 179), none, some (.int v2), some (.int (0 : Int32)), none]) rfl ?_
        refine ok_X10_days_L60 hfr _ _ _ ?_ _ (0 : Int32) μ11 hL h
        · intro μz15 hL h
          exact ok_X10_days_J88 hfr _ _ μz15 hL h
def f_X10_drawn (v1 : Int32) (v2 : Int32) (μ : hm_M) : Option Int32 :=
  Option.bind (f_X10_lies v1 (0 : Int32) ((μ.1 179 54) - (1 : Int32))) fun x2 =>
  (if x2 = 0 then
  some (-1 : Int32)
  else
  Option.bind (f_X10_lies v2 (0 : Int32) (2 : Int32)) fun x3 =>
  (if x3 = 0 then
  some (-1 : Int32)
  else
  (if v2 = 0 then
  Option.bind (hm_ld μ 204 25 ((0 : Int32) + v1)) fun x6 =>
  some x6
  else
  (if v2 = (1 : Int32) then
  Option.bind (hm_ld μ 204 25 ((8 : Int32) + v1)) fun x5 =>
  some x5
  else
  Option.bind (hm_ld μ 204 25 ((16 : Int32) + v1)) fun x4 =>
  some x4))))
set_option maxRecDepth 100000 in
theorem ok_X10_drawn {fr : Nat} (hfr : 1 ≤ fr) {ν : hm_N} {r : Int32}  (v1 : Int32) (v2 : Int32)  (μ : hm_M) (hL : hm_LL ν μ) (h : f_X10_drawn v1 v2 μ = some r) : hm_CC (hm_LL ν) m_X10_drawn fr 0 0 [.ref 179, .int v1, .int v2] μ (some (.int r)) μ := by
  refine hm_enter (lv := [some (.ref 179), some (.int v1), some (.int v2)]) (by decide) rfl (Nat.le_of_ble_eq_true rfl) ?_
  unfold f_X10_drawn at h
  refine tr_iload_n (pc' := 1) (show decode cX10_drawn 0 = .ok (.iload_n 1, 1) by decide +kernel) rfl rfl rfl ?_
  refine tr_iconst (pc' := 2) (v := (0 : Int32)) (show decode cX10_drawn 1 = .ok (.iconst 0, 1) by decide +kernel) rfl (by decide) ?_
  refine tr_aload_n (pc' := 3) (show decode cX10_drawn 2 = .ok (.aload_n 0, 1) by decide +kernel) rfl rfl rfl ?_
  refine tr_getI (pc' := 6) fl_HandRingModel_105 (show decode cX10_drawn 3 = .ok (.getfield 105, 3) by decide +kernel) rfl (la_o hL (by decide) rfl) ?_
  refine tr_iconst (pc' := 7) (v := (1 : Int32)) (show decode cX10_drawn 6 = .ok (.iconst 1, 1) by decide +kernel) rfl (by decide) ?_
  refine tr_isub (pc' := 8) (show decode cX10_drawn 7 = .ok (.isub, 1) by decide +kernel) rfl ?_
  obtain ⟨x2, ex2, h⟩ := hm_bs h
  have cx2 := ok_X10_lies (fr := fr - 1) (ν := ν) (by omega) v1 (0 : Int32) ((μ.1 179 54) - (1 : Int32)) μ hL ex2
  refine tp_callS (pc' := 11) (As := [.int v1, .int (0 : Int32), .int ((μ.1 179 54) - (1 : Int32))]) (fr1 := fr - 1) okm_X10_lies lk_HandRingModel_108 (show decode cX10_drawn 8 = .ok (.invokestatic 108, 3) by decide +kernel) rfl rfl rfl (Nat.le_of_ble_eq_true rfl) (by omega) cx2 (st' := [.int x2]) rfl ?_
  rcases hm_is h with ⟨hc, h⟩ | ⟨hc, h⟩
  · refine tr_if_eq_t (tgt := 23) hc (show decode cX10_drawn 11 = .ok (.ifCond .eq 12, 3) by decide +kernel) (by decide) ?_
    refine tr_iconst (pc' := 24) (v := (-1 : Int32)) (show decode cX10_drawn 23 = .ok (.iconst (-1), 1) by decide +kernel) rfl (by decide) ?_
    cases h
    exact tr_iret rfl (show decode cX10_drawn 24 = .ok (.ireturn, 1) by decide +kernel) hL
  · refine tr_if_eq_f (tgt := 23) (pc' := 14) hc (show decode cX10_drawn 11 = .ok (.ifCond .eq 12, 3) by decide +kernel) (by decide) rfl ?_
    refine tr_iload_n (pc' := 15) (show decode cX10_drawn 14 = .ok (.iload_n 2, 1) by decide +kernel) rfl rfl rfl ?_
    refine tr_iconst (pc' := 16) (v := (0 : Int32)) (show decode cX10_drawn 15 = .ok (.iconst 0, 1) by decide +kernel) rfl (by decide) ?_
    refine tr_iconst (pc' := 17) (v := (2 : Int32)) (show decode cX10_drawn 16 = .ok (.iconst 2, 1) by decide +kernel) rfl (by decide) ?_
    obtain ⟨x3, ex3, h⟩ := hm_bs h
    have cx3 := ok_X10_lies (fr := fr - 1) (ν := ν) (by omega) v2 (0 : Int32) (2 : Int32) μ hL ex3
    refine tp_callS (pc' := 20) (As := [.int v2, .int (0 : Int32), .int (2 : Int32)]) (fr1 := fr - 1) okm_X10_lies lk_HandRingModel_108 (show decode cX10_drawn 17 = .ok (.invokestatic 108, 3) by decide +kernel) rfl rfl rfl (Nat.le_of_ble_eq_true rfl) (by omega) cx3 (st' := [.int x3]) rfl ?_
    rcases hm_is h with ⟨hc, h⟩ | ⟨hc, h⟩
    · refine tr_if_ne_f (tgt := 25) (pc' := 23) hc (show decode cX10_drawn 20 = .ok (.ifCond .ne 5, 3) by decide +kernel) (by decide) rfl ?_
      refine tr_iconst (pc' := 24) (v := (-1 : Int32)) (show decode cX10_drawn 23 = .ok (.iconst (-1), 1) by decide +kernel) rfl (by decide) ?_
      cases h
      exact tr_iret rfl (show decode cX10_drawn 24 = .ok (.ireturn, 1) by decide +kernel) hL
    · refine tr_if_ne_t (tgt := 25) hc (show decode cX10_drawn 20 = .ok (.ifCond .ne 5, 3) by decide +kernel) (by decide) ?_
      refine tr_aload_n (pc' := 26) (show decode cX10_drawn 25 = .ok (.aload_n 0, 1) by decide +kernel) rfl rfl rfl ?_
      refine tr_getR (pc' := 29) fl_HandRingModel_102 (show decode cX10_drawn 26 = .ok (.getfield 102, 3) by decide +kernel) rfl (la_o hL (by decide) rfl) (la_r hL 141 rfl) ?_
      refine tr_iload_n (pc' := 30) (show decode cX10_drawn 29 = .ok (.iload_n 2, 1) by decide +kernel) rfl rfl rfl ?_
      rcases hm_is h with ⟨hc, h⟩ | ⟨hc, h⟩
      · refine tr_if_ne_f (tgt := 37) (pc' := 33) hc (show decode cX10_drawn 30 = .ok (.ifCond .ne 7, 3) by decide +kernel) (by decide) rfl ?_
        refine tr_iconst (pc' := 34) (v := (0 : Int32)) (show decode cX10_drawn 33 = .ok (.iconst 0, 1) by decide +kernel) rfl (by decide) ?_
        refine tr_goto (tgt := 49) (show decode cX10_drawn 34 = .ok (.goto 15, 3) by decide +kernel) rfl ?_
        refine tr_iload_n (pc' := 50) (show decode cX10_drawn 49 = .ok (.iload_n 1, 1) by decide +kernel) rfl rfl rfl ?_
        refine tr_iadd (pc' := 51) (show decode cX10_drawn 50 = .ok (.iadd, 1) by decide +kernel) rfl ?_
        obtain ⟨x6, ex6, h⟩ := hm_bs h
        refine tp_ldI (pc' := 52) (show decode cX10_drawn 51 = .ok (.iaload, 1) by decide +kernel) rfl (la_a hL (by decide) rfl) ex6 ?_
        cases h
        exact tr_iret rfl (show decode cX10_drawn 52 = .ok (.ireturn, 1) by decide +kernel) hL
      · refine tr_if_ne_t (tgt := 37) hc (show decode cX10_drawn 30 = .ok (.ifCond .ne 7, 3) by decide +kernel) (by decide) ?_
        refine tr_iload_n (pc' := 38) (show decode cX10_drawn 37 = .ok (.iload_n 2, 1) by decide +kernel) rfl rfl rfl ?_
        refine tr_iconst (pc' := 39) (v := (1 : Int32)) (show decode cX10_drawn 38 = .ok (.iconst 1, 1) by decide +kernel) rfl (by decide) ?_
        rcases hm_is h with ⟨hc, h⟩ | ⟨hc, h⟩
        · refine tr_icmp_ne_f (tgt := 47) (pc' := 42) hc (show decode cX10_drawn 39 = .ok (.if_icmp .ne 8, 3) by decide +kernel) (by decide) rfl ?_
          refine tr_bipush (pc' := 44) (v := (8 : Int32)) (show decode cX10_drawn 42 = .ok (.bipush 8, 2) by decide +kernel) rfl (by decide) ?_
          refine tr_goto (tgt := 49) (show decode cX10_drawn 44 = .ok (.goto 5, 3) by decide +kernel) rfl ?_
          refine tr_iload_n (pc' := 50) (show decode cX10_drawn 49 = .ok (.iload_n 1, 1) by decide +kernel) rfl rfl rfl ?_
          refine tr_iadd (pc' := 51) (show decode cX10_drawn 50 = .ok (.iadd, 1) by decide +kernel) rfl ?_
          obtain ⟨x5, ex5, h⟩ := hm_bs h
          refine tp_ldI (pc' := 52) (show decode cX10_drawn 51 = .ok (.iaload, 1) by decide +kernel) rfl (la_a hL (by decide) rfl) ex5 ?_
          cases h
          exact tr_iret rfl (show decode cX10_drawn 52 = .ok (.ireturn, 1) by decide +kernel) hL
        · refine tr_icmp_ne_t (tgt := 47) hc (show decode cX10_drawn 39 = .ok (.if_icmp .ne 8, 3) by decide +kernel) (by decide) ?_
          refine tr_bipush (pc' := 49) (v := (16 : Int32)) (show decode cX10_drawn 47 = .ok (.bipush 16, 2) by decide +kernel) rfl (by decide) ?_
          refine tr_iload_n (pc' := 50) (show decode cX10_drawn 49 = .ok (.iload_n 1, 1) by decide +kernel) rfl rfl rfl ?_
          refine tr_iadd (pc' := 51) (show decode cX10_drawn 50 = .ok (.iadd, 1) by decide +kernel) rfl ?_
          obtain ⟨x4, ex4, h⟩ := hm_bs h
          refine tp_ldI (pc' := 52) (show decode cX10_drawn 51 = .ok (.iaload, 1) by decide +kernel) rfl (la_a hL (by decide) rfl) ex4 ?_
          cases h
          exact tr_iret rfl (show decode cX10_drawn 52 = .ok (.ireturn, 1) by decide +kernel) hL
def f_X10_count (v1 : Int32) (μ : hm_M) : Option Int32 :=
  (if v1 < (0 : Int32) ∨ (15 : Int32) < v1 then
  some (-1 : Int32)
  else
  (if v1 = (0 : Int32) then
  Option.bind (f_X10_many μ) fun x19 =>
  some x19
  else
  (if v1 = (1 : Int32) then
  Option.bind (f_X10_holdMany μ) fun x18 =>
  some x18
  else
  (if v1 = (2 : Int32) then
  Option.bind (hm_ld μ 181 5665 (55 : Int32)) fun x17 =>
  some x17
  else
  (if v1 = (3 : Int32) then
  Option.bind (hm_ld μ 181 5665 (56 : Int32)) fun x16 =>
  some x16
  else
  (if v1 = (4 : Int32) then
  some (μ.1 179 33)
  else
  (if v1 = (5 : Int32) then
  some (μ.1 179 13)
  else
  (if v1 = (6 : Int32) then
  Option.bind (hm_ld μ 180 7 (v1 - (5 : Int32))) fun x15 =>
  some x15
  else
  (if v1 = (7 : Int32) then
  Option.bind (hm_ld μ 180 7 (v1 - (5 : Int32))) fun x14 =>
  some x14
  else
  (if v1 = (8 : Int32) then
  Option.bind (hm_ld μ 180 7 (v1 - (5 : Int32))) fun x13 =>
  some x13
  else
  (if v1 = (9 : Int32) then
  Option.bind (hm_ld μ 180 7 (5 : Int32)) fun x12 =>
  some x12
  else
  (if v1 = (10 : Int32) then
  Option.bind (hm_ld μ 180 7 (6 : Int32)) fun x11 =>
  some x11
  else
  (if v1 = (11 : Int32) then
  Option.bind (hm_ld μ 181 5665 (57 : Int32)) fun x10 =>
  some x10
  else
  (if v1 = (12 : Int32) then
  Option.bind (f_X10_termAt (v1 - (12 : Int32))) fun x8 =>
  Option.bind (hm_ld μ 181 5665 x8) fun x9 =>
  some x9
  else
  (if v1 = (13 : Int32) then
  Option.bind (f_X10_termAt (v1 - (12 : Int32))) fun x6 =>
  Option.bind (hm_ld μ 181 5665 x6) fun x7 =>
  some x7
  else
  (if v1 = (14 : Int32) then
  Option.bind (f_X10_termAt (v1 - (12 : Int32))) fun x4 =>
  Option.bind (hm_ld μ 181 5665 x4) fun x5 =>
  some x5
  else
  (if v1 = (15 : Int32) then
  Option.bind (f_X10_termAt (v1 - (12 : Int32))) fun x2 =>
  Option.bind (hm_ld μ 181 5665 x2) fun x3 =>
  some x3
  else
  none)))))))))))))))))
set_option maxRecDepth 100000 in
theorem ok_X10_count {fr : Nat} (hfr : 2 ≤ fr) {ν : hm_N} {r : Int32}  (v1 : Int32)  (μ : hm_M) (hL : hm_LL ν μ) (h : f_X10_count v1 μ = some r) : hm_CC (hm_LL ν) m_X10_count fr 0 0 [.ref 179, .int v1] μ (some (.int r)) μ := by
  refine hm_enter (lv := [some (.ref 179), some (.int v1)]) (by decide) rfl (Nat.le_of_ble_eq_true rfl) ?_
  unfold f_X10_count at h
  refine tr_iload_n (pc' := 1) (show decode cX10_count 0 = .ok (.iload_n 1, 1) by decide +kernel) rfl rfl rfl ?_
  rcases hm_is h with ⟨hc, h⟩ | ⟨-, h⟩
  · refine tp_tout (tgt := 161) hc (by decide) (by decide) (show decode cX10_count 1 = .ok (.tableswitch 160 0 15 #[79, 84, 89, 97, 105, 110, 115, 115, 115, 124, 131, 139, 147, 147, 147, 147], 79) by decide +kernel) (by decide) ?_
    refine tr_iconst (pc' := 162) (v := (-1 : Int32)) (show decode cX10_count 161 = .ok (.iconst (-1), 1) by decide +kernel) rfl (by decide) ?_
    cases h
    exact tr_iret rfl (show decode cX10_count 162 = .ok (.ireturn, 1) by decide +kernel) hL
  · rcases hm_is h with ⟨hc, h⟩ | ⟨-, h⟩
    · refine tp_tin (tgt := 80) (off := 79) hc (show decode cX10_count 1 = .ok (.tableswitch 160 0 15 #[79, 84, 89, 97, 105, 110, 115, 115, 115, 124, 131, 139, 147, 147, 147, 147], 79) by decide +kernel) (by decide) (by decide) (by decide) (by decide) ?_
      refine tr_aload_n (pc' := 81) (show decode cX10_count 80 = .ok (.aload_n 0, 1) by decide +kernel) rfl rfl rfl ?_
      obtain ⟨x19, ex19, h⟩ := hm_bs h
      have cx19 := ok_X10_many (fr := fr - 1) (ν := ν) (by omega) μ hL ex19
      refine tp_callV (pc' := 84) (As := []) (fr1 := fr - 1) (ci := 10) okm_X10_many lk_HandRingModel_118 (show decode cX10_count 81 = .ok (.invokevirtual 118, 3) by decide +kernel) rfl rfl rfl (by decide) (la_o hL (by decide) rfl) rfl rfl (Nat.le_of_ble_eq_true rfl) (by omega) cx19 (st' := [.int x19]) rfl ?_
      cases h
      exact tr_iret rfl (show decode cX10_count 84 = .ok (.ireturn, 1) by decide +kernel) hL
    · rcases hm_is h with ⟨hc, h⟩ | ⟨-, h⟩
      · refine tp_tin (tgt := 85) (off := 84) hc (show decode cX10_count 1 = .ok (.tableswitch 160 0 15 #[79, 84, 89, 97, 105, 110, 115, 115, 115, 124, 131, 139, 147, 147, 147, 147], 79) by decide +kernel) (by decide) (by decide) (by decide) (by decide) ?_
        refine tr_aload_n (pc' := 86) (show decode cX10_count 85 = .ok (.aload_n 0, 1) by decide +kernel) rfl rfl rfl ?_
        obtain ⟨x18, ex18, h⟩ := hm_bs h
        have cx18 := ok_X10_holdMany (fr := fr - 1) (ν := ν) (by omega) μ hL ex18
        refine tp_callV (pc' := 89) (As := []) (fr1 := fr - 1) (ci := 10) okm_X10_holdMany lk_HandRingModel_319 (show decode cX10_count 86 = .ok (.invokevirtual 319, 3) by decide +kernel) rfl rfl rfl (by decide) (la_o hL (by decide) rfl) rfl rfl (Nat.le_of_ble_eq_true rfl) (by omega) cx18 (st' := [.int x18]) rfl ?_
        cases h
        exact tr_iret rfl (show decode cX10_count 89 = .ok (.ireturn, 1) by decide +kernel) hL
      · rcases hm_is h with ⟨hc, h⟩ | ⟨-, h⟩
        · refine tp_tin (tgt := 90) (off := 89) hc (show decode cX10_count 1 = .ok (.tableswitch 160 0 15 #[79, 84, 89, 97, 105, 110, 115, 115, 115, 124, 131, 139, 147, 147, 147, 147], 79) by decide +kernel) (by decide) (by decide) (by decide) (by decide) ?_
          refine tr_aload_n (pc' := 91) (show decode cX10_count 90 = .ok (.aload_n 0, 1) by decide +kernel) rfl rfl rfl ?_
          refine tr_getR (pc' := 94) fl_HandRingModel_24 (show decode cX10_count 91 = .ok (.getfield 24, 3) by decide +kernel) rfl (la_o hL (by decide) rfl) (la_r hL 118 rfl) ?_
          refine tr_bipush (pc' := 96) (v := (55 : Int32)) (show decode cX10_count 94 = .ok (.bipush 55, 2) by decide +kernel) rfl (by decide) ?_
          obtain ⟨x17, ex17, h⟩ := hm_bs h
          refine tp_ldI (pc' := 97) (show decode cX10_count 96 = .ok (.iaload, 1) by decide +kernel) rfl (la_a hL (by decide) rfl) ex17 ?_
          cases h
          exact tr_iret rfl (show decode cX10_count 97 = .ok (.ireturn, 1) by decide +kernel) hL
        · rcases hm_is h with ⟨hc, h⟩ | ⟨-, h⟩
          · refine tp_tin (tgt := 98) (off := 97) hc (show decode cX10_count 1 = .ok (.tableswitch 160 0 15 #[79, 84, 89, 97, 105, 110, 115, 115, 115, 124, 131, 139, 147, 147, 147, 147], 79) by decide +kernel) (by decide) (by decide) (by decide) (by decide) ?_
            refine tr_aload_n (pc' := 99) (show decode cX10_count 98 = .ok (.aload_n 0, 1) by decide +kernel) rfl rfl rfl ?_
            refine tr_getR (pc' := 102) fl_HandRingModel_24 (show decode cX10_count 99 = .ok (.getfield 24, 3) by decide +kernel) rfl (la_o hL (by decide) rfl) (la_r hL 118 rfl) ?_
            refine tr_bipush (pc' := 104) (v := (56 : Int32)) (show decode cX10_count 102 = .ok (.bipush 56, 2) by decide +kernel) rfl (by decide) ?_
            obtain ⟨x16, ex16, h⟩ := hm_bs h
            refine tp_ldI (pc' := 105) (show decode cX10_count 104 = .ok (.iaload, 1) by decide +kernel) rfl (la_a hL (by decide) rfl) ex16 ?_
            cases h
            exact tr_iret rfl (show decode cX10_count 105 = .ok (.ireturn, 1) by decide +kernel) hL
          · rcases hm_is h with ⟨hc, h⟩ | ⟨-, h⟩
            · refine tp_tin (tgt := 106) (off := 105) hc (show decode cX10_count 1 = .ok (.tableswitch 160 0 15 #[79, 84, 89, 97, 105, 110, 115, 115, 115, 124, 131, 139, 147, 147, 147, 147], 79) by decide +kernel) (by decide) (by decide) (by decide) (by decide) ?_
              refine tr_aload_n (pc' := 107) (show decode cX10_count 106 = .ok (.aload_n 0, 1) by decide +kernel) rfl rfl rfl ?_
              refine tr_getI (pc' := 110) fl_HandRingModel_11 (show decode cX10_count 107 = .ok (.getfield 11, 3) by decide +kernel) rfl (la_o hL (by decide) rfl) ?_
              cases h
              exact tr_iret rfl (show decode cX10_count 110 = .ok (.ireturn, 1) by decide +kernel) hL
            · rcases hm_is h with ⟨hc, h⟩ | ⟨-, h⟩
              · refine tp_tin (tgt := 111) (off := 110) hc (show decode cX10_count 1 = .ok (.tableswitch 160 0 15 #[79, 84, 89, 97, 105, 110, 115, 115, 115, 124, 131, 139, 147, 147, 147, 147], 79) by decide +kernel) (by decide) (by decide) (by decide) (by decide) ?_
                refine tr_aload_n (pc' := 112) (show decode cX10_count 111 = .ok (.aload_n 0, 1) by decide +kernel) rfl rfl rfl ?_
                refine tr_getI (pc' := 115) fl_HandRingModel_162 (show decode cX10_count 112 = .ok (.getfield 162, 3) by decide +kernel) rfl (la_o hL (by decide) rfl) ?_
                cases h
                exact tr_iret rfl (show decode cX10_count 115 = .ok (.ireturn, 1) by decide +kernel) hL
              · rcases hm_is h with ⟨hc, h⟩ | ⟨-, h⟩
                · refine tp_tin (tgt := 116) (off := 115) hc (show decode cX10_count 1 = .ok (.tableswitch 160 0 15 #[79, 84, 89, 97, 105, 110, 115, 115, 115, 124, 131, 139, 147, 147, 147, 147], 79) by decide +kernel) (by decide) (by decide) (by decide) (by decide) ?_
                  refine tr_aload_n (pc' := 117) (show decode cX10_count 116 = .ok (.aload_n 0, 1) by decide +kernel) rfl rfl rfl ?_
                  refine tr_getR (pc' := 120) fl_HandRingModel_7 (show decode cX10_count 117 = .ok (.getfield 7, 3) by decide +kernel) rfl (la_o hL (by decide) rfl) (la_r hL 117 rfl) ?_
                  refine tr_iload_n (pc' := 121) (show decode cX10_count 120 = .ok (.iload_n 1, 1) by decide +kernel) rfl rfl rfl ?_
                  refine tr_iconst (pc' := 122) (v := (5 : Int32)) (show decode cX10_count 121 = .ok (.iconst 5, 1) by decide +kernel) rfl (by decide) ?_
                  refine tr_isub (pc' := 123) (show decode cX10_count 122 = .ok (.isub, 1) by decide +kernel) rfl ?_
                  obtain ⟨x15, ex15, h⟩ := hm_bs h
                  refine tp_ldI (pc' := 124) (show decode cX10_count 123 = .ok (.iaload, 1) by decide +kernel) rfl (la_a hL (by decide) rfl) ex15 ?_
                  cases h
                  exact tr_iret rfl (show decode cX10_count 124 = .ok (.ireturn, 1) by decide +kernel) hL
                · rcases hm_is h with ⟨hc, h⟩ | ⟨-, h⟩
                  · refine tp_tin (tgt := 116) (off := 115) hc (show decode cX10_count 1 = .ok (.tableswitch 160 0 15 #[79, 84, 89, 97, 105, 110, 115, 115, 115, 124, 131, 139, 147, 147, 147, 147], 79) by decide +kernel) (by decide) (by decide) (by decide) (by decide) ?_
                    refine tr_aload_n (pc' := 117) (show decode cX10_count 116 = .ok (.aload_n 0, 1) by decide +kernel) rfl rfl rfl ?_
                    refine tr_getR (pc' := 120) fl_HandRingModel_7 (show decode cX10_count 117 = .ok (.getfield 7, 3) by decide +kernel) rfl (la_o hL (by decide) rfl) (la_r hL 117 rfl) ?_
                    refine tr_iload_n (pc' := 121) (show decode cX10_count 120 = .ok (.iload_n 1, 1) by decide +kernel) rfl rfl rfl ?_
                    refine tr_iconst (pc' := 122) (v := (5 : Int32)) (show decode cX10_count 121 = .ok (.iconst 5, 1) by decide +kernel) rfl (by decide) ?_
                    refine tr_isub (pc' := 123) (show decode cX10_count 122 = .ok (.isub, 1) by decide +kernel) rfl ?_
                    obtain ⟨x14, ex14, h⟩ := hm_bs h
                    refine tp_ldI (pc' := 124) (show decode cX10_count 123 = .ok (.iaload, 1) by decide +kernel) rfl (la_a hL (by decide) rfl) ex14 ?_
                    cases h
                    exact tr_iret rfl (show decode cX10_count 124 = .ok (.ireturn, 1) by decide +kernel) hL
                  · rcases hm_is h with ⟨hc, h⟩ | ⟨-, h⟩
                    · refine tp_tin (tgt := 116) (off := 115) hc (show decode cX10_count 1 = .ok (.tableswitch 160 0 15 #[79, 84, 89, 97, 105, 110, 115, 115, 115, 124, 131, 139, 147, 147, 147, 147], 79) by decide +kernel) (by decide) (by decide) (by decide) (by decide) ?_
                      refine tr_aload_n (pc' := 117) (show decode cX10_count 116 = .ok (.aload_n 0, 1) by decide +kernel) rfl rfl rfl ?_
                      refine tr_getR (pc' := 120) fl_HandRingModel_7 (show decode cX10_count 117 = .ok (.getfield 7, 3) by decide +kernel) rfl (la_o hL (by decide) rfl) (la_r hL 117 rfl) ?_
                      refine tr_iload_n (pc' := 121) (show decode cX10_count 120 = .ok (.iload_n 1, 1) by decide +kernel) rfl rfl rfl ?_
                      refine tr_iconst (pc' := 122) (v := (5 : Int32)) (show decode cX10_count 121 = .ok (.iconst 5, 1) by decide +kernel) rfl (by decide) ?_
                      refine tr_isub (pc' := 123) (show decode cX10_count 122 = .ok (.isub, 1) by decide +kernel) rfl ?_
                      obtain ⟨x13, ex13, h⟩ := hm_bs h
                      refine tp_ldI (pc' := 124) (show decode cX10_count 123 = .ok (.iaload, 1) by decide +kernel) rfl (la_a hL (by decide) rfl) ex13 ?_
                      cases h
                      exact tr_iret rfl (show decode cX10_count 124 = .ok (.ireturn, 1) by decide +kernel) hL
                    · rcases hm_is h with ⟨hc, h⟩ | ⟨-, h⟩
                      · refine tp_tin (tgt := 125) (off := 124) hc (show decode cX10_count 1 = .ok (.tableswitch 160 0 15 #[79, 84, 89, 97, 105, 110, 115, 115, 115, 124, 131, 139, 147, 147, 147, 147], 79) by decide +kernel) (by decide) (by decide) (by decide) (by decide) ?_
                        refine tr_aload_n (pc' := 126) (show decode cX10_count 125 = .ok (.aload_n 0, 1) by decide +kernel) rfl rfl rfl ?_
                        refine tr_getR (pc' := 129) fl_HandRingModel_7 (show decode cX10_count 126 = .ok (.getfield 7, 3) by decide +kernel) rfl (la_o hL (by decide) rfl) (la_r hL 117 rfl) ?_
                        refine tr_iconst (pc' := 130) (v := (5 : Int32)) (show decode cX10_count 129 = .ok (.iconst 5, 1) by decide +kernel) rfl (by decide) ?_
                        obtain ⟨x12, ex12, h⟩ := hm_bs h
                        refine tp_ldI (pc' := 131) (show decode cX10_count 130 = .ok (.iaload, 1) by decide +kernel) rfl (la_a hL (by decide) rfl) ex12 ?_
                        cases h
                        exact tr_iret rfl (show decode cX10_count 131 = .ok (.ireturn, 1) by decide +kernel) hL
                      · rcases hm_is h with ⟨hc, h⟩ | ⟨-, h⟩
                        · refine tp_tin (tgt := 132) (off := 131) hc (show decode cX10_count 1 = .ok (.tableswitch 160 0 15 #[79, 84, 89, 97, 105, 110, 115, 115, 115, 124, 131, 139, 147, 147, 147, 147], 79) by decide +kernel) (by decide) (by decide) (by decide) (by decide) ?_
                          refine tr_aload_n (pc' := 133) (show decode cX10_count 132 = .ok (.aload_n 0, 1) by decide +kernel) rfl rfl rfl ?_
                          refine tr_getR (pc' := 136) fl_HandRingModel_7 (show decode cX10_count 133 = .ok (.getfield 7, 3) by decide +kernel) rfl (la_o hL (by decide) rfl) (la_r hL 117 rfl) ?_
                          refine tr_bipush (pc' := 138) (v := (6 : Int32)) (show decode cX10_count 136 = .ok (.bipush 6, 2) by decide +kernel) rfl (by decide) ?_
                          obtain ⟨x11, ex11, h⟩ := hm_bs h
                          refine tp_ldI (pc' := 139) (show decode cX10_count 138 = .ok (.iaload, 1) by decide +kernel) rfl (la_a hL (by decide) rfl) ex11 ?_
                          cases h
                          exact tr_iret rfl (show decode cX10_count 139 = .ok (.ireturn, 1) by decide +kernel) hL
                        · rcases hm_is h with ⟨hc, h⟩ | ⟨-, h⟩
                          · refine tp_tin (tgt := 140) (off := 139) hc (show decode cX10_count 1 = .ok (.tableswitch 160 0 15 #[79, 84, 89, 97, 105, 110, 115, 115, 115, 124, 131, 139, 147, 147, 147, 147], 79) by decide +kernel) (by decide) (by decide) (by decide) (by decide) ?_
                            refine tr_aload_n (pc' := 141) (show decode cX10_count 140 = .ok (.aload_n 0, 1) by decide +kernel) rfl rfl rfl ?_
                            refine tr_getR (pc' := 144) fl_HandRingModel_24 (show decode cX10_count 141 = .ok (.getfield 24, 3) by decide +kernel) rfl (la_o hL (by decide) rfl) (la_r hL 118 rfl) ?_
                            refine tr_bipush (pc' := 146) (v := (57 : Int32)) (show decode cX10_count 144 = .ok (.bipush 57, 2) by decide +kernel) rfl (by decide) ?_
                            obtain ⟨x10, ex10, h⟩ := hm_bs h
                            refine tp_ldI (pc' := 147) (show decode cX10_count 146 = .ok (.iaload, 1) by decide +kernel) rfl (la_a hL (by decide) rfl) ex10 ?_
                            cases h
                            exact tr_iret rfl (show decode cX10_count 147 = .ok (.ireturn, 1) by decide +kernel) hL
                          · rcases hm_is h with ⟨hc, h⟩ | ⟨-, h⟩
                            · refine tp_tin (tgt := 148) (off := 147) hc (show decode cX10_count 1 = .ok (.tableswitch 160 0 15 #[79, 84, 89, 97, 105, 110, 115, 115, 115, 124, 131, 139, 147, 147, 147, 147], 79) by decide +kernel) (by decide) (by decide) (by decide) (by decide) ?_
                              refine tr_aload_n (pc' := 149) (show decode cX10_count 148 = .ok (.aload_n 0, 1) by decide +kernel) rfl rfl rfl ?_
                              refine tr_getR (pc' := 152) fl_HandRingModel_24 (show decode cX10_count 149 = .ok (.getfield 24, 3) by decide +kernel) rfl (la_o hL (by decide) rfl) (la_r hL 118 rfl) ?_
                              refine tr_iload_n (pc' := 153) (show decode cX10_count 152 = .ok (.iload_n 1, 1) by decide +kernel) rfl rfl rfl ?_
                              refine tr_bipush (pc' := 155) (v := (12 : Int32)) (show decode cX10_count 153 = .ok (.bipush 12, 2) by decide +kernel) rfl (by decide) ?_
                              refine tr_isub (pc' := 156) (show decode cX10_count 155 = .ok (.isub, 1) by decide +kernel) rfl ?_
                              obtain ⟨x8, ex8, h⟩ := hm_bs h
                              have cx8 := ok_X10_termAt (fr := fr - 1) (ν := ν) (by omega) (v1 - (12 : Int32)) μ hL ex8
                              refine tp_callS (pc' := 159) (As := [.int (v1 - (12 : Int32))]) (fr1 := fr - 1) okm_X10_termAt lk_HandRingModel_159 (show decode cX10_count 156 = .ok (.invokestatic 159, 3) by decide +kernel) rfl rfl rfl (Nat.le_of_ble_eq_true rfl) (by omega) cx8 (st' := [.int x8, .ref 181]) rfl ?_
                              obtain ⟨x9, ex9, h⟩ := hm_bs h
                              refine tp_ldI (pc' := 160) (show decode cX10_count 159 = .ok (.iaload, 1) by decide +kernel) rfl (la_a hL (by decide) rfl) ex9 ?_
                              cases h
                              exact tr_iret rfl (show decode cX10_count 160 = .ok (.ireturn, 1) by decide +kernel) hL
                            · rcases hm_is h with ⟨hc, h⟩ | ⟨-, h⟩
                              · refine tp_tin (tgt := 148) (off := 147) hc (show decode cX10_count 1 = .ok (.tableswitch 160 0 15 #[79, 84, 89, 97, 105, 110, 115, 115, 115, 124, 131, 139, 147, 147, 147, 147], 79) by decide +kernel) (by decide) (by decide) (by decide) (by decide) ?_
                                refine tr_aload_n (pc' := 149) (show decode cX10_count 148 = .ok (.aload_n 0, 1) by decide +kernel) rfl rfl rfl ?_
                                refine tr_getR (pc' := 152) fl_HandRingModel_24 (show decode cX10_count 149 = .ok (.getfield 24, 3) by decide +kernel) rfl (la_o hL (by decide) rfl) (la_r hL 118 rfl) ?_
                                refine tr_iload_n (pc' := 153) (show decode cX10_count 152 = .ok (.iload_n 1, 1) by decide +kernel) rfl rfl rfl ?_
                                refine tr_bipush (pc' := 155) (v := (12 : Int32)) (show decode cX10_count 153 = .ok (.bipush 12, 2) by decide +kernel) rfl (by decide) ?_
                                refine tr_isub (pc' := 156) (show decode cX10_count 155 = .ok (.isub, 1) by decide +kernel) rfl ?_
                                obtain ⟨x6, ex6, h⟩ := hm_bs h
                                have cx6 := ok_X10_termAt (fr := fr - 1) (ν := ν) (by omega) (v1 - (12 : Int32)) μ hL ex6
                                refine tp_callS (pc' := 159) (As := [.int (v1 - (12 : Int32))]) (fr1 := fr - 1) okm_X10_termAt lk_HandRingModel_159 (show decode cX10_count 156 = .ok (.invokestatic 159, 3) by decide +kernel) rfl rfl rfl (Nat.le_of_ble_eq_true rfl) (by omega) cx6 (st' := [.int x6, .ref 181]) rfl ?_
                                obtain ⟨x7, ex7, h⟩ := hm_bs h
                                refine tp_ldI (pc' := 160) (show decode cX10_count 159 = .ok (.iaload, 1) by decide +kernel) rfl (la_a hL (by decide) rfl) ex7 ?_
                                cases h
                                exact tr_iret rfl (show decode cX10_count 160 = .ok (.ireturn, 1) by decide +kernel) hL
                              · rcases hm_is h with ⟨hc, h⟩ | ⟨-, h⟩
                                · refine tp_tin (tgt := 148) (off := 147) hc (show decode cX10_count 1 = .ok (.tableswitch 160 0 15 #[79, 84, 89, 97, 105, 110, 115, 115, 115, 124, 131, 139, 147, 147, 147, 147], 79) by decide +kernel) (by decide) (by decide) (by decide) (by decide) ?_
                                  refine tr_aload_n (pc' := 149) (show decode cX10_count 148 = .ok (.aload_n 0, 1) by decide +kernel) rfl rfl rfl ?_
                                  refine tr_getR (pc' := 152) fl_HandRingModel_24 (show decode cX10_count 149 = .ok (.getfield 24, 3) by decide +kernel) rfl (la_o hL (by decide) rfl) (la_r hL 118 rfl) ?_
                                  refine tr_iload_n (pc' := 153) (show decode cX10_count 152 = .ok (.iload_n 1, 1) by decide +kernel) rfl rfl rfl ?_
                                  refine tr_bipush (pc' := 155) (v := (12 : Int32)) (show decode cX10_count 153 = .ok (.bipush 12, 2) by decide +kernel) rfl (by decide) ?_
                                  refine tr_isub (pc' := 156) (show decode cX10_count 155 = .ok (.isub, 1) by decide +kernel) rfl ?_
                                  obtain ⟨x4, ex4, h⟩ := hm_bs h
                                  have cx4 := ok_X10_termAt (fr := fr - 1) (ν := ν) (by omega) (v1 - (12 : Int32)) μ hL ex4
                                  refine tp_callS (pc' := 159) (As := [.int (v1 - (12 : Int32))]) (fr1 := fr - 1) okm_X10_termAt lk_HandRingModel_159 (show decode cX10_count 156 = .ok (.invokestatic 159, 3) by decide +kernel) rfl rfl rfl (Nat.le_of_ble_eq_true rfl) (by omega) cx4 (st' := [.int x4, .ref 181]) rfl ?_
                                  obtain ⟨x5, ex5, h⟩ := hm_bs h
                                  refine tp_ldI (pc' := 160) (show decode cX10_count 159 = .ok (.iaload, 1) by decide +kernel) rfl (la_a hL (by decide) rfl) ex5 ?_
                                  cases h
                                  exact tr_iret rfl (show decode cX10_count 160 = .ok (.ireturn, 1) by decide +kernel) hL
                                · rcases hm_is h with ⟨hc, h⟩ | ⟨-, h⟩
                                  · refine tp_tin (tgt := 148) (off := 147) hc (show decode cX10_count 1 = .ok (.tableswitch 160 0 15 #[79, 84, 89, 97, 105, 110, 115, 115, 115, 124, 131, 139, 147, 147, 147, 147], 79) by decide +kernel) (by decide) (by decide) (by decide) (by decide) ?_
                                    refine tr_aload_n (pc' := 149) (show decode cX10_count 148 = .ok (.aload_n 0, 1) by decide +kernel) rfl rfl rfl ?_
                                    refine tr_getR (pc' := 152) fl_HandRingModel_24 (show decode cX10_count 149 = .ok (.getfield 24, 3) by decide +kernel) rfl (la_o hL (by decide) rfl) (la_r hL 118 rfl) ?_
                                    refine tr_iload_n (pc' := 153) (show decode cX10_count 152 = .ok (.iload_n 1, 1) by decide +kernel) rfl rfl rfl ?_
                                    refine tr_bipush (pc' := 155) (v := (12 : Int32)) (show decode cX10_count 153 = .ok (.bipush 12, 2) by decide +kernel) rfl (by decide) ?_
                                    refine tr_isub (pc' := 156) (show decode cX10_count 155 = .ok (.isub, 1) by decide +kernel) rfl ?_
                                    obtain ⟨x2, ex2, h⟩ := hm_bs h
                                    have cx2 := ok_X10_termAt (fr := fr - 1) (ν := ν) (by omega) (v1 - (12 : Int32)) μ hL ex2
                                    refine tp_callS (pc' := 159) (As := [.int (v1 - (12 : Int32))]) (fr1 := fr - 1) okm_X10_termAt lk_HandRingModel_159 (show decode cX10_count 156 = .ok (.invokestatic 159, 3) by decide +kernel) rfl rfl rfl (Nat.le_of_ble_eq_true rfl) (by omega) cx2 (st' := [.int x2, .ref 181]) rfl ?_
                                    obtain ⟨x3, ex3, h⟩ := hm_bs h
                                    refine tp_ldI (pc' := 160) (show decode cX10_count 159 = .ok (.iaload, 1) by decide +kernel) rfl (la_a hL (by decide) rfl) ex3 ?_
                                    cases h
                                    exact tr_iret rfl (show decode cX10_count 160 = .ok (.ireturn, 1) by decide +kernel) hL
                                  · cases h
def f_X10_status (μ : hm_M) : Option Int32 :=
  some (μ.1 179 0)
set_option maxRecDepth 100000 in
theorem ok_X10_status {fr : Nat} (hfr : 0 ≤ fr) {ν : hm_N} {r : Int32}    (μ : hm_M) (hL : hm_LL ν μ) (h : f_X10_status μ = some r) : hm_CC (hm_LL ν) m_X10_status fr 0 0 [.ref 179] μ (some (.int r)) μ := by
  refine hm_enter (lv := [some (.ref 179)]) (by decide) rfl (Nat.le_of_ble_eq_true rfl) ?_
  unfold f_X10_status at h
  refine tr_aload_n (pc' := 1) (show decode cX10_status 0 = .ok (.aload_n 0, 1) by decide +kernel) rfl rfl rfl ?_
  refine tr_getI (pc' := 4) fl_HandRingModel_3 (show decode cX10_status 1 = .ok (.getfield 3, 3) by decide +kernel) rfl (la_o hL (by decide) rfl) ?_
  cases h
  exact tr_iret rfl (show decode cX10_status 4 = .ok (.ireturn, 1) by decide +kernel) hL
