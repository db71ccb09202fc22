def f_X1_doOne (v1 : Nat) (v2 : Int32) (v3 : Int32) (v4 : Int32) (μ : hm_M) : Option (Int32 × hm_M) :=
  (if v2 < (0 : Int32) ∨ (2 : Int32) < v2 then
  hm_b2 (f_X1_passDay v1 μ) fun x2 μ3 =>
  (if x2 < 0 then
  some (x2, μ3)
  else
  hm_b2 (f_X1_dropHolds v1 μ3) fun x4 μ5 =>
  some (x2, μ5))
  else
  (if v2 = (0 : Int32) then
  hm_b2 (f_X1_takeHands v1 v3 v4 μ) fun x12 μ13 =>
  some (x12, μ13)
  else
  (if v2 = (1 : Int32) then
  hm_b2 (f_X1_looseHands v1 v3 v4 μ) fun x10 μ11 =>
  some (x10, μ11)
  else
  (if v2 = (2 : Int32) then
  hm_b2 (f_X1_stepOn v1 v3 v4 μ) fun x6 μ7 =>
  (if 0 ≤ x6 then
  hm_b2 (f_X1_dropHolds v1 μ7) fun x8 μ9 =>
  some (x8, μ9)
  else
  some (x6, μ7))
  else
  none))))
set_option maxRecDepth 100000 in
theorem ok_X1_doOne {fr : Nat} (hfr : 5 ≤ fr) {ν : hm_N} {r : Int32} {μR : hm_M}  (v1 : Nat) (v2 : Int32) (v3 : Int32) (v4 : Int32) (hv1 : hm_V v1) (μ : hm_M) (hL : hm_LL ν μ) (h : f_X1_doOne v1 v2 v3 v4 μ = some (r, μR)) : hm_CC (hm_LL ν) m_X1_doOne fr 0 0 [.ref 110, .ref v1, .int v2, .int v3, .int v4] μ (some (.int r)) μR := by
  refine hm_enter (lv := [some (.ref 110), some (.ref v1), some (.int v2), some (.int v3), some (.int v4), none]) (by decide) rfl (Nat.le_of_ble_eq_true rfl) ?_
  unfold f_X1_doOne at h
  refine tr_iload_n (pc' := 1) (show decode cX1_doOne 0 = .ok (.iload_n 2, 1) by decide +kernel) rfl rfl rfl ?_
  rcases hm_is h with ⟨hc, h⟩ | ⟨-, h⟩
  · refine tp_tout (tgt := 72) hc (by decide) (by decide) (show decode cX1_doOne 1 = .ok (.tableswitch 71 0 2 #[27, 36, 45], 27) by decide +kernel) (by decide) ?_
    refine tr_aload_n (pc' := 73) (show decode cX1_doOne 72 = .ok (.aload_n 0, 1) by decide +kernel) rfl rfl rfl ?_
    refine tr_aload_n (pc' := 74) (show decode cX1_doOne 73 = .ok (.aload_n 1, 1) by decide +kernel) rfl rfl rfl ?_
    obtain ⟨x2, μ3, ex2, h⟩ := hm_b2s h
    have cx2 := ok_X1_passDay (fr := fr - 1) (ν := ν) (by omega) v1 hv1 μ hL ex2
    refine tp_callV (pc' := 77) (As := [.ref v1]) (fr1 := fr - 1) (ci := 1) okm_X1_passDay lk_HandRing_Deeds_47 (show decode cX1_doOne 74 = .ok (.invokevirtual 47, 3) by decide +kernel) rfl rfl rfl (by decide) (la_o hL (by decide) rfl) rfl rfl (Nat.le_of_ble_eq_true rfl) (by omega) cx2 (st' := [.int x2]) rfl ?_
    replace hL := cx2.1
    refine tr_istore (pc' := 79) (lv' := [some (.ref 110), some (.ref v1), some (.int v2), some (.int v3), some (.int v4), some (.int x2)]) (show decode cX1_doOne 77 = .ok (.istore 5, 2) by decide +kernel) rfl (Nat.le_of_ble_eq_true rfl) rfl rfl ?_
    refine tr_iload (pc' := 81) (show decode cX1_doOne 79 = .ok (.iload 5, 2) by decide +kernel) rfl rfl ?_
    rcases hm_is h with ⟨hc, h⟩ | ⟨hc, h⟩
    · refine tr_if_lt_t (tgt := 90) hc (show decode cX1_doOne 81 = .ok (.ifCond .lt 9, 3) by decide +kernel) (by decide) ?_
      refine tr_iload (pc' := 92) (show decode cX1_doOne 90 = .ok (.iload 5, 2) by decide +kernel) rfl rfl ?_
      cases h
      exact tr_iret rfl (show decode cX1_doOne 92 = .ok (.ireturn, 1) by decide +kernel) hL
    · refine tr_if_lt_f (tgt := 90) (pc' := 84) hc (show decode cX1_doOne 81 = .ok (.ifCond .lt 9, 3) by decide +kernel) (by decide) rfl ?_
      refine tr_aload_n (pc' := 85) (show decode cX1_doOne 84 = .ok (.aload_n 0, 1) by decide +kernel) rfl rfl rfl ?_
      refine tr_aload_n (pc' := 86) (show decode cX1_doOne 85 = .ok (.aload_n 1, 1) by decide +kernel) rfl rfl rfl ?_
      obtain ⟨x4, μ5, ex4, h⟩ := hm_b2s h
      have cx4 := ok_X1_dropHolds (fr := fr - 1) (ν := ν) (by omega) v1 hv1 μ3 hL ex4
      refine tp_callV (pc' := 89) (As := [.ref v1]) (fr1 := fr - 1) (ci := 1) okm_X1_dropHolds lk_HandRing_Deeds_43 (show decode cX1_doOne 86 = .ok (.invokevirtual 43, 3) by decide +kernel) rfl rfl rfl (by decide) (la_o hL (by decide) rfl) rfl rfl (Nat.le_of_ble_eq_true rfl) (by omega) cx4 (st' := [.int x4]) rfl ?_
      replace hL := cx4.1
      refine tr_pop (pc' := 90) (show decode cX1_doOne 89 = .ok (.pop, 1) by decide +kernel) rfl rfl ?_
      refine tr_iload (pc' := 92) (show decode cX1_doOne 90 = .ok (.iload 5, 2) by decide +kernel) rfl rfl ?_
      cases h
      exact tr_iret rfl (show decode cX1_doOne 92 = .ok (.ireturn, 1) by decide +kernel) hL
  · rcases hm_is h with ⟨hc, h⟩ | ⟨-, h⟩
    · refine tp_tin (tgt := 28) (off := 27) hc (show decode cX1_doOne 1 = .ok (.tableswitch 71 0 2 #[27, 36, 45], 27) by decide +kernel) (by decide) (by decide) (by decide) (by decide) ?_
      refine tr_aload_n (pc' := 29) (show decode cX1_doOne 28 = .ok (.aload_n 0, 1) by decide +kernel) rfl rfl rfl ?_
      refine tr_aload_n (pc' := 30) (show decode cX1_doOne 29 = .ok (.aload_n 1, 1) by decide +kernel) rfl rfl rfl ?_
      refine tr_iload_n (pc' := 31) (show decode cX1_doOne 30 = .ok (.iload_n 3, 1) by decide +kernel) rfl rfl rfl ?_
      refine tr_iload (pc' := 33) (show decode cX1_doOne 31 = .ok (.iload 4, 2) by decide +kernel) rfl rfl ?_
      obtain ⟨x12, μ13, ex12, h⟩ := hm_b2s h
      have cx12 := ok_X1_takeHands (fr := fr - 1) (ν := ν) (by omega) v1 v3 v4 hv1 μ hL ex12
      refine tp_callV (pc' := 36) (As := [.ref v1, .int v3, .int v4]) (fr1 := fr - 1) (ci := 1) okm_X1_takeHands lk_HandRing_Deeds_33 (show decode cX1_doOne 33 = .ok (.invokevirtual 33, 3) by decide +kernel) rfl rfl rfl (by decide) (la_o hL (by decide) rfl) rfl rfl (Nat.le_of_ble_eq_true rfl) (by omega) cx12 (st' := [.int x12]) rfl ?_
      replace hL := cx12.1
      cases h
      exact tr_iret rfl (show decode cX1_doOne 36 = .ok (.ireturn, 1) by decide +kernel) hL
    · rcases hm_is h with ⟨hc, h⟩ | ⟨-, h⟩
      · refine tp_tin (tgt := 37) (off := 36) hc (show decode cX1_doOne 1 = .ok (.tableswitch 71 0 2 #[27, 36, 45], 27) by decide +kernel) (by decide) (by decide) (by decide) (by decide) ?_
        refine tr_aload_n (pc' := 38) (show decode cX1_doOne 37 = .ok (.aload_n 0, 1) by decide +kernel) rfl rfl rfl ?_
        refine tr_aload_n (pc' := 39) (show decode cX1_doOne 38 = .ok (.aload_n 1, 1) by decide +kernel) rfl rfl rfl ?_
        refine tr_iload_n (pc' := 40) (show decode cX1_doOne 39 = .ok (.iload_n 3, 1) by decide +kernel) rfl rfl rfl ?_
        refine tr_iload (pc' := 42) (show decode cX1_doOne 40 = .ok (.iload 4, 2) by decide +kernel) rfl rfl ?_
        obtain ⟨x10, μ11, ex10, h⟩ := hm_b2s h
        have cx10 := ok_X1_looseHands (fr := fr - 1) (ν := ν) (by omega) v1 v3 v4 hv1 μ hL ex10
        refine tp_callV (pc' := 45) (As := [.ref v1, .int v3, .int v4]) (fr1 := fr - 1) (ci := 1) okm_X1_looseHands lk_HandRing_Deeds_37 (show decode cX1_doOne 42 = .ok (.invokevirtual 37, 3) by decide +kernel) rfl rfl rfl (by decide) (la_o hL (by decide) rfl) rfl rfl (Nat.le_of_ble_eq_true rfl) (by omega) cx10 (st' := [.int x10]) rfl ?_
        replace hL := cx10.1
        cases h
        exact tr_iret rfl (show decode cX1_doOne 45 = .ok (.ireturn, 1) by decide +kernel) hL
      · rcases hm_is h with ⟨hc, h⟩ | ⟨-, h⟩
        · refine tp_tin (tgt := 46) (off := 45) hc (show decode cX1_doOne 1 = .ok (.tableswitch 71 0 2 #[27, 36, 45], 27) by decide +kernel) (by decide) (by decide) (by decide) (by decide) ?_
          refine tr_aload_n (pc' := 47) (show decode cX1_doOne 46 = .ok (.aload_n 0, 1) by decide +kernel) rfl rfl rfl ?_
          refine tr_aload_n (pc' := 48) (show decode cX1_doOne 47 = .ok (.aload_n 1, 1) by decide +kernel) rfl rfl rfl ?_
          refine tr_iload_n (pc' := 49) (show decode cX1_doOne 48 = .ok (.iload_n 3, 1) by decide +kernel) rfl rfl rfl ?_
          refine tr_iload (pc' := 51) (show decode cX1_doOne 49 = .ok (.iload 4, 2) by decide +kernel) rfl rfl ?_
          obtain ⟨x6, μ7, ex6, h⟩ := hm_b2s h
          have cx6 := ok_X1_stepOn (fr := fr - 1) (ν := ν) (by omega) v1 v3 v4 hv1 μ hL ex6
          refine tp_callV (pc' := 54) (As := [.ref v1, .int v3, .int v4]) (fr1 := fr - 1) (ci := 1) okm_X1_stepOn lk_HandRing_Deeds_40 (show decode cX1_doOne 51 = .ok (.invokevirtual 40, 3) by decide +kernel) rfl rfl rfl (by decide) (la_o hL (by decide) rfl) rfl rfl (Nat.le_of_ble_eq_true rfl) (by omega) cx6 (st' := [.int x6]) rfl ?_
          replace hL := cx6.1
          refine tr_istore (pc' := 56) (lv' := [some (.ref 110), some (.ref v1), some (.int v2), some (.int v3), some (.int v4), some (.int x6)]) (show decode cX1_doOne 54 = .ok (.istore 5, 2) by decide +kernel) rfl (Nat.le_of_ble_eq_true rfl) rfl rfl ?_
          refine tr_iload (pc' := 58) (show decode cX1_doOne 56 = .ok (.iload 5, 2) by decide +kernel) rfl rfl ?_
          rcases hm_is h with ⟨hc, h⟩ | ⟨hc, h⟩
          · refine tr_if_ge_t (tgt := 66) hc (show decode cX1_doOne 58 = .ok (.ifCond .ge 8, 3) by decide +kernel) (by decide) ?_
            refine tr_aload_n (pc' := 67) (show decode cX1_doOne 66 = .ok (.aload_n 0, 1) by decide +kernel) rfl rfl rfl ?_
            refine tr_aload_n (pc' := 68) (show decode cX1_doOne 67 = .ok (.aload_n 1, 1) by decide +kernel) rfl rfl rfl ?_
            obtain ⟨x8, μ9, ex8, h⟩ := hm_b2s h
            have cx8 := ok_X1_dropHolds (fr := fr - 1) (ν := ν) (by omega) v1 hv1 μ7 hL ex8
            refine tp_callV (pc' := 71) (As := [.ref v1]) (fr1 := fr - 1) (ci := 1) okm_X1_dropHolds lk_HandRing_Deeds_43 (show decode cX1_doOne 68 = .ok (.invokevirtual 43, 3) by decide +kernel) rfl rfl rfl (by decide) (la_o hL (by decide) rfl) rfl rfl (Nat.le_of_ble_eq_true rfl) (by omega) cx8 (st' := [.int x8]) rfl ?_
            replace hL := cx8.1
            cases h
            exact tr_iret rfl (show decode cX1_doOne 71 = .ok (.ireturn, 1) by decide +kernel) hL
          · refine tr_if_ge_f (tgt := 66) (pc' := 61) hc (show decode cX1_doOne 58 = .ok (.ifCond .ge 8, 3) by decide +kernel) (by decide) rfl ?_
            refine tr_iload (pc' := 63) (show decode cX1_doOne 61 = .ok (.iload 5, 2) by decide +kernel) rfl rfl ?_
            refine tr_goto (tgt := 71) (show decode cX1_doOne 63 = .ok (.goto 8, 3) by decide +kernel) rfl ?_
            cases h
            exact tr_iret rfl (show decode cX1_doOne 71 = .ok (.ireturn, 1) by decide +kernel) hL
        · cases h
def f_X7_keepNoted (o0 : Nat) (v1 : Int32) (μ : hm_M) : Option hm_M :=
  Option.bind (hm_ldR μ (o0 + 1) 17 (((μ.1 o0 1) + (μ.1 o0 2)) - ((μ.1 o0 1) + (μ.1 o0 2)) / (17 : Int32) * (17 : Int32))) fun _x2 =>
  Option.bind (hm_sd μ (o0 + 2 + (((μ.1 o0 1) + (μ.1 o0 2)) - ((μ.1 o0 1) + (μ.1 o0 2)) / (17 : Int32) * (17 : Int32)).toNatClampNeg) 26 (0 : Int32) v1) fun μ3 =>
  (if (16 : Int32) ≤ (μ3.1 o0 2) then
  Option.bind (hm_pI μ3 o0 1 (((μ3.1 o0 1) + (1 : Int32)) - ((μ3.1 o0 1) + (1 : Int32)) / (17 : Int32) * (17 : Int32))) fun μ4 =>
  some μ4
  else
  Option.bind (hm_pI μ3 o0 2 ((μ3.1 o0 2) + (1 : Int32))) fun μ5 =>
  some μ5)
set_option maxRecDepth 100000 in
theorem ok_X7_keepNoted {fr : Nat} (hfr : 0 ≤ fr) {ν : hm_N} {μR : hm_M}  (o0 : Nat) (v1 : Int32) (ho0 : hm_S o0) (μ : hm_M) (hL : hm_LL ν μ) (h : f_X7_keepNoted o0 v1 μ = some μR) : hm_CC (hm_LL ν) m_X7_keepNoted fr 0 0 [.ref o0, .int v1] μ none μR := by
  refine hm_enter (lv := [some (.ref o0), some (.int v1)]) (by decide) rfl (Nat.le_of_ble_eq_true rfl) ?_
  unfold f_X7_keepNoted at h
  refine tr_aload_n (pc' := 1) (show decode cX7_keepNoted 0 = .ok (.aload_n 0, 1) by decide +kernel) rfl rfl rfl ?_
  refine tr_getR (pc' := 4) fl_HandRing_Steps_13 (show decode cX7_keepNoted 1 = .ok (.getfield 13, 3) by decide +kernel) rfl (la_so hL ho0) (la_s0 hL ho0) ?_
  refine tr_aload_n (pc' := 5) (show decode cX7_keepNoted 4 = .ok (.aload_n 0, 1) by decide +kernel) rfl rfl rfl ?_
  refine tr_getI (pc' := 8) fl_HandRing_Steps_26 (show decode cX7_keepNoted 5 = .ok (.getfield 26, 3) by decide +kernel) rfl (la_so hL ho0) ?_
  refine tr_aload_n (pc' := 9) (show decode cX7_keepNoted 8 = .ok (.aload_n 0, 1) by decide +kernel) rfl rfl rfl ?_
  refine tr_getI (pc' := 12) fl_HandRing_Steps_16 (show decode cX7_keepNoted 9 = .ok (.getfield 16, 3) by decide +kernel) rfl (la_so hL ho0) ?_
  refine tr_iadd (pc' := 13) (show decode cX7_keepNoted 12 = .ok (.iadd, 1) by decide +kernel) rfl ?_
  refine tr_bipush (pc' := 15) (v := (17 : Int32)) (show decode cX7_keepNoted 13 = .ok (.bipush 17, 2) by decide +kernel) rfl (by decide) ?_
  refine tr_irem (pc' := 16) (show decode cX7_keepNoted 15 = .ok (.irem, 1) by decide +kernel) rfl (by decide) ?_
  obtain ⟨x2, ex2, h⟩ := hm_bs h
  have bx2 := la_srow hL ho0 ex2
  have ax2 := la_n hL bx2.2
  refine tp_ldR (pc' := 17) (t0 := 7) (by decide) (fun _ => rfl) rfl (show decode cX7_keepNoted 16 = .ok (.aaload, 1) by decide +kernel) rfl (la_sa0 hL ho0) ex2 (congrArg va_rf bx2.1) ?_
  refine tr_iconst (pc' := 18) (v := (0 : Int32)) (show decode cX7_keepNoted 17 = .ok (.iconst 0, 1) by decide +kernel) rfl (by decide) ?_
  refine tr_iload_n (pc' := 19) (show decode cX7_keepNoted 18 = .ok (.iload_n 1, 1) by decide +kernel) rfl rfl rfl ?_
  obtain ⟨μ3, eμ3, h⟩ := hm_bs h
  refine tp_sdI (pc' := 20) (show decode cX7_keepNoted 19 = .ok (.iastore, 1) by decide +kernel) rfl (la_m hL ax2) eμ3 ?_
  replace hL := hL.same (hm_sd_s eμ3)
  refine tr_aload_n (pc' := 21) (show decode cX7_keepNoted 20 = .ok (.aload_n 0, 1) by decide +kernel) rfl rfl rfl ?_
  refine tr_getI (pc' := 24) fl_HandRing_Steps_16 (show decode cX7_keepNoted 21 = .ok (.getfield 16, 3) by decide +kernel) rfl (la_so hL ho0) ?_
  refine tr_bipush (pc' := 26) (v := (16 : Int32)) (show decode cX7_keepNoted 24 = .ok (.bipush 16, 2) by decide +kernel) rfl (by decide) ?_
  rcases hm_is h with ⟨hc, h⟩ | ⟨hc, h⟩
  · refine tr_icmp_ge_t (tgt := 42) hc (show decode cX7_keepNoted 26 = .ok (.if_icmp .ge 16, 3) by decide +kernel) (by decide) ?_
    refine tr_aload_n (pc' := 43) (show decode cX7_keepNoted 42 = .ok (.aload_n 0, 1) by decide +kernel) rfl rfl rfl ?_
    refine tr_aload_n (pc' := 44) (show decode cX7_keepNoted 43 = .ok (.aload_n 0, 1) by decide +kernel) rfl rfl rfl ?_
    refine tr_getI (pc' := 47) fl_HandRing_Steps_26 (show decode cX7_keepNoted 44 = .ok (.getfield 26, 3) by decide +kernel) rfl (la_so hL ho0) ?_
    refine tr_iconst (pc' := 48) (v := (1 : Int32)) (show decode cX7_keepNoted 47 = .ok (.iconst 1, 1) by decide +kernel) rfl (by decide) ?_
    refine tr_iadd (pc' := 49) (show decode cX7_keepNoted 48 = .ok (.iadd, 1) by decide +kernel) rfl ?_
    refine tr_bipush (pc' := 51) (v := (17 : Int32)) (show decode cX7_keepNoted 49 = .ok (.bipush 17, 2) by decide +kernel) rfl (by decide) ?_
    refine tr_irem (pc' := 52) (show decode cX7_keepNoted 51 = .ok (.irem, 1) by decide +kernel) rfl (by decide) ?_
    obtain ⟨μ4, eμ4, h⟩ := hm_bs h
    refine tp_pI (pc' := 55) fl_HandRing_Steps_26 (show decode cX7_keepNoted 52 = .ok (.putfield 26, 3) by decide +kernel) rfl (la_so hL ho0) eμ4 ?_
    replace hL := hL.same (hm_pI_s eμ4)
    cases h
    exact tr_vret rfl (show decode cX7_keepNoted 55 = .ok (.return_, 1) by decide +kernel) hL
  · refine tr_icmp_ge_f (tgt := 42) (pc' := 29) hc (show decode cX7_keepNoted 26 = .ok (.if_icmp .ge 16, 3) by decide +kernel) (by decide) rfl ?_
    refine tr_aload_n (pc' := 30) (show decode cX7_keepNoted 29 = .ok (.aload_n 0, 1) by decide +kernel) rfl rfl rfl ?_
    refine tr_dup (pc' := 31) (show decode cX7_keepNoted 30 = .ok (.dup, 1) by decide +kernel) rfl rfl ?_
    refine tr_getI (pc' := 34) fl_HandRing_Steps_16 (show decode cX7_keepNoted 31 = .ok (.getfield 16, 3) by decide +kernel) rfl (la_so hL ho0) ?_
    refine tr_iconst (pc' := 35) (v := (1 : Int32)) (show decode cX7_keepNoted 34 = .ok (.iconst 1, 1) by decide +kernel) rfl (by decide) ?_
    refine tr_iadd (pc' := 36) (show decode cX7_keepNoted 35 = .ok (.iadd, 1) by decide +kernel) rfl ?_
    obtain ⟨μ5, eμ5, h⟩ := hm_bs h
    refine tp_pI (pc' := 39) fl_HandRing_Steps_16 (show decode cX7_keepNoted 36 = .ok (.putfield 16, 3) by decide +kernel) rfl (la_so hL ho0) eμ5 ?_
    replace hL := hL.same (hm_pI_s eμ5)
    refine tr_goto (tgt := 55) (show decode cX7_keepNoted 39 = .ok (.goto 16, 3) by decide +kernel) rfl ?_
    cases h
    exact tr_vret rfl (show decode cX7_keepNoted 55 = .ok (.return_, 1) by decide +kernel) hL
def f_X1_doNoted (v1 : Nat) (v2 : Nat) (v3 : Int32) (v4 : Int32) (v5 : Int32) (μ : hm_M) : Option (Int32 × hm_M) :=
  Option.bind (f_X7_note v1 v2 μ) fun μ3 =>
  hm_b2 (f_X1_doOne v2 v3 v4 v5 μ3) fun x4 μ5 =>
  (if x4 < 0 then
  some (x4, μ5)
  else
  Option.bind (f_X7_keepNoted v1 v3 μ5) fun μ7 =>
  some (x4, μ7))
set_option maxRecDepth 100000 in
theorem ok_X1_doNoted {fr : Nat} (hfr : 6 ≤ fr) {ν : hm_N} {r : Int32} {μR : hm_M}  (v1 : Nat) (v2 : Nat) (v3 : Int32) (v4 : Int32) (v5 : Int32) (hv1 : hm_S v1) (hv2 : hm_V v2) (μ : hm_M) (hL : hm_LL ν μ) (h : f_X1_doNoted v1 v2 v3 v4 v5 μ = some (r, μR)) : hm_CC (hm_LL ν) m_X1_doNoted fr 0 0 [.ref 110, .ref v1, .ref v2, .int v3, .int v4, .int v5] μ (some (.int r)) μR := by
  refine hm_enter (lv := [some (.ref 110), some (.ref v1), some (.ref v2), some (.int v3), some (.int v4), some (.int v5), none]) (by decide) rfl (Nat.le_of_ble_eq_true rfl) ?_
  unfold f_X1_doNoted at h
  refine tr_aload_n (pc' := 1) (show decode cX1_doNoted 0 = .ok (.aload_n 1, 1) by decide +kernel) rfl rfl rfl ?_
  refine tr_aload_n (pc' := 2) (show decode cX1_doNoted 1 = .ok (.aload_n 2, 1) by decide +kernel) rfl rfl rfl ?_
  obtain ⟨μ3, ex2, h⟩ := hm_bs h
  have cx2 := ok_X7_note (fr := fr - 1) (ν := ν) (by omega) v1 v2 hv1 hv2 μ hL ex2
  refine tp_callV (pc' := 5) (As := [.ref v2]) (fr1 := fr - 1) (ci := 7) okm_X7_note lk_HandRing_Deeds_19 (show decode cX1_doNoted 2 = .ok (.invokevirtual 19, 3) by decide +kernel) rfl rfl rfl (by decide) (la_so hL hv1) rfl rfl (Nat.le_of_ble_eq_true rfl) (by omega) cx2 (st' := []) rfl ?_
  replace hL := cx2.1
  refine tr_aload_n (pc' := 6) (show decode cX1_doNoted 5 = .ok (.aload_n 0, 1) by decide +kernel) rfl rfl rfl ?_
  refine tr_aload_n (pc' := 7) (show decode cX1_doNoted 6 = .ok (.aload_n 2, 1) by decide +kernel) rfl rfl rfl ?_
  refine tr_iload_n (pc' := 8) (show decode cX1_doNoted 7 = .ok (.iload_n 3, 1) by decide +kernel) rfl rfl rfl ?_
  refine tr_iload (pc' := 10) (show decode cX1_doNoted 8 = .ok (.iload 4, 2) by decide +kernel) rfl rfl ?_
  refine tr_iload (pc' := 12) (show decode cX1_doNoted 10 = .ok (.iload 5, 2) by decide +kernel) rfl rfl ?_
  obtain ⟨x4, μ5, ex4, h⟩ := hm_b2s h
  have cx4 := ok_X1_doOne (fr := fr - 1) (ν := ν) (by omega) v2 v3 v4 v5 hv2 μ3 hL ex4
  refine tp_callV (pc' := 15) (As := [.ref v2, .int v3, .int v4, .int v5]) (fr1 := fr - 1) (ci := 1) okm_X1_doOne lk_HandRing_Deeds_25 (show decode cX1_doNoted 12 = .ok (.invokevirtual 25, 3) by decide +kernel) rfl rfl rfl (by decide) (la_o hL (by decide) rfl) rfl rfl (Nat.le_of_ble_eq_true rfl) (by omega) cx4 (st' := [.int x4]) rfl ?_
  replace hL := cx4.1
  refine tr_istore (pc' := 17) (lv' := [some (.ref 110), some (.ref v1), some (.ref v2), some (.int v3), some (.int v4), some (.int v5), some (.int x4)]) (show decode cX1_doNoted 15 = .ok (.istore 6, 2) by decide +kernel) rfl (Nat.le_of_ble_eq_true rfl) rfl rfl ?_
  refine tr_iload (pc' := 19) (show decode cX1_doNoted 17 = .ok (.iload 6, 2) by decide +kernel) rfl rfl ?_
  rcases hm_is h with ⟨hc, h⟩ | ⟨hc, h⟩
  · refine tr_if_lt_t (tgt := 27) hc (show decode cX1_doNoted 19 = .ok (.ifCond .lt 8, 3) by decide +kernel) (by decide) ?_
    refine tr_iload (pc' := 29) (show decode cX1_doNoted 27 = .ok (.iload 6, 2) by decide +kernel) rfl rfl ?_
    cases h
    exact tr_iret rfl (show decode cX1_doNoted 29 = .ok (.ireturn, 1) by decide +kernel) hL
  · refine tr_if_lt_f (tgt := 27) (pc' := 22) hc (show decode cX1_doNoted 19 = .ok (.ifCond .lt 8, 3) by decide +kernel) (by decide) rfl ?_
    refine tr_aload_n (pc' := 23) (show decode cX1_doNoted 22 = .ok (.aload_n 1, 1) by decide +kernel) rfl rfl rfl ?_
    refine tr_iload_n (pc' := 24) (show decode cX1_doNoted 23 = .ok (.iload_n 3, 1) by decide +kernel) rfl rfl rfl ?_
    obtain ⟨μ7, ex6, h⟩ := hm_bs h
    have cx6 := ok_X7_keepNoted (fr := fr - 1) (ν := ν) (by omega) v1 v3 hv1 μ5 hL ex6
    refine tp_callV (pc' := 27) (As := [.int v3]) (fr1 := fr - 1) (ci := 7) okm_X7_keepNoted lk_HandRing_Deeds_29 (show decode cX1_doNoted 24 = .ok (.invokevirtual 29, 3) by decide +kernel) rfl rfl rfl (by decide) (la_so hL hv1) rfl rfl (Nat.le_of_ble_eq_true rfl) (by omega) cx6 (st' := []) rfl ?_
    replace hL := cx6.1
    refine tr_iload (pc' := 29) (show decode cX1_doNoted 27 = .ok (.iload 6, 2) by decide +kernel) rfl rfl ?_
    cases h
    exact tr_iret rfl (show decode cX1_doNoted 29 = .ok (.ireturn, 1) by decide +kernel) hL
def f_X8_copyFrom_L84 (o0 : Nat) (v1 : Nat) (e108 : hm_M → Option hm_M) : Nat → Int32 → hm_M → Option hm_M
  | 0, _, _ => none
  | n + 1, y2, μ1 => (if (6 : Int32) ≤ y2 then
  e108 μ1
  else
  Option.bind (hm_ldR μ1 (v1 + 6) 6 y2) fun x8 =>
  Option.bind (hm_sdR μ1 (o0 + 6) 6 y2 x8) fun μ9 =>
  (f_X8_copyFrom_L84 o0 v1 e108 n) (y2 + (1 : Int32)) μ9)
theorem ok_X8_copyFrom_L84 {fr : Nat} (hfr : 1 ≤ fr) {ν : hm_N} {μR : hm_M}  (o0 : Nat) (v1 : Nat) (e108 : hm_M → Option hm_M)  (he108 : ∀   (μ1 : hm_M), hm_LL ν μ1 → e108 μ1 = some μR → hm_T (hm_LL ν) m_X8_copyFrom fr 0 0 none μR 108 [some (.ref o0), some (.ref v1), none] [] μ1) (ho0 : hm_V o0) (hv1 : hm_V v1) : ∀ (n : Nat) (y2 : Int32)  (μ1 : hm_M), hm_LL ν μ1 → f_X8_copyFrom_L84 o0 v1 e108 n y2 μ1 = some μR → hm_T (hm_LL ν) m_X8_copyFrom fr 0 0 none μR 84 [some (.ref o0), some (.ref v1), some (.int y2)] [] μ1 := by
  intro n
  induction n with
  | zero =>
    intro y2 μ1 hL h
    unfold f_X8_copyFrom_L84 at h
    cases h
  | succ n ih =>
    intro y2 μ1 hL h
    unfold f_X8_copyFrom_L84 at h
    refine tr_iload_n (pc' := 85) (show decode cX8_copyFrom 84 = .ok (.iload_n 2, 1) by decide +kernel) rfl rfl rfl ?_
    refine tr_bipush (pc' := 87) (v := (6 : Int32)) (show decode cX8_copyFrom 85 = .ok (.bipush 6, 2) by decide +kernel) rfl (by decide) ?_
    rcases hm_is h with ⟨hc, h⟩ | ⟨hc, h⟩
    · refine tr_icmp_ge_t (tgt := 108) hc (show decode cX8_copyFrom 87 = .ok (.if_icmp .ge 21, 3) by decide +kernel) (by decide) ?_
      refine hm_fgt [true, true, false] (lv' := [some (.ref o0), some (.ref v1), none]) rfl ?_
      exact he108 μ1 hL h
    · refine tr_icmp_ge_f (tgt := 108) (pc' := 90) hc (show decode cX8_copyFrom 87 = .ok (.if_icmp .ge 21, 3) by decide +kernel) (by decide) rfl ?_
      refine tr_aload_n (pc' := 91) (show decode cX8_copyFrom 90 = .ok (.aload_n 0, 1) by decide +kernel) rfl rfl rfl ?_
      refine tr_getR (pc' := 94) fl_HandRing_Village_29 (show decode cX8_copyFrom 91 = .ok (.getfield 29, 3) by decide +kernel) rfl (la_vo hL ho0) (la_v6 hL ho0) ?_
      refine tr_iload_n (pc' := 95) (show decode cX8_copyFrom 94 = .ok (.iload_n 2, 1) by decide +kernel) rfl rfl rfl ?_
      refine tr_aload_n (pc' := 96) (show decode cX8_copyFrom 95 = .ok (.aload_n 1, 1) by decide +kernel) rfl rfl rfl ?_
      refine tr_getR (pc' := 99) fl_HandRing_Village_29 (show decode cX8_copyFrom 96 = .ok (.getfield 29, 3) by decide +kernel) rfl (la_vo hL hv1) (la_v6 hL hv1) ?_
      refine tr_iload_n (pc' := 100) (show decode cX8_copyFrom 99 = .ok (.iload_n 2, 1) by decide +kernel) rfl rfl rfl ?_
      obtain ⟨x8, ex8, h⟩ := hm_bs h
      have hx8 := la_law hL hv1 ex8
      refine tp_ldR (pc' := 101) (t0 := 5) (by decide) (fun _ => rfl) rfl (show decode cX8_copyFrom 100 = .ok (.aaload, 1) by decide +kernel) rfl (la_va6 hL hv1) ex8 rfl ?_
      obtain ⟨μ9, eμ9, h⟩ := hm_bs h
      refine tp_sdR (pc' := 102) (x := x8) (fun _ z => la_po hL (hx8 _ z)) (show decode cX8_copyFrom 101 = .ok (.aastore, 1) by decide +kernel) rfl (la_va6 hL ho0) eμ9 ?_
      replace hL := la_wlaw hL ho0 hx8 eμ9
      refine tr_iinc (pc' := 105) (v := y2 + (1 : Int32)) (lv' := [some (.ref o0), some (.ref v1), some (.int (y2 + (1 : Int32)))]) (show decode cX8_copyFrom 102 = .ok (.iinc 2 1, 3) by decide +kernel) rfl rfl rfl (Nat.le_of_ble_eq_true rfl) rfl rfl ?_
      refine tr_goto (tgt := 84) (show decode cX8_copyFrom 105 = .ok (.goto (-21), 3) by decide +kernel) rfl ?_
      exact ih (y2 + (1 : Int32)) μ9 hL h
def f_X8_copyFrom (o0 : Nat) (v1 : Nat) (μ : hm_M) : Option hm_M :=
  Option.bind (hm_pI μ o0 0 (μ.1 v1 0)) fun μ2 =>
  Option.bind (hm_cp μ2 (v1 + 1) 8 (0 : Int32) (o0 + 1) 8 (0 : Int32) (8 : Int32)) fun μ3 =>
  Option.bind (hm_cp μ3 (v1 + 2) 8 (0 : Int32) (o0 + 2) 8 (0 : Int32) (8 : Int32)) fun μ4 =>
  Option.bind (hm_cp μ4 (v1 + 3) 8 (0 : Int32) (o0 + 3) 8 (0 : Int32) (8 : Int32)) fun μ5 =>
  Option.bind (hm_cp μ5 (v1 + 4) 8 (0 : Int32) (o0 + 4) 8 (0 : Int32) (8 : Int32)) fun μ6 =>
  Option.bind (hm_cp μ6 (v1 + 5) 4 (0 : Int32) (o0 + 5) 4 (0 : Int32) (4 : Int32)) fun μ7 =>
  f_X8_copyFrom_L84 o0 v1 (fun μz10 => Option.bind (hm_pI μz10 o0 7 (μz10.1 v1 7)) fun μ11 =>
  Option.bind (hm_pI μ11 o0 8 (μ11.1 v1 8)) fun μ12 =>
  Option.bind (hm_cp μ12 (v1 + 7) 6 (0 : Int32) (o0 + 7) 6 (0 : Int32) (6 : Int32)) fun μ13 =>
  Option.bind (hm_cp μ13 (v1 + 8) 6 (0 : Int32) (o0 + 8) 6 (0 : Int32) (6 : Int32)) fun μ14 =>
  Option.bind (hm_cp μ14 (v1 + 9) 6 (0 : Int32) (o0 + 9) 6 (0 : Int32) (6 : Int32)) fun μ15 =>
  Option.bind (hm_pI μ15 o0 12 (μ15.1 v1 12)) fun μ16 =>
  some μ16) hm_fu (0 : Int32) μ7
set_option maxRecDepth 100000 in
theorem ok_X8_copyFrom {fr : Nat} (hfr : 1 ≤ fr) {ν : hm_N} {μR : hm_M}  (o0 : Nat) (v1 : Nat) (ho0 : hm_V o0) (hv1 : hm_V v1) (μ : hm_M) (hL : hm_LL ν μ) (h : f_X8_copyFrom o0 v1 μ = some μR) : hm_CC (hm_LL ν) m_X8_copyFrom fr 0 0 [.ref o0, .ref v1] μ none μR := by
  refine hm_enter (lv := [some (.ref o0), some (.ref v1), none]) (by decide) rfl (Nat.le_of_ble_eq_true rfl) ?_
  unfold f_X8_copyFrom at h
  refine tr_aload_n (pc' := 1) (show decode cX8_copyFrom 0 = .ok (.aload_n 0, 1) by decide +kernel) rfl rfl rfl ?_
  refine tr_aload_n (pc' := 2) (show decode cX8_copyFrom 1 = .ok (.aload_n 1, 1) by decide +kernel) rfl rfl rfl ?_
  refine tr_getI (pc' := 5) fl_HandRing_Village_55 (show decode cX8_copyFrom 2 = .ok (.getfield 55, 3) by decide +kernel) rfl (la_vo hL hv1) ?_
  obtain ⟨μ2, eμ2, h⟩ := hm_bs h
  refine tp_pI (pc' := 8) fl_HandRing_Village_55 (show decode cX8_copyFrom 5 = .ok (.putfield 55, 3) by decide +kernel) rfl (la_vo hL ho0) eμ2 ?_
  replace hL := hL.same (hm_pI_s eμ2)
  refine tr_aload_n (pc' := 9) (show decode cX8_copyFrom 8 = .ok (.aload_n 1, 1) by decide +kernel) rfl rfl rfl ?_
  refine tr_getR (pc' := 12) fl_HandRing_Village_9 (show decode cX8_copyFrom 9 = .ok (.getfield 9, 3) by decide +kernel) rfl (la_vo hL hv1) (la_v1 hL hv1) ?_
  refine tr_iconst (pc' := 13) (v := (0 : Int32)) (show decode cX8_copyFrom 12 = .ok (.iconst 0, 1) by decide +kernel) rfl (by decide) ?_
  refine tr_aload_n (pc' := 14) (show decode cX8_copyFrom 13 = .ok (.aload_n 0, 1) by decide +kernel) rfl rfl rfl ?_
  refine tr_getR (pc' := 17) fl_HandRing_Village_9 (show decode cX8_copyFrom 14 = .ok (.getfield 9, 3) by decide +kernel) rfl (la_vo hL ho0) (la_v1 hL ho0) ?_
  refine tr_iconst (pc' := 18) (v := (0 : Int32)) (show decode cX8_copyFrom 17 = .ok (.iconst 0, 1) by decide +kernel) rfl (by decide) ?_
  refine tr_bipush (pc' := 20) (v := (8 : Int32)) (show decode cX8_copyFrom 18 = .ok (.bipush 8, 2) by decide +kernel) rfl (by decide) ?_
  obtain ⟨μ3, eμ3, h⟩ := hm_bs h
  refine tp_cp (pc' := 23) lk_HandRing_Village_49 kw_ac_n kw_ac_s kw_Sys_i (show decode cX8_copyFrom 20 = .ok (.invokestatic 49, 3) by decide +kernel) rfl (Nat.le_of_ble_eq_true rfl) (by omega) (la_va1 hL hv1) (la_va1 hL ho0) eμ3 ?_
  replace hL := hL.same (hm_cp_s eμ3)
  refine tr_aload_n (pc' := 24) (show decode cX8_copyFrom 23 = .ok (.aload_n 1, 1) by decide +kernel) rfl rfl rfl ?_
  refine tr_getR (pc' := 27) fl_HandRing_Village_15 (show decode cX8_copyFrom 24 = .ok (.getfield 15, 3) by decide +kernel) rfl (la_vo hL hv1) (la_v2 hL hv1) ?_
  refine tr_iconst (pc' := 28) (v := (0 : Int32)) (show decode cX8_copyFrom 27 = .ok (.iconst 0, 1) by decide +kernel) rfl (by decide) ?_
  refine tr_aload_n (pc' := 29) (show decode cX8_copyFrom 28 = .ok (.aload_n 0, 1) by decide +kernel) rfl rfl rfl ?_
  refine tr_getR (pc' := 32) fl_HandRing_Village_15 (show decode cX8_copyFrom 29 = .ok (.getfield 15, 3) by decide +kernel) rfl (la_vo hL ho0) (la_v2 hL ho0) ?_
  refine tr_iconst (pc' := 33) (v := (0 : Int32)) (show decode cX8_copyFrom 32 = .ok (.iconst 0, 1) by decide +kernel) rfl (by decide) ?_
  refine tr_bipush (pc' := 35) (v := (8 : Int32)) (show decode cX8_copyFrom 33 = .ok (.bipush 8, 2) by decide +kernel) rfl (by decide) ?_
  obtain ⟨μ4, eμ4, h⟩ := hm_bs h
  refine tp_cp (pc' := 38) lk_HandRing_Village_49 kw_ac_n kw_ac_s kw_Sys_i (show decode cX8_copyFrom 35 = .ok (.invokestatic 49, 3) by decide +kernel) rfl (Nat.le_of_ble_eq_true rfl) (by omega) (la_va2 hL hv1) (la_va2 hL ho0) eμ4 ?_
  replace hL := hL.same (hm_cp_s eμ4)
  refine tr_aload_n (pc' := 39) (show decode cX8_copyFrom 38 = .ok (.aload_n 1, 1) by decide +kernel) rfl rfl rfl ?_
  refine tr_getR (pc' := 42) fl_HandRing_Village_18 (show decode cX8_copyFrom 39 = .ok (.getfield 18, 3) by decide +kernel) rfl (la_vo hL hv1) (la_v3 hL hv1) ?_
  refine tr_iconst (pc' := 43) (v := (0 : Int32)) (show decode cX8_copyFrom 42 = .ok (.iconst 0, 1) by decide +kernel) rfl (by decide) ?_
  refine tr_aload_n (pc' := 44) (show decode cX8_copyFrom 43 = .ok (.aload_n 0, 1) by decide +kernel) rfl rfl rfl ?_
  refine tr_getR (pc' := 47) fl_HandRing_Village_18 (show decode cX8_copyFrom 44 = .ok (.getfield 18, 3) by decide +kernel) rfl (la_vo hL ho0) (la_v3 hL ho0) ?_
  refine tr_iconst (pc' := 48) (v := (0 : Int32)) (show decode cX8_copyFrom 47 = .ok (.iconst 0, 1) by decide +kernel) rfl (by decide) ?_
  refine tr_bipush (pc' := 50) (v := (8 : Int32)) (show decode cX8_copyFrom 48 = .ok (.bipush 8, 2) by decide +kernel) rfl (by decide) ?_
  obtain ⟨μ5, eμ5, h⟩ := hm_bs h
  refine tp_cp (pc' := 53) lk_HandRing_Village_49 kw_ac_n kw_ac_s kw_Sys_i (show decode cX8_copyFrom 50 = .ok (.invokestatic 49, 3) by decide +kernel) rfl (Nat.le_of_ble_eq_true rfl) (by omega) (la_va3 hL hv1) (la_va3 hL ho0) eμ5 ?_
  replace hL := hL.same (hm_cp_s eμ5)
  refine tr_aload_n (pc' := 54) (show decode cX8_copyFrom 53 = .ok (.aload_n 1, 1) by decide +kernel) rfl rfl rfl ?_
  refine tr_getR (pc' := 57) fl_HandRing_Village_21 (show decode cX8_copyFrom 54 = .ok (.getfield 21, 3) by decide +kernel) rfl (la_vo hL hv1) (la_v4 hL hv1) ?_
  refine tr_iconst (pc' := 58) (v := (0 : Int32)) (show decode cX8_copyFrom 57 = .ok (.iconst 0, 1) by decide +kernel) rfl (by decide) ?_
  refine tr_aload_n (pc' := 59) (show decode cX8_copyFrom 58 = .ok (.aload_n 0, 1) by decide +kernel) rfl rfl rfl ?_
  refine tr_getR (pc' := 62) fl_HandRing_Village_21 (show decode cX8_copyFrom 59 = .ok (.getfield 21, 3) by decide +kernel) rfl (la_vo hL ho0) (la_v4 hL ho0) ?_
  refine tr_iconst (pc' := 63) (v := (0 : Int32)) (show decode cX8_copyFrom 62 = .ok (.iconst 0, 1) by decide +kernel) rfl (by decide) ?_
  refine tr_bipush (pc' := 65) (v := (8 : Int32)) (show decode cX8_copyFrom 63 = .ok (.bipush 8, 2) by decide +kernel) rfl (by decide) ?_
  obtain ⟨μ6, eμ6, h⟩ := hm_bs h
  refine tp_cp (pc' := 68) lk_HandRing_Village_49 kw_ac_n kw_ac_s kw_Sys_i (show decode cX8_copyFrom 65 = .ok (.invokestatic 49, 3) by decide +kernel) rfl (Nat.le_of_ble_eq_true rfl) (by omega) (la_va4 hL hv1) (la_va4 hL ho0) eμ6 ?_
  replace hL := hL.same (hm_cp_s eμ6)
  refine tr_aload_n (pc' := 69) (show decode cX8_copyFrom 68 = .ok (.aload_n 1, 1) by decide +kernel) rfl rfl rfl ?_
  refine tr_getR (pc' := 72) fl_HandRing_Village_24 (show decode cX8_copyFrom 69 = .ok (.getfield 24, 3) by decide +kernel) rfl (la_vo hL hv1) (la_v5 hL hv1) ?_
  refine tr_iconst (pc' := 73) (v := (0 : Int32)) (show decode cX8_copyFrom 72 = .ok (.iconst 0, 1) by decide +kernel) rfl (by decide) ?_
  refine tr_aload_n (pc' := 74) (show decode cX8_copyFrom 73 = .ok (.aload_n 0, 1) by decide +kernel) rfl rfl rfl ?_
  refine tr_getR (pc' := 77) fl_HandRing_Village_24 (show decode cX8_copyFrom 74 = .ok (.getfield 24, 3) by decide +kernel) rfl (la_vo hL ho0) (la_v5 hL ho0) ?_
  refine tr_iconst (pc' := 78) (v := (0 : Int32)) (show decode cX8_copyFrom 77 = .ok (.iconst 0, 1) by decide +kernel) rfl (by decide) ?_
  refine tr_iconst (pc' := 79) (v := (4 : Int32)) (show decode cX8_copyFrom 78 = .ok (.iconst 4, 1) by decide +kernel) rfl (by decide) ?_
  obtain ⟨μ7, eμ7, h⟩ := hm_bs h
  refine tp_cp (pc' := 82) lk_HandRing_Village_49 kw_ac_n kw_ac_s kw_Sys_i (show decode cX8_copyFrom 79 = .ok (.invokestatic 49, 3) by decide +kernel) rfl (Nat.le_of_ble_eq_true rfl) (by omega) (la_va5 hL hv1) (la_va5 hL ho0) eμ7 ?_
  replace hL := hL.same (hm_cp_s eμ7)
  refine tr_iconst (pc' := 83) (v := (0 : Int32)) (show decode cX8_copyFrom 82 = .ok (.iconst 0, 1) by decide +kernel) rfl (by decide) ?_
  refine tr_istore_n (pc' := 84) (lv' := [some (.ref o0), some (.ref v1), some (.int (0 : Int32))]) (show decode cX8_copyFrom 83 = .ok (.istore_n 2, 1) by decide +kernel) rfl rfl (Nat.le_of_ble_eq_true rfl) rfl rfl ?_
  refine ok_X8_copyFrom_L84 hfr _ _ _ ?_ ho0 hv1 _ (0 : Int32) μ7 hL h
  · intro μz10 hL h
    refine tr_aload_n (pc' := 109) (show decode cX8_copyFrom 108 = .ok (.aload_n 0, 1) by decide +kernel) rfl rfl rfl ?_
    refine tr_aload_n (pc' := 110) (show decode cX8_copyFrom 109 = .ok (.aload_n 1, 1) by decide +kernel) rfl rfl rfl ?_
    refine tr_getI (pc' := 113) fl_HandRing_Village_58 (show decode cX8_copyFrom 110 = .ok (.getfield 58, 3) by decide +kernel) rfl (la_vo hL hv1) ?_
    obtain ⟨μ11, eμ11, h⟩ := hm_bs h
    refine tp_pI (pc' := 116) fl_HandRing_Village_58 (show decode cX8_copyFrom 113 = .ok (.putfield 58, 3) by decide +kernel) rfl (la_vo hL ho0) eμ11 ?_
    replace hL := hL.same (hm_pI_s eμ11)
    refine tr_aload_n (pc' := 117) (show decode cX8_copyFrom 116 = .ok (.aload_n 0, 1) by decide +kernel) rfl rfl rfl ?_
    refine tr_aload_n (pc' := 118) (show decode cX8_copyFrom 117 = .ok (.aload_n 1, 1) by decide +kernel) rfl rfl rfl ?_
    refine tr_getI (pc' := 121) fl_HandRing_Village_33 (show decode cX8_copyFrom 118 = .ok (.getfield 33, 3) by decide +kernel) rfl (la_vo hL hv1) ?_
    obtain ⟨μ12, eμ12, h⟩ := hm_bs h
    refine tp_pI (pc' := 124) fl_HandRing_Village_33 (show decode cX8_copyFrom 121 = .ok (.putfield 33, 3) by decide +kernel) rfl (la_vo hL ho0) eμ12 ?_
    replace hL := hL.same (hm_pI_s eμ12)
    refine tr_aload_n (pc' := 125) (show decode cX8_copyFrom 124 = .ok (.aload_n 1, 1) by decide +kernel) rfl rfl rfl ?_
    refine tr_getR (pc' := 128) fl_HandRing_Village_37 (show decode cX8_copyFrom 125 = .ok (.getfield 37, 3) by decide +kernel) rfl (la_vo hL hv1) (la_v9 hL hv1) ?_
    refine tr_iconst (pc' := 129) (v := (0 : Int32)) (show decode cX8_copyFrom 128 = .ok (.iconst 0, 1) by decide +kernel) rfl (by decide) ?_
    refine tr_aload_n (pc' := 130) (show decode cX8_copyFrom 129 = .ok (.aload_n 0, 1) by decide +kernel) rfl rfl rfl ?_
    refine tr_getR (pc' := 133) fl_HandRing_Village_37 (show decode cX8_copyFrom 130 = .ok (.getfield 37, 3) by decide +kernel) rfl (la_vo hL ho0) (la_v9 hL ho0) ?_
    refine tr_iconst (pc' := 134) (v := (0 : Int32)) (show decode cX8_copyFrom 133 = .ok (.iconst 0, 1) by decide +kernel) rfl (by decide) ?_
    refine tr_bipush (pc' := 136) (v := (6 : Int32)) (show decode cX8_copyFrom 134 = .ok (.bipush 6, 2) by decide +kernel) rfl (by decide) ?_
    obtain ⟨μ13, eμ13, h⟩ := hm_bs h
    refine tp_cp (pc' := 139) lk_HandRing_Village_49 kw_ac_n kw_ac_s kw_Sys_i (show decode cX8_copyFrom 136 = .ok (.invokestatic 49, 3) by decide +kernel) rfl (Nat.le_of_ble_eq_true rfl) (by omega) (la_va9 hL hv1) (la_va9 hL ho0) eμ13 ?_
    replace hL := hL.same (hm_cp_s eμ13)
    refine tr_aload_n (pc' := 140) (show decode cX8_copyFrom 139 = .ok (.aload_n 1, 1) by decide +kernel) rfl rfl rfl ?_
    refine tr_getR (pc' := 143) fl_HandRing_Village_40 (show decode cX8_copyFrom 140 = .ok (.getfield 40, 3) by decide +kernel) rfl (la_vo hL hv1) (la_v10 hL hv1) ?_
    refine tr_iconst (pc' := 144) (v := (0 : Int32)) (show decode cX8_copyFrom 143 = .ok (.iconst 0, 1) by decide +kernel) rfl (by decide) ?_
    refine tr_aload_n (pc' := 145) (show decode cX8_copyFrom 144 = .ok (.aload_n 0, 1) by decide +kernel) rfl rfl rfl ?_
    refine tr_getR (pc' := 148) fl_HandRing_Village_40 (show decode cX8_copyFrom 145 = .ok (.getfield 40, 3) by decide +kernel) rfl (la_vo hL ho0) (la_v10 hL ho0) ?_
    refine tr_iconst (pc' := 149) (v := (0 : Int32)) (show decode cX8_copyFrom 148 = .ok (.iconst 0, 1) by decide +kernel) rfl (by decide) ?_
    refine tr_bipush (pc' := 151) (v := (6 : Int32)) (show decode cX8_copyFrom 149 = .ok (.bipush 6, 2) by decide +kernel) rfl (by decide) ?_
    obtain ⟨μ14, eμ14, h⟩ := hm_bs h
    refine tp_cp (pc' := 154) lk_HandRing_Village_49 kw_ac_n kw_ac_s kw_Sys_i (show decode cX8_copyFrom 151 = .ok (.invokestatic 49, 3) by decide +kernel) rfl (Nat.le_of_ble_eq_true rfl) (by omega) (la_va10 hL hv1) (la_va10 hL ho0) eμ14 ?_
    replace hL := hL.same (hm_cp_s eμ14)
    refine tr_aload_n (pc' := 155) (show decode cX8_copyFrom 154 = .ok (.aload_n 1, 1) by decide +kernel) rfl rfl rfl ?_
    refine tr_getR (pc' := 158) fl_HandRing_Village_43 (show decode cX8_copyFrom 155 = .ok (.getfield 43, 3) by decide +kernel) rfl (la_vo hL hv1) (la_v11 hL hv1) ?_
    refine tr_iconst (pc' := 159) (v := (0 : Int32)) (show decode cX8_copyFrom 158 = .ok (.iconst 0, 1) by decide +kernel) rfl (by decide) ?_
    refine tr_aload_n (pc' := 160) (show decode cX8_copyFrom 159 = .ok (.aload_n 0, 1) by decide +kernel) rfl rfl rfl ?_
    refine tr_getR (pc' := 163) fl_HandRing_Village_43 (show decode cX8_copyFrom 160 = .ok (.getfield 43, 3) by decide +kernel) rfl (la_vo hL ho0) (la_v11 hL ho0) ?_
    refine tr_iconst (pc' := 164) (v := (0 : Int32)) (show decode cX8_copyFrom 163 = .ok (.iconst 0, 1) by decide +kernel) rfl (by decide) ?_
    refine tr_bipush (pc' := 166) (v := (6 : Int32)) (show decode cX8_copyFrom 164 = .ok (.bipush 6, 2) by decide +kernel) rfl (by decide) ?_
    obtain ⟨μ15, eμ15, h⟩ := hm_bs h
    refine tp_cp (pc' := 169) lk_HandRing_Village_49 kw_ac_n kw_ac_s kw_Sys_i (show decode cX8_copyFrom 166 = .ok (.invokestatic 49, 3) by decide +kernel) rfl (Nat.le_of_ble_eq_true rfl) (by omega) (la_va11 hL hv1) (la_va11 hL ho0) eμ15 ?_
    replace hL := hL.same (hm_cp_s eμ15)
    refine tr_aload_n (pc' := 170) (show decode cX8_copyFrom 169 = .ok (.aload_n 0, 1) by decide +kernel) rfl rfl rfl ?_
    refine tr_aload_n (pc' := 171) (show decode cX8_copyFrom 170 = .ok (.aload_n 1, 1) by decide +kernel) rfl rfl rfl ?_
    refine tr_getI (pc' := 174) fl_HandRing_Village_61 (show decode cX8_copyFrom 171 = .ok (.getfield 61, 3) by decide +kernel) rfl (la_vo hL hv1) ?_
    obtain ⟨μ16, eμ16, h⟩ := hm_bs h
    refine tp_pI (pc' := 177) fl_HandRing_Village_61 (show decode cX8_copyFrom 174 = .ok (.putfield 61, 3) by decide +kernel) rfl (la_vo hL ho0) eμ16 ?_
    replace hL := hL.same (hm_pI_s eμ16)
    cases h
    exact tr_vret rfl (show decode cX8_copyFrom 177 = .ok (.return_, 1) by decide +kernel) hL
def f_X7_copyFrom_L2 (o0 : Nat) (v1 : Nat) (e33 : hm_M → Option hm_M) : Nat → Int32 → hm_M → Option hm_M
  | 0, _, _ => none
  | n + 1, y2, μ1 => (if (17 : Int32) ≤ y2 then
  e33 μ1
  else
  Option.bind (hm_ldR μ1 (v1 + 1) 17 y2) fun _x2 =>
  Option.bind (hm_ldR μ1 (o0 + 1) 17 y2) fun _x3 =>
  Option.bind (hm_cp μ1 (v1 + 2 + y2.toNatClampNeg) 26 (0 : Int32) (o0 + 2 + y2.toNatClampNeg) 26 (0 : Int32) (26 : Int32)) fun μ4 =>
  (f_X7_copyFrom_L2 o0 v1 e33 n) (y2 + (1 : Int32)) μ4)
theorem ok_X7_copyFrom_L2 {fr : Nat} (hfr : 1 ≤ fr) {ν : hm_N} {μR : hm_M}  (o0 : Nat) (v1 : Nat) (e33 : hm_M → Option hm_M)  (he33 : ∀   (μ1 : hm_M), hm_LL ν μ1 → e33 μ1 = some μR → hm_T (hm_LL ν) m_X7_copyFrom fr 0 0 none μR 33 [some (.ref o0), some (.ref v1), none] [] μ1) (ho0 : hm_S o0) (hv1 : hm_S v1) : ∀ (n : Nat) (y2 : Int32)  (μ1 : hm_M), hm_LL ν μ1 → f_X7_copyFrom_L2 o0 v1 e33 n y2 μ1 = some μR → hm_T (hm_LL ν) m_X7_copyFrom fr 0 0 none μR 2 [some (.ref o0), some (.ref v1), some (.int y2)] [] μ1 := by
  intro n
  induction n with
  | zero =>
    intro y2 μ1 hL h
    unfold f_X7_copyFrom_L2 at h
    cases h
  | succ n ih =>
    intro y2 μ1 hL h
    unfold f_X7_copyFrom_L2 at h
    refine tr_iload_n (pc' := 3) (show decode cX7_copyFrom 2 = .ok (.iload_n 2, 1) by decide +kernel) rfl rfl rfl ?_
    refine tr_bipush (pc' := 5) (v := (17 : Int32)) (show decode cX7_copyFrom 3 = .ok (.bipush 17, 2) by decide +kernel) rfl (by decide) ?_
    rcases hm_is h with ⟨hc, h⟩ | ⟨hc, h⟩
    · refine tr_icmp_ge_t (tgt := 33) hc (show decode cX7_copyFrom 5 = .ok (.if_icmp .ge 28, 3) by decide +kernel) (by decide) ?_
      refine hm_fgt [true, true, false] (lv' := [some (.ref o0), some (.ref v1), none]) rfl ?_
      exact he33 μ1 hL h
    · refine tr_icmp_ge_f (tgt := 33) (pc' := 8) hc (show decode cX7_copyFrom 5 = .ok (.if_icmp .ge 28, 3) by decide +kernel) (by decide) rfl ?_
      refine tr_aload_n (pc' := 9) (show decode cX7_copyFrom 8 = .ok (.aload_n 1, 1) by decide +kernel) rfl rfl rfl ?_
      refine tr_getR (pc' := 12) fl_HandRing_Steps_13 (show decode cX7_copyFrom 9 = .ok (.getfield 13, 3) by decide +kernel) rfl (la_so hL hv1) (la_s0 hL hv1) ?_
      refine tr_iload_n (pc' := 13) (show decode cX7_copyFrom 12 = .ok (.iload_n 2, 1) by decide +kernel) rfl rfl rfl ?_
      obtain ⟨x2, ex2, h⟩ := hm_bs h
      have bx2 := la_srow hL hv1 ex2
      have ax2 := la_n hL bx2.2
      refine tp_ldR (pc' := 14) (t0 := 7) (by decide) (fun _ => rfl) rfl (show decode cX7_copyFrom 13 = .ok (.aaload, 1) by decide +kernel) rfl (la_sa0 hL hv1) ex2 (congrArg va_rf bx2.1) ?_
      refine tr_iconst (pc' := 15) (v := (0 : Int32)) (show decode cX7_copyFrom 14 = .ok (.iconst 0, 1) by decide +kernel) rfl (by decide) ?_
      refine tr_aload_n (pc' := 16) (show decode cX7_copyFrom 15 = .ok (.aload_n 0, 1) by decide +kernel) rfl rfl rfl ?_
      refine tr_getR (pc' := 19) fl_HandRing_Steps_13 (show decode cX7_copyFrom 16 = .ok (.getfield 13, 3) by decide +kernel) rfl (la_so hL ho0) (la_s0 hL ho0) ?_
      refine tr_iload_n (pc' := 20) (show decode cX7_copyFrom 19 = .ok (.iload_n 2, 1) by decide +kernel) rfl rfl rfl ?_
      obtain ⟨x3, ex3, h⟩ := hm_bs h
      have bx3 := la_srow hL ho0 ex3
      have ax3 := la_n hL bx3.2
      refine tp_ldR (pc' := 21) (t0 := 7) (by decide) (fun _ => rfl) rfl (show decode cX7_copyFrom 20 = .ok (.aaload, 1) by decide +kernel) rfl (la_sa0 hL ho0) ex3 (congrArg va_rf bx3.1) ?_
      refine tr_iconst (pc' := 22) (v := (0 : Int32)) (show decode cX7_copyFrom 21 = .ok (.iconst 0, 1) by decide +kernel) rfl (by decide) ?_
      refine tr_bipush (pc' := 24) (v := (26 : Int32)) (show decode cX7_copyFrom 22 = .ok (.bipush 26, 2) by decide +kernel) rfl (by decide) ?_
      obtain ⟨μ4, eμ4, h⟩ := hm_bs h
      refine tp_cp (pc' := 27) lk_HandRing_Steps_20 kw_ac_n kw_ac_s kw_Sys_i (show decode cX7_copyFrom 24 = .ok (.invokestatic 20, 3) by decide +kernel) rfl (Nat.le_of_ble_eq_true rfl) (by omega) (la_m hL ax2) (la_m hL ax3) eμ4 ?_
      replace hL := hL.same (hm_cp_s eμ4)
      refine tr_iinc (pc' := 30) (v := y2 + (1 : Int32)) (lv' := [some (.ref o0), some (.ref v1), some (.int (y2 + (1 : Int32)))]) (show decode cX7_copyFrom 27 = .ok (.iinc 2 1, 3) by decide +kernel) rfl rfl rfl (Nat.le_of_ble_eq_true rfl) rfl rfl ?_
      refine tr_goto (tgt := 2) (show decode cX7_copyFrom 30 = .ok (.goto (-28), 3) by decide +kernel) rfl ?_
      exact ih (y2 + (1 : Int32)) μ4 hL h
def f_X7_copyFrom (o0 : Nat) (v1 : Nat) (μ : hm_M) : Option hm_M :=
  f_X7_copyFrom_L2 o0 v1 (fun μz5 => Option.bind (hm_pI μz5 o0 1 (μz5.1 v1 1)) fun μ6 =>
  Option.bind (hm_pI μ6 o0 2 (μ6.1 v1 2)) fun μ7 =>
  some μ7) hm_fu (0 : Int32) μ
set_option maxRecDepth 100000 in
theorem ok_X7_copyFrom {fr : Nat} (hfr : 1 ≤ fr) {ν : hm_N} {μR : hm_M}  (o0 : Nat) (v1 : Nat) (ho0 : hm_S o0) (hv1 : hm_S v1) (μ : hm_M) (hL : hm_LL ν μ) (h : f_X7_copyFrom o0 v1 μ = some μR) : hm_CC (hm_LL ν) m_X7_copyFrom fr 0 0 [.ref o0, .ref v1] μ none μR := by
  refine hm_enter (lv := [some (.ref o0), some (.ref v1), none]) (by decide) rfl (Nat.le_of_ble_eq_true rfl) ?_
  unfold f_X7_copyFrom at h
  refine tr_iconst (pc' := 1) (v := (0 : Int32)) (show decode cX7_copyFrom 0 = .ok (.iconst 0, 1) by decide +kernel) rfl (by decide) ?_
  refine tr_istore_n (pc' := 2) (lv' := [some (.ref o0), some (.ref v1), some (.int (0 : Int32))]) (show decode cX7_copyFrom 1 = .ok (.istore_n 2, 1) by decide +kernel) rfl rfl (Nat.le_of_ble_eq_true rfl) rfl rfl ?_
  refine ok_X7_copyFrom_L2 hfr _ _ _ ?_ ho0 hv1 _ (0 : Int32) μ hL h
  · intro μz5 hL h
    refine tr_aload_n (pc' := 34) (show decode cX7_copyFrom 33 = .ok (.aload_n 0, 1) by decide +kernel) rfl rfl rfl ?_
    refine tr_aload_n (pc' := 35) (show decode cX7_copyFrom 34 = .ok (.aload_n 1, 1) by decide +kernel) rfl rfl rfl ?_
    refine tr_getI (pc' := 38) fl_HandRing_Steps_26 (show decode cX7_copyFrom 35 = .ok (.getfield 26, 3) by decide +kernel) rfl (la_so hL hv1) ?_
    obtain ⟨μ6, eμ6, h⟩ := hm_bs h
    refine tp_pI (pc' := 41) fl_HandRing_Steps_26 (show decode cX7_copyFrom 38 = .ok (.putfield 26, 3) by decide +kernel) rfl (la_so hL ho0) eμ6 ?_
    replace hL := hL.same (hm_pI_s eμ6)
    refine tr_aload_n (pc' := 42) (show decode cX7_copyFrom 41 = .ok (.aload_n 0, 1) by decide +kernel) rfl rfl rfl ?_
    refine tr_aload_n (pc' := 43) (show decode cX7_copyFrom 42 = .ok (.aload_n 1, 1) by decide +kernel) rfl rfl rfl ?_
    refine tr_getI (pc' := 46) fl_HandRing_Steps_16 (show decode cX7_copyFrom 43 = .ok (.getfield 16, 3) by decide +kernel) rfl (la_so hL hv1) ?_
    obtain ⟨μ7, eμ7, h⟩ := hm_bs h
    refine tp_pI (pc' := 49) fl_HandRing_Steps_16 (show decode cX7_copyFrom 46 = .ok (.putfield 16, 3) by decide +kernel) rfl (la_so hL ho0) eμ7 ?_
    replace hL := hL.same (hm_pI_s eμ7)
    cases h
    exact tr_vret rfl (show decode cX7_copyFrom 49 = .ok (.return_, 1) by decide +kernel) hL
def f_X2_begin (v1 : Nat) (v2 : Nat) (μ : hm_M) : Option hm_M :=
  Option.bind (f_X8_copyFrom 116 v1 μ) fun μ3 =>
  Option.bind (f_X7_copyFrom 126 v2 μ3) fun μ5 =>
  Option.bind (hm_pI μ5 112 6 (0 : Int32)) fun μ6 =>
  Option.bind (hm_pI μ6 112 5 (-1 : Int32)) fun μ7 =>
  some μ7
set_option maxRecDepth 100000 in
theorem ok_X2_begin {fr : Nat} (hfr : 2 ≤ fr) {ν : hm_N} {μR : hm_M}  (v1 : Nat) (v2 : Nat) (hv1 : hm_V v1) (hv2 : hm_S v2) (μ : hm_M) (hL : hm_LL ν μ) (h : f_X2_begin v1 v2 μ = some μR) : hm_CC (hm_LL ν) m_X2_begin fr 0 0 [.ref 112, .ref v1, .ref v2] μ none μR := by
  refine hm_enter (lv := [some (.ref 112), some (.ref v1), some (.ref v2)]) (by decide) rfl (Nat.le_of_ble_eq_true rfl) ?_
  unfold f_X2_begin at h
  refine tr_aload_n (pc' := 1) (show decode cX2_begin 0 = .ok (.aload_n 0, 1) by decide +kernel) rfl rfl rfl ?_
  refine tr_getR (pc' := 4) fl_HandRing_Errand_23 (show decode cX2_begin 1 = .ok (.getfield 23, 3) by decide +kernel) rfl (la_o hL (by decide) rfl) (la_r hL 59 rfl) ?_
  refine tr_aload_n (pc' := 5) (show decode cX2_begin 4 = .ok (.aload_n 1, 1) by decide +kernel) rfl rfl rfl ?_
  obtain ⟨μ3, ex2, h⟩ := hm_bs h
  have cx2 := ok_X8_copyFrom (fr := fr - 1) (ν := ν) (by omega) 116 v1 (by unfold hm_V; decide) hv1 μ hL ex2
  refine tp_callV (pc' := 8) (As := [.ref v1]) (fr1 := fr - 1) (ci := 8) okm_X8_copyFrom lk_HandRing_Errand_42 (show decode cX2_begin 5 = .ok (.invokevirtual 42, 3) by decide +kernel) rfl rfl rfl (by decide) (la_o hL (by decide) rfl) rfl rfl (Nat.le_of_ble_eq_true rfl) (by omega) cx2 (st' := []) rfl ?_
  replace hL := cx2.1
  refine tr_aload_n (pc' := 9) (show decode cX2_begin 8 = .ok (.aload_n 0, 1) by decide +kernel) rfl rfl rfl ?_
  refine tr_getR (pc' := 12) fl_HandRing_Errand_30 (show decode cX2_begin 9 = .ok (.getfield 30, 3) by decide +kernel) rfl (la_o hL (by decide) rfl) (la_r hL 60 rfl) ?_
  refine tr_aload_n (pc' := 13) (show decode cX2_begin 12 = .ok (.aload_n 2, 1) by decide +kernel) rfl rfl rfl ?_
  obtain ⟨μ5, ex4, h⟩ := hm_bs h
  have cx4 := ok_X7_copyFrom (fr := fr - 1) (ν := ν) (by omega) 126 v2 (by unfold hm_S; decide) hv2 μ3 hL ex4
  refine tp_callV (pc' := 16) (As := [.ref v2]) (fr1 := fr - 1) (ci := 7) okm_X7_copyFrom lk_HandRing_Errand_46 (show decode cX2_begin 13 = .ok (.invokevirtual 46, 3) by decide +kernel) rfl rfl rfl (by decide) (la_o hL (by decide) rfl) rfl rfl (Nat.le_of_ble_eq_true rfl) (by omega) cx4 (st' := []) rfl ?_
  replace hL := cx4.1
  refine tr_aload_n (pc' := 17) (show decode cX2_begin 16 = .ok (.aload_n 0, 1) by decide +kernel) rfl rfl rfl ?_
  refine tr_iconst (pc' := 18) (v := (0 : Int32)) (show decode cX2_begin 17 = .ok (.iconst 0, 1) by decide +kernel) rfl (by decide) ?_
  obtain ⟨μ6, eμ6, h⟩ := hm_bs h
  refine tp_pI (pc' := 21) fl_HandRing_Errand_49 (show decode cX2_begin 18 = .ok (.putfield 49, 3) by decide +kernel) rfl (la_o hL (by decide) rfl) eμ6 ?_
  replace hL := hL.same (hm_pI_s eμ6)
  refine tr_aload_n (pc' := 22) (show decode cX2_begin 21 = .ok (.aload_n 0, 1) by decide +kernel) rfl rfl rfl ?_
  refine tr_iconst (pc' := 23) (v := (-1 : Int32)) (show decode cX2_begin 22 = .ok (.iconst (-1), 1) by decide +kernel) rfl (by decide) ?_
  obtain ⟨μ7, eμ7, h⟩ := hm_bs h
  refine tp_pI (pc' := 26) fl_HandRing_Errand_53 (show decode cX2_begin 23 = .ok (.putfield 53, 3) by decide +kernel) rfl (la_o hL (by decide) rfl) eμ7 ?_
  replace hL := hL.same (hm_pI_s eμ7)
  cases h
  exact tr_vret rfl (show decode cX2_begin 26 = .ok (.return_, 1) by decide +kernel) hL
def f_X2_takeBack (v1 : Nat) (v2 : Nat) (μ : hm_M) : Option hm_M :=
  Option.bind (f_X8_copyFrom v1 116 μ) fun μ3 =>
  Option.bind (f_X7_copyFrom v2 126 μ3) fun μ5 =>
  some μ5
set_option maxRecDepth 100000 in
theorem ok_X2_takeBack {fr : Nat} (hfr : 2 ≤ fr) {ν : hm_N} {μR : hm_M}  (v1 : Nat) (v2 : Nat) (hv1 : hm_V v1) (hv2 : hm_S v2) (μ : hm_M) (hL : hm_LL ν μ) (h : f_X2_takeBack v1 v2 μ = some μR) : hm_CC (hm_LL ν) m_X2_takeBack fr 0 0 [.ref 112, .ref v1, .ref v2] μ none μR := by
  refine hm_enter (lv := [some (.ref 112), some (.ref v1), some (.ref v2)]) (by decide) rfl (Nat.le_of_ble_eq_true rfl) ?_
  unfold f_X2_takeBack at h
  refine tr_aload_n (pc' := 1) (show decode cX2_takeBack 0 = .ok (.aload_n 1, 1) by decide +kernel) rfl rfl rfl ?_
  refine tr_aload_n (pc' := 2) (show decode cX2_takeBack 1 = .ok (.aload_n 0, 1) by decide +kernel) rfl rfl rfl ?_
  refine tr_getR (pc' := 5) fl_HandRing_Errand_23 (show decode cX2_takeBack 2 = .ok (.getfield 23, 3) by decide +kernel) rfl (la_o hL (by decide) rfl) (la_r hL 59 rfl) ?_
  obtain ⟨μ3, ex2, h⟩ := hm_bs h
  have cx2 := ok_X8_copyFrom (fr := fr - 1) (ν := ν) (by omega) v1 116 hv1 (by unfold hm_V; decide) μ hL ex2
  refine tp_callV (pc' := 8) (As := [.ref 116]) (fr1 := fr - 1) (ci := 8) okm_X8_copyFrom lk_HandRing_Errand_42 (show decode cX2_takeBack 5 = .ok (.invokevirtual 42, 3) by decide +kernel) rfl rfl rfl (by decide) (la_vo hL hv1) rfl rfl (Nat.le_of_ble_eq_true rfl) (by omega) cx2 (st' := []) rfl ?_
  replace hL := cx2.1
  refine tr_aload_n (pc' := 9) (show decode cX2_takeBack 8 = .ok (.aload_n 2, 1) by decide +kernel) rfl rfl rfl ?_
  refine tr_aload_n (pc' := 10) (show decode cX2_takeBack 9 = .ok (.aload_n 0, 1) by decide +kernel) rfl rfl rfl ?_
  refine tr_getR (pc' := 13) fl_HandRing_Errand_30 (show decode cX2_takeBack 10 = .ok (.getfield 30, 3) by decide +kernel) rfl (la_o hL (by decide) rfl) (la_r hL 60 rfl) ?_
  obtain ⟨μ5, ex4, h⟩ := hm_bs h
  have cx4 := ok_X7_copyFrom (fr := fr - 1) (ν := ν) (by omega) v2 126 hv2 (by unfold hm_S; decide) μ3 hL ex4
  refine tp_callV (pc' := 16) (As := [.ref 126]) (fr1 := fr - 1) (ci := 7) okm_X7_copyFrom lk_HandRing_Errand_46 (show decode cX2_takeBack 13 = .ok (.invokevirtual 46, 3) by decide +kernel) rfl rfl rfl (by decide) (la_so hL hv2) rfl rfl (Nat.le_of_ble_eq_true rfl) (by omega) cx4 (st' := []) rfl ?_
  replace hL := cx4.1
  cases h
  exact tr_vret rfl (show decode cX2_takeBack 16 = .ok (.return_, 1) by decide +kernel) hL
def f_X3_lostInHolds_J51 (v1 : Nat) (w17_3 : Int32) (c4 : Int32 → Int32 → hm_M → Option (Int32 × hm_M)) (e63 : Int32 → hm_M → Option (Int32 × hm_M)) (c17 : Int32 → Int32 → hm_M → Option (Int32 × hm_M)) (e57 : Int32 → hm_M → Option (Int32 × hm_M)) (y2 : Int32) (y4 : Int32) (μ1 : hm_M) : Option (Int32 × hm_M) :=
  c17 y2 (y4 + (1 : Int32)) μ1
theorem ok_X3_lostInHolds_J51 {fr : Nat} (hfr : 4 ≤ fr) {ν : hm_N} {r : Int32} {μR : hm_M}  (v1 : Nat) (w17_3 : Int32) (c4 : Int32 → Int32 → hm_M → Option (Int32 × hm_M)) (e63 : Int32 → hm_M → Option (Int32 × hm_M)) (c17 : Int32 → Int32 → hm_M → Option (Int32 × hm_M)) (e57 : Int32 → hm_M → Option (Int32 × hm_M)) (hc4 : ∀ (y2 : Int32) (y3 : Int32)  (μ1 : hm_M), hm_LL ν μ1 → c4 y2 y3 μ1 = some (r, μR) → hm_T (hm_LL ν) m_X3_lostInHolds fr 0 0 (some (.int r)) μR 4 [some (.ref 106), some (.ref v1), some (.int y2), some (.int y3), none] [] μ1) (he63 : ∀ (y2 : Int32)  (μ1 : hm_M), hm_LL ν μ1 → e63 y2 μ1 = some (r, μR) → hm_T (hm_LL ν) m_X3_lostInHolds fr 0 0 (some (.int r)) μR 63 [none, none, some (.int y2), none, none] [] μ1) (hc17 : ∀ (y2 : Int32) (y4 : Int32)  (μ1 : hm_M), hm_LL ν μ1 → c17 y2 y4 μ1 = some (r, μR) → hm_T (hm_LL ν) m_X3_lostInHolds fr 0 0 (some (.int r)) μR 17 [some (.ref 106), some (.ref v1), some (.int y2), some (.int w17_3), some (.int y4)] [] μ1) (he57 : ∀ (y2 : Int32)  (μ1 : hm_M), hm_LL ν μ1 → e57 y2 μ1 = some (r, μR) → hm_T (hm_LL ν) m_X3_lostInHolds fr 0 0 (some (.int r)) μR 57 [some (.ref 106), some (.ref v1), some (.int y2), some (.int w17_3), none] [] μ1) (hv1 : hm_V v1) (y2 : Int32) (y4 : Int32) (μ1 : hm_M) (hL : hm_LL ν μ1) (h : f_X3_lostInHolds_J51 v1 w17_3 c4 e63 c17 e57 y2 y4 μ1 = some (r, μR)) : hm_T (hm_LL ν) m_X3_lostInHolds fr 0 0 (some (.int r)) μR 51 [some (.ref 106), some (.ref v1), some (.int y2), some (.int w17_3), some (.int y4)] [] μ1 := by
  unfold f_X3_lostInHolds_J51 at h
  refine tr_iinc (pc' := 54) (v := y4 + (1 : Int32)) (lv' := [some (.ref 106), some (.ref v1), some (.int y2), some (.int w17_3), some (.int (y4 + (1 : Int32)))]) (show decode cX3_lostInHolds 51 = .ok (.iinc 4 1, 3) by decide +kernel) rfl rfl rfl (Nat.le_of_ble_eq_true rfl) rfl rfl ?_
  refine tr_goto (tgt := 17) (show decode cX3_lostInHolds 54 = .ok (.goto (-37), 3) by decide +kernel) rfl ?_
  exact hc17 y2 (y4 + (1 : Int32)) μ1 hL h
def f_X3_lostInHolds_L17 (v1 : Nat) (w17_3 : Int32) (c4 : Int32 → Int32 → hm_M → Option (Int32 × hm_M)) (e63 : Int32 → hm_M → Option (Int32 × hm_M)) (e57 : Int32 → hm_M → Option (Int32 × hm_M)) : Nat → Int32 → Int32 → hm_M → Option (Int32 × hm_M)
  | 0, _, _, _ => none
  | n + 1, y2, y4, μ1 => (if (μ1.1 v1 0) ≤ y4 then
  e57 y2 μ1
  else
  Option.bind (f_X8_holdHands v1 w17_3 y4 μ1) fun x2 =>
  (if x2 = 0 then
  f_X3_lostInHolds_J51 v1 w17_3 c4 e63 (f_X3_lostInHolds_L17 v1 w17_3 c4 e63 e57 n) e57 y2 y4 μ1
  else
  Option.bind (f_X8_lawInForce v1 μ1) fun x3 =>
  hm_b2 (f_X3_lostBetween v1 x3 w17_3 y4 μ1) fun x4 μ5 =>
  f_X3_lostInHolds_J51 v1 w17_3 c4 e63 (f_X3_lostInHolds_L17 v1 w17_3 c4 e63 e57 n) e57 (y2 + x4) y4 μ5))
theorem ok_X3_lostInHolds_L17 {fr : Nat} (hfr : 4 ≤ fr) {ν : hm_N} {r : Int32} {μR : hm_M}  (v1 : Nat) (w17_3 : Int32) (c4 : Int32 → Int32 → hm_M → Option (Int32 × hm_M)) (e63 : Int32 → hm_M → Option (Int32 × hm_M)) (e57 : Int32 → hm_M → Option (Int32 × hm_M)) (hc4 : ∀ (y2 : Int32) (y3 : Int32)  (μ1 : hm_M), hm_LL ν μ1 → c4 y2 y3 μ1 = some (r, μR) → hm_T (hm_LL ν) m_X3_lostInHolds fr 0 0 (some (.int r)) μR 4 [some (.ref 106), some (.ref v1), some (.int y2), some (.int y3), none] [] μ1) (he63 : ∀ (y2 : Int32)  (μ1 : hm_M), hm_LL ν μ1 → e63 y2 μ1 = some (r, μR) → hm_T (hm_LL ν) m_X3_lostInHolds fr 0 0 (some (.int r)) μR 63 [none, none, some (.int y2), none, none] [] μ1) (he57 : ∀ (y2 : Int32)  (μ1 : hm_M), hm_LL ν μ1 → e57 y2 μ1 = some (r, μR) → hm_T (hm_LL ν) m_X3_lostInHolds fr 0 0 (some (.int r)) μR 57 [some (.ref 106), some (.ref v1), some (.int y2), some (.int w17_3), none] [] μ1) (hv1 : hm_V v1) : ∀ (n : Nat) (y2 : Int32) (y4 : Int32)  (μ1 : hm_M), hm_LL ν μ1 → f_X3_lostInHolds_L17 v1 w17_3 c4 e63 e57 n y2 y4 μ1 = some (r, μR) → hm_T (hm_LL ν) m_X3_lostInHolds fr 0 0 (some (.int r)) μR 17 [some (.ref 106), some (.ref v1), some (.int y2), some (.int w17_3), some (.int y4)] [] μ1 := by
  intro n
  induction n with
  | zero =>
    intro y2 y4 μ1 hL h
    unfold f_X3_lostInHolds_L17 at h
    cases h
  | succ n ih =>
    intro y2 y4 μ1 hL h
    unfold f_X3_lostInHolds_L17 at h
    refine tr_iload (pc' := 19) (show decode cX3_lostInHolds 17 = .ok (.iload 4, 2) by decide +kernel) rfl rfl ?_
    refine tr_aload_n (pc' := 20) (show decode cX3_lostInHolds 19 = .ok (.aload_n 1, 1) by decide +kernel) rfl rfl rfl ?_
    refine tr_getI (pc' := 23) fl_HandRing_Judge_47 (show decode cX3_lostInHolds 20 = .ok (.getfield 47, 3) by decide +kernel) rfl (la_vo hL hv1) ?_
    rcases hm_is h with ⟨hc, h⟩ | ⟨hc, h⟩
    · refine tr_icmp_ge_t (tgt := 57) hc (show decode cX3_lostInHolds 23 = .ok (.if_icmp .ge 34, 3) by decide +kernel) (by decide) ?_
      refine hm_fgt [true, true, true, true, false] (lv' := [some (.ref 106), some (.ref v1), some (.int y2), some (.int w17_3), none]) rfl ?_
      exact he57 y2 μ1 hL h
    · refine tr_icmp_ge_f (tgt := 57) (pc' := 26) hc (show decode cX3_lostInHolds 23 = .ok (.if_icmp .ge 34, 3) by decide +kernel) (by decide) rfl ?_
      refine tr_aload_n (pc' := 27) (show decode cX3_lostInHolds 26 = .ok (.aload_n 1, 1) by decide +kernel) rfl rfl rfl ?_
      refine tr_iload_n (pc' := 28) (show decode cX3_lostInHolds 27 = .ok (.iload_n 3, 1) by decide +kernel) rfl rfl rfl ?_
      refine tr_iload (pc' := 30) (show decode cX3_lostInHolds 28 = .ok (.iload 4, 2) by decide +kernel) rfl rfl ?_
      obtain ⟨x2, ex2, h⟩ := hm_bs h
      have cx2 := ok_X8_holdHands (fr := fr - 1) (ν := ν) (by omega) v1 w17_3 y4 hv1 μ1 hL ex2
      refine tp_callV (pc' := 33) (As := [.int w17_3, .int y4]) (fr1 := fr - 1) (ci := 8) okm_X8_holdHands lk_HandRing_Judge_65 (show decode cX3_lostInHolds 30 = .ok (.invokevirtual 65, 3) by decide +kernel) rfl rfl rfl (by decide) (la_vo hL hv1) rfl rfl (Nat.le_of_ble_eq_true rfl) (by omega) cx2 (st' := [.int x2]) rfl ?_
      rcases hm_is h with ⟨hc, h⟩ | ⟨hc, h⟩
      · refine tr_if_eq_t (tgt := 51) hc (show decode cX3_lostInHolds 33 = .ok (.ifCond .eq 18, 3) by decide +kernel) (by decide) ?_
        exact ok_X3_lostInHolds_J51 hfr _ w17_3 c4 e63 (f_X3_lostInHolds_L17 v1 w17_3 c4 e63 e57 n) e57 hc4 he63 ih he57 hv1 y2 y4 μ1 hL h
      · refine tr_if_eq_f (tgt := 51) (pc' := 36) hc (show decode cX3_lostInHolds 33 = .ok (.ifCond .eq 18, 3) by decide +kernel) (by decide) rfl ?_
        refine tr_iload_n (pc' := 37) (show decode cX3_lostInHolds 36 = .ok (.iload_n 2, 1) by decide +kernel) rfl rfl rfl ?_
        refine tr_aload_n (pc' := 38) (show decode cX3_lostInHolds 37 = .ok (.aload_n 0, 1) by decide +kernel) rfl rfl rfl ?_
        refine tr_aload_n (pc' := 39) (show decode cX3_lostInHolds 38 = .ok (.aload_n 1, 1) by decide +kernel) rfl rfl rfl ?_
        refine tr_aload_n (pc' := 40) (show decode cX3_lostInHolds 39 = .ok (.aload_n 1, 1) by decide +kernel) rfl rfl rfl ?_
        obtain ⟨x3, ex3, h⟩ := hm_bs h
        have cx3 := ok_X8_lawInForce (fr := fr - 1) (ν := ν) (by omega) v1 hv1 μ1 hL ex3
        refine tp_callV (pc' := 43) (As := []) (fr1 := fr - 1) (ci := 8) okm_X8_lawInForce lk_HandRing_Judge_68 (show decode cX3_lostInHolds 40 = .ok (.invokevirtual 68, 3) by decide +kernel) rfl rfl rfl (by decide) (la_vo hL hv1) rfl rfl (Nat.le_of_ble_eq_true rfl) (by omega) cx3 (st' := [va_rf x3, .ref v1, .ref 106, .int y2]) rfl ?_
        have hx3 := la_lif hL hv1 ex3
        refine tr_iload_n (pc' := 44) (show decode cX3_lostInHolds 43 = .ok (.iload_n 3, 1) by decide +kernel) rfl rfl rfl ?_
        refine tr_iload (pc' := 46) (show decode cX3_lostInHolds 44 = .ok (.iload 4, 2) by decide +kernel) rfl rfl ?_
        obtain ⟨x4, μ5, ex4, h⟩ := hm_b2s h
        have cx4 := ok_X3_lostBetween (fr := fr - 1) (ν := ν) (by omega) v1 x3 w17_3 y4 hv1 hx3 μ1 hL ex4
        refine tp_callV (pc' := 49) (As := [.ref v1, va_rf x3, .int w17_3, .int y4]) (fr1 := fr - 1) (ci := 3) okm_X3_lostBetween lk_HandRing_Judge_72 (show decode cX3_lostInHolds 46 = .ok (.invokevirtual 72, 3) by decide +kernel) rfl rfl rfl (by decide) (la_o hL (by decide) rfl) rfl rfl (Nat.le_of_ble_eq_true rfl) (by omega) cx4 (st' := [.int x4, .int y2]) rfl ?_
        replace hL := cx4.1
        refine tr_iadd (pc' := 50) (show decode cX3_lostInHolds 49 = .ok (.iadd, 1) by decide +kernel) rfl ?_
        refine tr_istore_n (pc' := 51) (lv' := [some (.ref 106), some (.ref v1), some (.int (y2 + x4)), some (.int w17_3), some (.int y4)]) (show decode cX3_lostInHolds 50 = .ok (.istore_n 2, 1) by decide +kernel) rfl rfl (Nat.le_of_ble_eq_true rfl) rfl rfl ?_
        exact ok_X3_lostInHolds_J51 hfr _ w17_3 c4 e63 (f_X3_lostInHolds_L17 v1 w17_3 c4 e63 e57 n) e57 hc4 he63 ih he57 hv1 (y2 + x4) y4 μ5 hL h
def f_X3_lostInHolds_L4 (v1 : Nat) (e63 : Int32 → hm_M → Option (Int32 × hm_M)) : Nat → Int32 → Int32 → hm_M → Option (Int32 × hm_M)
  | 0, _, _, _ => none
  | n + 1, y2, y3, μ1 => (if (μ1.1 v1 0) ≤ y3 then
  e63 y2 μ1
  else
  f_X3_lostInHolds_L17 v1 y3 (f_X3_lostInHolds_L4 v1 e63 n) e63 (fun z6_2 μz6 => (f_X3_lostInHolds_L4 v1 e63 n) z6_2 (y3 + (1 : Int32)) μz6) hm_fu y2 (y3 + (1 : Int32)) μ1)
theorem ok_X3_lostInHolds_L4 {fr : Nat} (hfr : 4 ≤ fr) {ν : hm_N} {r : Int32} {μR : hm_M}  (v1 : Nat) (e63 : Int32 → hm_M → Option (Int32 × hm_M))  (he63 : ∀ (y2 : Int32)  (μ1 : hm_M), hm_LL ν μ1 → e63 y2 μ1 = some (r, μR) → hm_T (hm_LL ν) m_X3_lostInHolds fr 0 0 (some (.int r)) μR 63 [none, none, some (.int y2), none, none] [] μ1) (hv1 : hm_V v1) : ∀ (n : Nat) (y2 : Int32) (y3 : Int32)  (μ1 : hm_M), hm_LL ν μ1 → f_X3_lostInHolds_L4 v1 e63 n y2 y3 μ1 = some (r, μR) → hm_T (hm_LL ν) m_X3_lostInHolds fr 0 0 (some (.int r)) μR 4 [some (.ref 106), some (.ref v1), some (.int y2), some (.int y3), none] [] μ1 := by
  intro n
  induction n with
  | zero =>
    intro y2 y3 μ1 hL h
    unfold f_X3_lostInHolds_L4 at h
    cases h
  | succ n ih =>
    intro y2 y3 μ1 hL h
    unfold f_X3_lostInHolds_L4 at h
    refine tr_iload_n (pc' := 5) (show decode cX3_lostInHolds 4 = .ok (.iload_n 3, 1) by decide +kernel) rfl rfl rfl ?_
    refine tr_aload_n (pc' := 6) (show decode cX3_lostInHolds 5 = .ok (.aload_n 1, 1) by decide +kernel) rfl rfl rfl ?_
    refine tr_getI (pc' := 9) fl_HandRing_Judge_47 (show decode cX3_lostInHolds 6 = .ok (.getfield 47, 3) by decide +kernel) rfl (la_vo hL hv1) ?_
    rcases hm_is h with ⟨hc, h⟩ | ⟨hc, h⟩
    · refine tr_icmp_ge_t (tgt := 63) hc (show decode cX3_lostInHolds 9 = .ok (.if_icmp .ge 54, 3) by decide +kernel) (by decide) ?_
      refine hm_fgt [false, false, true, false, false] (lv' := [none, none, some (.int y2), none, none]) rfl ?_
      exact he63 y2 μ1 hL h
    · refine tr_icmp_ge_f (tgt := 63) (pc' := 12) hc (show decode cX3_lostInHolds 9 = .ok (.if_icmp .ge 54, 3) by decide +kernel) (by decide) rfl ?_
      refine tr_iload_n (pc' := 13) (show decode cX3_lostInHolds 12 = .ok (.iload_n 3, 1) by decide +kernel) rfl rfl rfl ?_
      refine tr_iconst (pc' := 14) (v := (1 : Int32)) (show decode cX3_lostInHolds 13 = .ok (.iconst 1, 1) by decide +kernel) rfl (by decide) ?_
      refine tr_iadd (pc' := 15) (show decode cX3_lostInHolds 14 = .ok (.iadd, 1) by decide +kernel) rfl ?_
      refine tr_istore (pc' := 17) (lv' := [some (.ref 106), some (.ref v1), some (.int y2), some (.int y3), some (.int (y3 + (1 : Int32)))]) (show decode cX3_lostInHolds 15 = .ok (.istore 4, 2) by decide +kernel) rfl (Nat.le_of_ble_eq_true rfl) rfl rfl ?_
      refine ok_X3_lostInHolds_L17 hfr _ y3 (f_X3_lostInHolds_L4 v1 e63 n) e63 _ ih he63 ?_ hv1 _ y2 (y3 + (1 : Int32)) μ1 hL h
      · intro z6_2 μz6 hL h
        refine tr_iinc (pc' := 60) (v := y3 + (1 : Int32)) (lv' := [some (.ref 106), some (.ref v1), some (.int z6_2), some (.int (y3 + (1 : Int32))), none]) (show decode cX3_lostInHolds 57 = .ok (.iinc 3 1, 3) by decide +kernel) rfl rfl rfl (Nat.le_of_ble_eq_true rfl) rfl rfl ?_
        refine tr_goto (tgt := 4) (show decode cX3_lostInHolds 60 = .ok (.goto (-56), 3) by decide +kernel) rfl ?_
        exact ih z6_2 (y3 + (1 : Int32)) μz6 hL h
def f_X3_lostInHolds (v1 : Nat) (μ : hm_M) : Option (Int32 × hm_M) :=
  f_X3_lostInHolds_L4 v1 (fun z7_2 μz7 => some (z7_2, μz7)) hm_fu (0 : Int32) (0 : Int32) μ
set_option maxRecDepth 100000 in
theorem ok_X3_lostInHolds {fr : Nat} (hfr : 4 ≤ fr) {ν : hm_N} {r : Int32} {μR : hm_M}  (v1 : Nat) (hv1 : hm_V v1) (μ : hm_M) (hL : hm_LL ν μ) (h : f_X3_lostInHolds v1 μ = some (r, μR)) : hm_CC (hm_LL ν) m_X3_lostInHolds fr 0 0 [.ref 106, .ref v1] μ (some (.int r)) μR := by
  refine hm_enter (lv := [some (.ref 106), some (.ref v1), none, none, none]) (by decide) rfl (Nat.le_of_ble_eq_true rfl) ?_
  unfold f_X3_lostInHolds at h
  refine tr_iconst (pc' := 1) (v := (0 : Int32)) (show decode cX3_lostInHolds 0 = .ok (.iconst 0, 1) by decide +kernel) rfl (by decide) ?_
  refine tr_istore_n (pc' := 2) (lv' := [some (.ref 106), some (.ref v1), some (.int (0 : Int32)), none, none]) (show decode cX3_lostInHolds 1 = .ok (.istore_n 2, 1) by decide +kernel) rfl rfl (Nat.le_of_ble_eq_true rfl) rfl rfl ?_
  refine tr_iconst (pc' := 3) (v := (0 : Int32)) (show decode cX3_lostInHolds 2 = .ok (.iconst 0, 1) by decide +kernel) rfl (by decide) ?_
  refine tr_istore_n (pc' := 4) (lv' := [some (.ref 106), some (.ref v1), some (.int (0 : Int32)), some (.int (0 : Int32)), none]) (show decode cX3_lostInHolds 3 = .ok (.istore_n 3, 1) by decide +kernel) rfl rfl (Nat.le_of_ble_eq_true rfl) rfl rfl ?_
  refine ok_X3_lostInHolds_L4 hfr _ _ ?_ hv1 _ (0 : Int32) (0 : Int32) μ hL h
  · intro z7_2 μz7 hL h
    refine tr_iload_n (pc' := 64) (show decode cX3_lostInHolds 63 = .ok (.iload_n 2, 1) by decide +kernel) rfl rfl rfl ?_
    cases h
    exact tr_iret rfl (show decode cX3_lostInHolds 64 = .ok (.ireturn, 1) by decide +kernel) hL
def f_X2_setWords_J122 (v1 : Nat) (v2 : Int32) (c60 : Int32 → hm_M → Option hm_M) (e129 : hm_M → Option hm_M) (s0 : Int32) (s1 : Int32) (y4 : Int32) (μ1 : hm_M) : Option hm_M :=
  Option.bind (hm_sd μ1 115 21 s1 s0) fun μ11 =>
  c60 (y4 + (1 : Int32)) μ11
theorem ok_X2_setWords_J122 {fr : Nat} (hfr : 5 ≤ fr) {ν : hm_N} {μR : hm_M}  (v1 : Nat) (v2 : Int32) (c60 : Int32 → hm_M → Option hm_M) (e129 : hm_M → Option hm_M) (hc60 : ∀ (y4 : Int32)  (μ1 : hm_M), hm_LL ν μ1 → c60 y4 μ1 = some μR → hm_T (hm_LL ν) m_X2_setWords fr 0 0 none μR 60 [none, some (.ref v1), none, some (.ref 115), some (.int y4), none] [] μ1) (he129 : ∀   (μ1 : hm_M), hm_LL ν μ1 → e129 μ1 = some μR → hm_T (hm_LL ν) m_X2_setWords fr 0 0 none μR 129 [none, none, none, none, none, none] [] μ1) (hv1 : hm_V v1) (s0 : Int32) (s1 : Int32) (y4 : Int32) (μ1 : hm_M) (hL : hm_LL ν μ1) (h : f_X2_setWords_J122 v1 v2 c60 e129 s0 s1 y4 μ1 = some μR) : hm_T (hm_LL ν) m_X2_setWords fr 0 0 none μR 122 [none, some (.ref v1), none, some (.ref 115), some (.int y4), none] [.int s0, .int s1, .ref 115] μ1 := by
  unfold f_X2_setWords_J122 at h
  obtain ⟨μ11, eμ11, h⟩ := hm_bs h
  refine tp_sdI (pc' := 123) (show decode cX2_setWords 122 = .ok (.iastore, 1) by decide +kernel) rfl (la_a hL (by decide) rfl) eμ11 ?_
  replace hL := hL.same (hm_sd_s eμ11)
  refine tr_iinc (pc' := 126) (v := y4 + (1 : Int32)) (lv' := [none, some (.ref v1), none, some (.ref 115), some (.int (y4 + (1 : Int32))), none]) (show decode cX2_setWords 123 = .ok (.iinc 4 1, 3) by decide +kernel) rfl rfl rfl (Nat.le_of_ble_eq_true rfl) rfl rfl ?_
  refine tr_goto (tgt := 60) (show decode cX2_setWords 126 = .ok (.goto (-66), 3) by decide +kernel) rfl ?_
  exact hc60 (y4 + (1 : Int32)) μ11 hL h
def f_X2_setWords_J96 (v1 : Nat) (v2 : Int32) (c60 : Int32 → hm_M → Option hm_M) (e129 : hm_M → Option hm_M) (s0 : Int32) (s1 : Int32) (y4 : Int32) (y5 : Int32) (μ1 : hm_M) : Option hm_M :=
  Option.bind (hm_sd μ1 115 21 s1 s0) fun μ10 =>
  (if y5 = 0 then
  f_X2_setWords_J122 v1 v2 c60 e129 (-1 : Int32) ((13 : Int32) + y4) y4 μ10
  else
  Option.bind (hm_ld μ10 (v1 + 4) 8 y4) fun x12 =>
  Option.bind (f_J6_bitCount_0f7a4 x12) fun x13 =>
  f_X2_setWords_J122 v1 v2 c60 e129 x13 ((13 : Int32) + y4) y4 μ10)
theorem ok_X2_setWords_J96 {fr : Nat} (hfr : 5 ≤ fr) {ν : hm_N} {μR : hm_M}  (v1 : Nat) (v2 : Int32) (c60 : Int32 → hm_M → Option hm_M) (e129 : hm_M → Option hm_M) (hc60 : ∀ (y4 : Int32)  (μ1 : hm_M), hm_LL ν μ1 → c60 y4 μ1 = some μR → hm_T (hm_LL ν) m_X2_setWords fr 0 0 none μR 60 [none, some (.ref v1), none, some (.ref 115), some (.int y4), none] [] μ1) (he129 : ∀   (μ1 : hm_M), hm_LL ν μ1 → e129 μ1 = some μR → hm_T (hm_LL ν) m_X2_setWords fr 0 0 none μR 129 [none, none, none, none, none, none] [] μ1) (hv1 : hm_V v1) (s0 : Int32) (s1 : Int32) (y4 : Int32) (y5 : Int32) (μ1 : hm_M) (hL : hm_LL ν μ1) (h : f_X2_setWords_J96 v1 v2 c60 e129 s0 s1 y4 y5 μ1 = some μR) : hm_T (hm_LL ν) m_X2_setWords fr 0 0 none μR 96 [none, some (.ref v1), none, some (.ref 115), some (.int y4), some (.int y5)] [.int s0, .int s1, .ref 115] μ1 := by
  unfold f_X2_setWords_J96 at h
  obtain ⟨μ10, eμ10, h⟩ := hm_bs h
  refine tp_sdI (pc' := 97) (show decode cX2_setWords 96 = .ok (.iastore, 1) by decide +kernel) rfl (la_a hL (by decide) rfl) eμ10 ?_
  replace hL := hL.same (hm_sd_s eμ10)
  refine tr_aload_n (pc' := 98) (show decode cX2_setWords 97 = .ok (.aload_n 3, 1) by decide +kernel) rfl rfl rfl ?_
  refine tr_bipush (pc' := 100) (v := (13 : Int32)) (show decode cX2_setWords 98 = .ok (.bipush 13, 2) by decide +kernel) rfl (by decide) ?_
  refine tr_iload (pc' := 102) (show decode cX2_setWords 100 = .ok (.iload 4, 2) by decide +kernel) rfl rfl ?_
  refine tr_iadd (pc' := 103) (show decode cX2_setWords 102 = .ok (.iadd, 1) by decide +kernel) rfl ?_
  refine tr_iload (pc' := 105) (show decode cX2_setWords 103 = .ok (.iload 5, 2) by decide +kernel) rfl rfl ?_
  rcases hm_is h with ⟨hc, h⟩ | ⟨hc, h⟩
  · refine tr_if_eq_t (tgt := 121) hc (show decode cX2_setWords 105 = .ok (.ifCond .eq 16, 3) by decide +kernel) (by decide) ?_
    refine tr_iconst (pc' := 122) (v := (-1 : Int32)) (show decode cX2_setWords 121 = .ok (.iconst (-1), 1) by decide +kernel) rfl (by decide) ?_
    refine hm_fgt [false, true, false, true, true, false] (lv' := [none, some (.ref v1), none, some (.ref 115), some (.int y4), none]) rfl ?_
    exact ok_X2_setWords_J122 hfr _ _ c60 e129 hc60 he129 hv1 (-1 : Int32) ((13 : Int32) + y4) y4 μ10 hL h
  · refine tr_if_eq_f (tgt := 121) (pc' := 108) hc (show decode cX2_setWords 105 = .ok (.ifCond .eq 16, 3) by decide +kernel) (by decide) rfl ?_
    refine tr_aload_n (pc' := 109) (show decode cX2_setWords 108 = .ok (.aload_n 1, 1) by decide +kernel) rfl rfl rfl ?_
    refine tr_getR (pc' := 112) fl_HandRing_Errand_113 (show decode cX2_setWords 109 = .ok (.getfield 113, 3) by decide +kernel) rfl (la_vo hL hv1) (la_v4 hL hv1) ?_
    refine tr_iload (pc' := 114) (show decode cX2_setWords 112 = .ok (.iload 4, 2) by decide +kernel) rfl rfl ?_
    obtain ⟨x12, ex12, h⟩ := hm_bs h
    refine tp_ldI (pc' := 115) (show decode cX2_setWords 114 = .ok (.iaload, 1) by decide +kernel) rfl (la_va4 hL hv1) ex12 ?_
    obtain ⟨x13, ex13, h⟩ := hm_bs h
    have cx13 := ok_J6_bitCount_0f7a4 (fr := fr - 1) (ν := ν) (by omega) x12 μ10 hL ex13
    refine tp_callS (pc' := 118) (As := [.int x12]) (fr1 := fr - 1) okm_J6_bitCount_0f7a4 lk_HandRing_Errand_116 (show decode cX2_setWords 115 = .ok (.invokestatic 116, 3) by decide +kernel) rfl rfl rfl (Nat.le_of_ble_eq_true rfl) (by omega) cx13 (st' := [.int x13, .int ((13 : Int32) + y4), .ref 115]) rfl ?_
    refine tr_goto (tgt := 122) (show decode cX2_setWords 118 = .ok (.goto 4, 3) by decide +kernel) rfl ?_
    refine hm_fgt [false, true, false, true, true, false] (lv' := [none, some (.ref v1), none, some (.ref 115), some (.int y4), none]) rfl ?_
    exact ok_X2_setWords_J122 hfr _ _ c60 e129 hc60 he129 hv1 x13 ((13 : Int32) + y4) y4 μ10 hL h
def f_X2_setWords_L60 (v1 : Nat) (v2 : Int32) (e129 : hm_M → Option hm_M) : Nat → Int32 → hm_M → Option hm_M
  | 0, _, _ => none
  | n + 1, y4, μ1 => (if (8 : Int32) ≤ y4 then
  e129 μ1
  else
  Option.bind (f_X8_has v1 y4 μ1) fun x9 =>
  (if x9 = 0 then
  f_X2_setWords_J96 v1 v2 (f_X2_setWords_L60 v1 v2 e129 n) e129 (-1 : Int32) ((5 : Int32) + y4) y4 x9 μ1
  else
  Option.bind (hm_ld μ1 (v1 + 1) 8 y4) fun x14 =>
  f_X2_setWords_J96 v1 v2 (f_X2_setWords_L60 v1 v2 e129 n) e129 x14 ((5 : Int32) + y4) y4 x9 μ1))
theorem ok_X2_setWords_L60 {fr : Nat} (hfr : 5 ≤ fr) {ν : hm_N} {μR : hm_M}  (v1 : Nat) (v2 : Int32) (e129 : hm_M → Option hm_M)  (he129 : ∀   (μ1 : hm_M), hm_LL ν μ1 → e129 μ1 = some μR → hm_T (hm_LL ν) m_X2_setWords fr 0 0 none μR 129 [none, none, none, none, none, none] [] μ1) (hv1 : hm_V v1) : ∀ (n : Nat) (y4 : Int32)  (μ1 : hm_M), hm_LL ν μ1 → f_X2_setWords_L60 v1 v2 e129 n y4 μ1 = some μR → hm_T (hm_LL ν) m_X2_setWords fr 0 0 none μR 60 [none, some (.ref v1), none, some (.ref 115), some (.int y4), none] [] μ1 := by
  intro n
  induction n with
  | zero =>
    intro y4 μ1 hL h
    unfold f_X2_setWords_L60 at h
    cases h
  | succ n ih =>
    intro y4 μ1 hL h
    unfold f_X2_setWords_L60 at h
    refine tr_iload (pc' := 62) (show decode cX2_setWords 60 = .ok (.iload 4, 2) by decide +kernel) rfl rfl ?_
    refine tr_bipush (pc' := 64) (v := (8 : Int32)) (show decode cX2_setWords 62 = .ok (.bipush 8, 2) by decide +kernel) rfl (by decide) ?_
    rcases hm_is h with ⟨hc, h⟩ | ⟨hc, h⟩
    · refine tr_icmp_ge_t (tgt := 129) hc (show decode cX2_setWords 64 = .ok (.if_icmp .ge 65, 3) by decide +kernel) (by decide) ?_
      refine hm_fgt [false, false, false, false, false, false] (lv' := [none, none, none, none, none, none]) rfl ?_
      exact he129 μ1 hL h
    · refine tr_icmp_ge_f (tgt := 129) (pc' := 67) hc (show decode cX2_setWords 64 = .ok (.if_icmp .ge 65, 3) by decide +kernel) (by decide) rfl ?_
      refine tr_aload_n (pc' := 68) (show decode cX2_setWords 67 = .ok (.aload_n 1, 1) by decide +kernel) rfl rfl rfl ?_
      refine tr_iload (pc' := 70) (show decode cX2_setWords 68 = .ok (.iload 4, 2) by decide +kernel) rfl rfl ?_
      obtain ⟨x9, ex9, h⟩ := hm_bs h
      have cx9 := ok_X8_has (fr := fr - 1) (ν := ν) (by omega) v1 y4 hv1 μ1 hL ex9
      refine tp_callV (pc' := 73) (As := [.int y4]) (fr1 := fr - 1) (ci := 8) okm_X8_has lk_HandRing_Errand_106 (show decode cX2_setWords 70 = .ok (.invokevirtual 106, 3) by decide +kernel) rfl rfl rfl (by decide) (la_vo hL hv1) rfl rfl (Nat.le_of_ble_eq_true rfl) (by omega) cx9 (st' := [.int x9]) rfl ?_
      refine tr_istore (pc' := 75) (lv' := [none, some (.ref v1), none, some (.ref 115), some (.int y4), some (.int x9)]) (show decode cX2_setWords 73 = .ok (.istore 5, 2) by decide +kernel) rfl (Nat.le_of_ble_eq_true rfl) rfl rfl ?_
      refine tr_aload_n (pc' := 76) (show decode cX2_setWords 75 = .ok (.aload_n 3, 1) by decide +kernel) rfl rfl rfl ?_
      refine tr_iconst (pc' := 77) (v := (5 : Int32)) (show decode cX2_setWords 76 = .ok (.iconst 5, 1) by decide +kernel) rfl (by decide) ?_
      refine tr_iload (pc' := 79) (show decode cX2_setWords 77 = .ok (.iload 4, 2) by decide +kernel) rfl rfl ?_
      refine tr_iadd (pc' := 80) (show decode cX2_setWords 79 = .ok (.iadd, 1) by decide +kernel) rfl ?_
      refine tr_iload (pc' := 82) (show decode cX2_setWords 80 = .ok (.iload 5, 2) by decide +kernel) rfl rfl ?_
      rcases hm_is h with ⟨hc, h⟩ | ⟨hc, h⟩
      · refine tr_if_eq_t (tgt := 95) hc (show decode cX2_setWords 82 = .ok (.ifCond .eq 13, 3) by decide +kernel) (by decide) ?_
        refine tr_iconst (pc' := 96) (v := (-1 : Int32)) (show decode cX2_setWords 95 = .ok (.iconst (-1), 1) by decide +kernel) rfl (by decide) ?_
        exact ok_X2_setWords_J96 hfr _ _ (f_X2_setWords_L60 v1 v2 e129 n) e129 ih he129 hv1 (-1 : Int32) ((5 : Int32) + y4) y4 x9 μ1 hL h
      · refine tr_if_eq_f (tgt := 95) (pc' := 85) hc (show decode cX2_setWords 82 = .ok (.ifCond .eq 13, 3) by decide +kernel) (by decide) rfl ?_
        refine tr_aload_n (pc' := 86) (show decode cX2_setWords 85 = .ok (.aload_n 1, 1) by decide +kernel) rfl rfl rfl ?_
        refine tr_getR (pc' := 89) fl_HandRing_Errand_110 (show decode cX2_setWords 86 = .ok (.getfield 110, 3) by decide +kernel) rfl (la_vo hL hv1) (la_v1 hL hv1) ?_
        refine tr_iload (pc' := 91) (show decode cX2_setWords 89 = .ok (.iload 4, 2) by decide +kernel) rfl rfl ?_
        obtain ⟨x14, ex14, h⟩ := hm_bs h
        refine tp_ldI (pc' := 92) (show decode cX2_setWords 91 = .ok (.iaload, 1) by decide +kernel) rfl (la_va1 hL hv1) ex14 ?_
        refine tr_goto (tgt := 96) (show decode cX2_setWords 92 = .ok (.goto 4, 3) by decide +kernel) rfl ?_
        exact ok_X2_setWords_J96 hfr _ _ (f_X2_setWords_L60 v1 v2 e129 n) e129 ih he129 hv1 x14 ((5 : Int32) + y4) y4 x9 μ1 hL h
def f_X2_setWords_J56 (v1 : Nat) (v2 : Int32) (s0 : Int32) (s1 : Int32) (μ1 : hm_M) : Option hm_M :=
  Option.bind (hm_sd μ1 115 21 s1 s0) fun μ8 =>
  f_X2_setWords_L60 v1 v2 (fun μz15 => some μz15) hm_fu (0 : Int32) μ8
theorem ok_X2_setWords_J56 {fr : Nat} (hfr : 5 ≤ fr) {ν : hm_N} {μR : hm_M}  (v1 : Nat) (v2 : Int32)   (hv1 : hm_V v1) (s0 : Int32) (s1 : Int32) (μ1 : hm_M) (hL : hm_LL ν μ1) (h : f_X2_setWords_J56 v1 v2 s0 s1 μ1 = some μR) : hm_T (hm_LL ν) m_X2_setWords fr 0 0 none μR 56 [none, some (.ref v1), none, some (.ref 115), none, none] [.int s0, .int s1, .ref 115] μ1 := by
  unfold f_X2_setWords_J56 at h
  obtain ⟨μ8, eμ8, h⟩ := hm_bs h
  refine tp_sdI (pc' := 57) (show decode cX2_setWords 56 = .ok (.iastore, 1) by decide +kernel) rfl (la_a hL (by decide) rfl) eμ8 ?_
  replace hL := hL.same (hm_sd_s eμ8)
  refine tr_iconst (pc' := 58) (v := (0 : Int32)) (show decode cX2_setWords 57 = .ok (.iconst 0, 1) by decide +kernel) rfl (by decide) ?_
  refine tr_istore (pc' := 60) (lv' := [none, some (.ref v1), none, some (.ref 115), some (.int (0 : Int32)), none]) (show decode cX2_setWords 58 = .ok (.istore 4, 2) by decide +kernel) rfl (Nat.le_of_ble_eq_true rfl) rfl rfl ?_
  refine ok_X2_setWords_L60 hfr _ _ _ ?_ hv1 _ (0 : Int32) μ8 hL h
  · intro μz15 hL h
    cases h
    exact tr_vret rfl (show decode cX2_setWords 129 = .ok (.return_, 1) by decide +kernel) hL
def f_X2_setWords (v1 : Nat) (v2 : Int32) (μ : hm_M) : Option hm_M :=
  Option.bind (hm_ld μ (v1 + 5) 4 (0 : Int32)) fun x2 =>
  Option.bind (hm_sd μ 115 21 (0 : Int32) x2) fun μ3 =>
  Option.bind (hm_sd μ3 115 21 (1 : Int32) (μ3.1 112 6)) fun μ4 =>
  Option.bind (hm_sd μ4 115 21 (2 : Int32) (μ4.1 112 5)) fun μ5 =>
  Option.bind (f_X8_countHolds v1 μ5) fun x6 =>
  Option.bind (hm_sd μ5 115 21 (3 : Int32) x6) fun μ7 =>
  (if v2 = 0 then
  f_X2_setWords_J56 v1 v2 (0 : Int32) (4 : Int32) μ7
  else
  hm_b2 (f_X3_lostInHolds v1 μ7) fun x16 μ17 =>
  f_X2_setWords_J56 v1 v2 x16 (4 : Int32) μ17)
set_option maxRecDepth 100000 in
theorem ok_X2_setWords {fr : Nat} (hfr : 5 ≤ fr) {ν : hm_N} {μR : hm_M}  (v1 : Nat) (v2 : Int32) (hv1 : hm_V v1) (μ : hm_M) (hL : hm_LL ν μ) (h : f_X2_setWords v1 v2 μ = some μR) : hm_CC (hm_LL ν) m_X2_setWords fr 0 0 [.ref 112, .ref v1, .int v2] μ none μR := by
  refine hm_enter (lv := [some (.ref 112), some (.ref v1), some (.int v2), none, none, none]) (by decide) rfl (Nat.le_of_ble_eq_true rfl) ?_
  unfold f_X2_setWords at h
  refine tr_aload_n (pc' := 1) (show decode cX2_setWords 0 = .ok (.aload_n 0, 1) by decide +kernel) rfl rfl rfl ?_
  refine tr_getR (pc' := 4) fl_HandRing_Errand_16 (show decode cX2_setWords 1 = .ok (.getfield 16, 3) by decide +kernel) rfl (la_o hL (by decide) rfl) (la_r hL 58 rfl) ?_
  refine tr_getR (pc' := 7) fl_HandRing_Errand_89 (show decode cX2_setWords 4 = .ok (.getfield 89, 3) by decide +kernel) rfl (la_o hL (by decide) rfl) (la_r hL 61 rfl) ?_
  refine tr_astore_n (pc' := 8) (lv' := [some (.ref 112), some (.ref v1), some (.int v2), some (.ref 115), none, none]) (show decode cX2_setWords 7 = .ok (.astore_n 3, 1) by decide +kernel) rfl rfl (Nat.le_of_ble_eq_true rfl) rfl rfl ?_
  refine tr_aload_n (pc' := 9) (show decode cX2_setWords 8 = .ok (.aload_n 3, 1) by decide +kernel) rfl rfl rfl ?_
  refine tr_iconst (pc' := 10) (v := (0 : Int32)) (show decode cX2_setWords 9 = .ok (.iconst 0, 1) by decide +kernel) rfl (by decide) ?_
  refine tr_aload_n (pc' := 11) (show decode cX2_setWords 10 = .ok (.aload_n 1, 1) by decide +kernel) rfl rfl rfl ?_
  refine tr_getR (pc' := 14) fl_HandRing_Errand_93 (show decode cX2_setWords 11 = .ok (.getfield 93, 3) by decide +kernel) rfl (la_vo hL hv1) (la_v5 hL hv1) ?_
  refine tr_iconst (pc' := 15) (v := (0 : Int32)) (show decode cX2_setWords 14 = .ok (.iconst 0, 1) by decide +kernel) rfl (by decide) ?_
  obtain ⟨x2, ex2, h⟩ := hm_bs h
  refine tp_ldI (pc' := 16) (show decode cX2_setWords 15 = .ok (.iaload, 1) by decide +kernel) rfl (la_va5 hL hv1) ex2 ?_
  obtain ⟨μ3, eμ3, h⟩ := hm_bs h
  refine tp_sdI (pc' := 17) (show decode cX2_setWords 16 = .ok (.iastore, 1) by decide +kernel) rfl (la_a hL (by decide) rfl) eμ3 ?_
  replace hL := hL.same (hm_sd_s eμ3)
  refine tr_aload_n (pc' := 18) (show decode cX2_setWords 17 = .ok (.aload_n 3, 1) by decide +kernel) rfl rfl rfl ?_
  refine tr_iconst (pc' := 19) (v := (1 : Int32)) (show decode cX2_setWords 18 = .ok (.iconst 1, 1) by decide +kernel) rfl (by decide) ?_
  refine tr_aload_n (pc' := 20) (show decode cX2_setWords 19 = .ok (.aload_n 0, 1) by decide +kernel) rfl rfl rfl ?_
  refine tr_getI (pc' := 23) fl_HandRing_Errand_49 (show decode cX2_setWords 20 = .ok (.getfield 49, 3) by decide +kernel) rfl (la_o hL (by decide) rfl) ?_
  obtain ⟨μ4, eμ4, h⟩ := hm_bs h
  refine tp_sdI (pc' := 24) (show decode cX2_setWords 23 = .ok (.iastore, 1) by decide +kernel) rfl (la_a hL (by decide) rfl) eμ4 ?_
  replace hL := hL.same (hm_sd_s eμ4)
  refine tr_aload_n (pc' := 25) (show decode cX2_setWords 24 = .ok (.aload_n 3, 1) by decide +kernel) rfl rfl rfl ?_
  refine tr_iconst (pc' := 26) (v := (2 : Int32)) (show decode cX2_setWords 25 = .ok (.iconst 2, 1) by decide +kernel) rfl (by decide) ?_
  refine tr_aload_n (pc' := 27) (show decode cX2_setWords 26 = .ok (.aload_n 0, 1) by decide +kernel) rfl rfl rfl ?_
  refine tr_getI (pc' := 30) fl_HandRing_Errand_53 (show decode cX2_setWords 27 = .ok (.getfield 53, 3) by decide +kernel) rfl (la_o hL (by decide) rfl) ?_
  obtain ⟨μ5, eμ5, h⟩ := hm_bs h
  refine tp_sdI (pc' := 31) (show decode cX2_setWords 30 = .ok (.iastore, 1) by decide +kernel) rfl (la_a hL (by decide) rfl) eμ5 ?_
  replace hL := hL.same (hm_sd_s eμ5)
  refine tr_aload_n (pc' := 32) (show decode cX2_setWords 31 = .ok (.aload_n 3, 1) by decide +kernel) rfl rfl rfl ?_
  refine tr_iconst (pc' := 33) (v := (3 : Int32)) (show decode cX2_setWords 32 = .ok (.iconst 3, 1) by decide +kernel) rfl (by decide) ?_
  refine tr_aload_n (pc' := 34) (show decode cX2_setWords 33 = .ok (.aload_n 1, 1) by decide +kernel) rfl rfl rfl ?_
  obtain ⟨x6, ex6, h⟩ := hm_bs h
  have cx6 := ok_X8_countHolds (fr := fr - 1) (ν := ν) (by omega) v1 hv1 μ5 hL ex6
  refine tp_callV (pc' := 37) (As := []) (fr1 := fr - 1) (ci := 8) okm_X8_countHolds lk_HandRing_Errand_96 (show decode cX2_setWords 34 = .ok (.invokevirtual 96, 3) by decide +kernel) rfl rfl rfl (by decide) (la_vo hL hv1) rfl rfl (Nat.le_of_ble_eq_true rfl) (by omega) cx6 (st' := [.int x6, .int (3 : Int32), .ref 115]) rfl ?_
  obtain ⟨μ7, eμ7, h⟩ := hm_bs h
  refine tp_sdI (pc' := 38) (show decode cX2_setWords 37 = .ok (.iastore, 1) by decide +kernel) rfl (la_a hL (by decide) rfl) eμ7 ?_
  replace hL := hL.same (hm_sd_s eμ7)
  refine tr_aload_n (pc' := 39) (show decode cX2_setWords 38 = .ok (.aload_n 3, 1) by decide +kernel) rfl rfl rfl ?_
  refine tr_iconst (pc' := 40) (v := (4 : Int32)) (show decode cX2_setWords 39 = .ok (.iconst 4, 1) by decide +kernel) rfl (by decide) ?_
  refine tr_iload_n (pc' := 41) (show decode cX2_setWords 40 = .ok (.iload_n 2, 1) by decide +kernel) rfl rfl rfl ?_
  rcases hm_is h with ⟨hc, h⟩ | ⟨hc, h⟩
  · refine tr_if_eq_t (tgt := 55) hc (show decode cX2_setWords 41 = .ok (.ifCond .eq 14, 3) by decide +kernel) (by decide) ?_
    refine tr_iconst (pc' := 56) (v := (0 : Int32)) (show decode cX2_setWords 55 = .ok (.iconst 0, 1) by decide +kernel) rfl (by decide) ?_
    refine hm_fgt [false, true, false, true, false, false] (lv' := [none, some (.ref v1), none, some (.ref 115), none, none]) rfl ?_
    exact ok_X2_setWords_J56 hfr _ _ hv1 (0 : Int32) (4 : Int32) μ7 hL h
  · refine tr_if_eq_f (tgt := 55) (pc' := 44) hc (show decode cX2_setWords 41 = .ok (.ifCond .eq 14, 3) by decide +kernel) (by decide) rfl ?_
    refine tr_aload_n (pc' := 45) (show decode cX2_setWords 44 = .ok (.aload_n 0, 1) by decide +kernel) rfl rfl rfl ?_
    refine tr_getR (pc' := 48) fl_HandRing_Errand_34 (show decode cX2_setWords 45 = .ok (.getfield 34, 3) by decide +kernel) rfl (la_o hL (by decide) rfl) (la_r hL 56 rfl) ?_
    refine tr_aload_n (pc' := 49) (show decode cX2_setWords 48 = .ok (.aload_n 1, 1) by decide +kernel) rfl rfl rfl ?_
    obtain ⟨x16, μ17, ex16, h⟩ := hm_b2s h
    have cx16 := ok_X3_lostInHolds (fr := fr - 1) (ν := ν) (by omega) v1 hv1 μ7 hL ex16
    refine tp_callV (pc' := 52) (As := [.ref v1]) (fr1 := fr - 1) (ci := 3) okm_X3_lostInHolds lk_HandRing_Errand_100 (show decode cX2_setWords 49 = .ok (.invokevirtual 100, 3) by decide +kernel) rfl rfl rfl (by decide) (la_o hL (by decide) rfl) rfl rfl (Nat.le_of_ble_eq_true rfl) (by omega) cx16 (st' := [.int x16, .int (4 : Int32), .ref 115]) rfl ?_
    replace hL := cx16.1
    refine tr_goto (tgt := 56) (show decode cX2_setWords 52 = .ok (.goto 4, 3) by decide +kernel) rfl ?_
    refine hm_fgt [false, true, false, true, false, false] (lv' := [none, some (.ref v1), none, some (.ref 115), none, none]) rfl ?_
    exact ok_X2_setWords_J56 hfr _ _ hv1 x16 (4 : Int32) μ17 hL h
def f_X2_runOnce_J58 (v2 : Int32) (v3 : Nat) (v4 : Nat) (y5 : Int32) (y6 : Int32) (μ1 : hm_M) : Option (Int32 × hm_M) :=
  Option.bind (f_X5_clausePart 151 v2 (1 : Int32) μ1) fun x7 =>
  hm_b2 (f_X4_run 113 151 x7 y5 μ1) fun x8 μ9 =>
  (if (μ9.1 113 2) = 0 then
  hm_b2 (f_X4_run 113 151 y5 y6 μ9) fun x10 μ11 =>
  (if (μ11.1 113 2) = 0 then
  Option.bind (f_X5_clausePart 151 v2 (0 : Int32) μ11) fun x12 =>
  Option.bind (f_X7_note v4 v3 μ11) fun μ14 =>
  hm_b2 (f_X1_doOne v3 x12 x8 x10 μ14) fun x15 μ16 =>
  (if 0 ≤ x15 then
  Option.bind (f_X7_keepNoted v4 x12 μ16) fun μ18 =>
  Option.bind (hm_pI μ18 112 6 ((μ18.1 112 6) + (1 : Int32))) fun μ19 =>
  (if x12 = 0 then
  Option.bind (hm_pI μ19 112 5 x15) fun μ21 =>
  some ((1 : Int32), μ21)
  else
  Option.bind (hm_pI μ19 112 5 (μ19.1 112 5)) fun μ20 =>
  some ((1 : Int32), μ20))
  else
  some ((0 : Int32), μ16))
  else
  some ((0 : Int32), μ11))
  else
  some ((0 : Int32), μ9))
theorem ok_X2_runOnce_J58 {fr : Nat} (hfr : 6 ≤ fr) {ν : hm_N} {r : Int32} {μR : hm_M}  (v2 : Int32) (v3 : Nat) (v4 : Nat)   (hv3 : hm_V v3) (hv4 : hm_S v4) (y5 : Int32) (y6 : Int32) (μ1 : hm_M) (hL : hm_LL ν μ1) (h : f_X2_runOnce_J58 v2 v3 v4 y5 y6 μ1 = some (r, μR)) : hm_T (hm_LL ν) m_X2_runOnce fr 0 0 (some (.int r)) μR 58 [some (.ref 112), some (.ref 151), some (.int v2), some (.ref v3), some (.ref v4), some (.int y5), some (.int y6), none, none, none, none, none] [] μ1 := by
  unfold f_X2_runOnce_J58 at h
  refine tr_aload_n (pc' := 59) (show decode cX2_runOnce 58 = .ok (.aload_n 0, 1) by decide +kernel) rfl rfl rfl ?_
  refine tr_getR (pc' := 62) fl_HandRing_Errand_16 (show decode cX2_runOnce 59 = .ok (.getfield 16, 3) by decide +kernel) rfl (la_o hL (by decide) rfl) (la_r hL 58 rfl) ?_
  refine tr_aload_n (pc' := 63) (show decode cX2_runOnce 62 = .ok (.aload_n 1, 1) by decide +kernel) rfl rfl rfl ?_
  refine tr_aload_n (pc' := 64) (show decode cX2_runOnce 63 = .ok (.aload_n 1, 1) by decide +kernel) rfl rfl rfl ?_
  refine tr_iload_n (pc' := 65) (show decode cX2_runOnce 64 = .ok (.iload_n 2, 1) by decide +kernel) rfl rfl rfl ?_
  refine tr_iconst (pc' := 66) (v := (1 : Int32)) (show decode cX2_runOnce 65 = .ok (.iconst 1, 1) by decide +kernel) rfl (by decide) ?_
  obtain ⟨x7, ex7, h⟩ := hm_bs h
  have cx7 := ok_X5_clausePart (fr := fr - 1) (ν := ν) (by omega) 151 v2 (1 : Int32) (la_pg151 hL) μ1 hL ex7
  refine tp_callV (pc' := 69) (As := [.int v2, .int (1 : Int32)]) (fr1 := fr - 1) (ci := 5) okm_X5_clausePart lk_HandRing_Errand_58 (show decode cX2_runOnce 66 = .ok (.invokevirtual 58, 3) by decide +kernel) rfl rfl rfl (by decide) (la_o hL (by decide) rfl) rfl rfl (Nat.le_of_ble_eq_true rfl) (by omega) cx7 (st' := [.int x7, .ref 151, .ref 113]) rfl ?_
  refine tr_iload (pc' := 71) (show decode cX2_runOnce 69 = .ok (.iload 5, 2) by decide +kernel) rfl rfl ?_
  obtain ⟨x8, μ9, ex8, h⟩ := hm_b2s h
  have cx8 := ok_X4_run (fr := fr - 1) (ν := ν) (by omega) 113 151 x7 y5 (by unfold hm_Q; decide) (la_pg151 hL) μ1 hL ex8
  refine tp_callV (pc' := 74) (As := [.ref 151, .int x7, .int y5]) (fr1 := fr - 1) (ci := 4) okm_X4_run lk_HandRing_Errand_70 (show decode cX2_runOnce 71 = .ok (.invokevirtual 70, 3) by decide +kernel) rfl rfl rfl (by decide) (la_o hL (by decide) rfl) rfl rfl (Nat.le_of_ble_eq_true rfl) (by omega) cx8 (st' := [.int x8]) rfl ?_
  replace hL := cx8.1
  refine tr_istore (pc' := 76) (lv' := [some (.ref 112), some (.ref 151), some (.int v2), some (.ref v3), some (.ref v4), some (.int y5), some (.int y6), none, some (.int x8), none, none, none]) (show decode cX2_runOnce 74 = .ok (.istore 8, 2) by decide +kernel) rfl (Nat.le_of_ble_eq_true rfl) rfl rfl ?_
  refine tr_aload_n (pc' := 77) (show decode cX2_runOnce 76 = .ok (.aload_n 0, 1) by decide +kernel) rfl rfl rfl ?_
  refine tr_getR (pc' := 80) fl_HandRing_Errand_16 (show decode cX2_runOnce 77 = .ok (.getfield 16, 3) by decide +kernel) rfl (la_o hL (by decide) rfl) (la_r hL 58 rfl) ?_
  refine tr_getI (pc' := 83) fl_HandRing_Errand_74 (show decode cX2_runOnce 80 = .ok (.getfield 74, 3) by decide +kernel) rfl (la_o hL (by decide) rfl) ?_
  rcases hm_is h with ⟨hc, h⟩ | ⟨hc, h⟩
  · refine tr_if_eq_t (tgt := 88) hc (show decode cX2_runOnce 83 = .ok (.ifCond .eq 5, 3) by decide +kernel) (by decide) ?_
    refine tr_aload_n (pc' := 89) (show decode cX2_runOnce 88 = .ok (.aload_n 0, 1) by decide +kernel) rfl rfl rfl ?_
    refine tr_getR (pc' := 92) fl_HandRing_Errand_16 (show decode cX2_runOnce 89 = .ok (.getfield 16, 3) by decide +kernel) rfl (la_o hL (by decide) rfl) (la_r hL 58 rfl) ?_
    refine tr_aload_n (pc' := 93) (show decode cX2_runOnce 92 = .ok (.aload_n 1, 1) by decide +kernel) rfl rfl rfl ?_
    refine tr_iload (pc' := 95) (show decode cX2_runOnce 93 = .ok (.iload 5, 2) by decide +kernel) rfl rfl ?_
    refine tr_iload (pc' := 97) (show decode cX2_runOnce 95 = .ok (.iload 6, 2) by decide +kernel) rfl rfl ?_
    obtain ⟨x10, μ11, ex10, h⟩ := hm_b2s h
    have cx10 := ok_X4_run (fr := fr - 1) (ν := ν) (by omega) 113 151 y5 y6 (by unfold hm_Q; decide) (la_pg151 hL) μ9 hL ex10
    refine tp_callV (pc' := 100) (As := [.ref 151, .int y5, .int y6]) (fr1 := fr - 1) (ci := 4) okm_X4_run lk_HandRing_Errand_70 (show decode cX2_runOnce 97 = .ok (.invokevirtual 70, 3) by decide +kernel) rfl rfl rfl (by decide) (la_o hL (by decide) rfl) rfl rfl (Nat.le_of_ble_eq_true rfl) (by omega) cx10 (st' := [.int x10]) rfl ?_
    replace hL := cx10.1
    refine tr_istore (pc' := 102) (lv' := [some (.ref 112), some (.ref 151), some (.int v2), some (.ref v3), some (.ref v4), some (.int y5), some (.int y6), none, some (.int x8), some (.int x10), none, none]) (show decode cX2_runOnce 100 = .ok (.istore 9, 2) by decide +kernel) rfl (Nat.le_of_ble_eq_true rfl) rfl rfl ?_
    refine tr_aload_n (pc' := 103) (show decode cX2_runOnce 102 = .ok (.aload_n 0, 1) by decide +kernel) rfl rfl rfl ?_
    refine tr_getR (pc' := 106) fl_HandRing_Errand_16 (show decode cX2_runOnce 103 = .ok (.getfield 16, 3) by decide +kernel) rfl (la_o hL (by decide) rfl) (la_r hL 58 rfl) ?_
    refine tr_getI (pc' := 109) fl_HandRing_Errand_74 (show decode cX2_runOnce 106 = .ok (.getfield 74, 3) by decide +kernel) rfl (la_o hL (by decide) rfl) ?_
    rcases hm_is h with ⟨hc, h⟩ | ⟨hc, h⟩
    · refine tr_if_eq_t (tgt := 114) hc (show decode cX2_runOnce 109 = .ok (.ifCond .eq 5, 3) by decide +kernel) (by decide) ?_
      refine tr_aload_n (pc' := 115) (show decode cX2_runOnce 114 = .ok (.aload_n 1, 1) by decide +kernel) rfl rfl rfl ?_
      refine tr_iload_n (pc' := 116) (show decode cX2_runOnce 115 = .ok (.iload_n 2, 1) by decide +kernel) rfl rfl rfl ?_
      refine tr_iconst (pc' := 117) (v := (0 : Int32)) (show decode cX2_runOnce 116 = .ok (.iconst 0, 1) by decide +kernel) rfl (by decide) ?_
      obtain ⟨x12, ex12, h⟩ := hm_bs h
      have cx12 := ok_X5_clausePart (fr := fr - 1) (ν := ν) (by omega) 151 v2 (0 : Int32) (la_pg151 hL) μ11 hL ex12
      refine tp_callV (pc' := 120) (As := [.int v2, .int (0 : Int32)]) (fr1 := fr - 1) (ci := 5) okm_X5_clausePart lk_HandRing_Errand_58 (show decode cX2_runOnce 117 = .ok (.invokevirtual 58, 3) by decide +kernel) rfl rfl rfl (by decide) (la_o hL (by decide) rfl) rfl rfl (Nat.le_of_ble_eq_true rfl) (by omega) cx12 (st' := [.int x12]) rfl ?_
      refine tr_istore (pc' := 122) (lv' := [some (.ref 112), some (.ref 151), some (.int v2), some (.ref v3), some (.ref v4), some (.int y5), some (.int y6), none, some (.int x8), some (.int x10), some (.int x12), none]) (show decode cX2_runOnce 120 = .ok (.istore 10, 2) by decide +kernel) rfl (Nat.le_of_ble_eq_true rfl) rfl rfl ?_
      refine tr_aload (pc' := 124) (show decode cX2_runOnce 122 = .ok (.aload 4, 2) by decide +kernel) rfl rfl ?_
      refine tr_aload_n (pc' := 125) (show decode cX2_runOnce 124 = .ok (.aload_n 3, 1) by decide +kernel) rfl rfl rfl ?_
      obtain ⟨μ14, ex13, h⟩ := hm_bs h
      have cx13 := ok_X7_note (fr := fr - 1) (ν := ν) (by omega) v4 v3 hv4 hv3 μ11 hL ex13
      refine tp_callV (pc' := 128) (As := [.ref v3]) (fr1 := fr - 1) (ci := 7) okm_X7_note lk_HandRing_Errand_77 (show decode cX2_runOnce 125 = .ok (.invokevirtual 77, 3) by decide +kernel) rfl rfl rfl (by decide) (la_so hL hv4) rfl rfl (Nat.le_of_ble_eq_true rfl) (by omega) cx13 (st' := []) rfl ?_
      replace hL := cx13.1
      refine tr_aload_n (pc' := 129) (show decode cX2_runOnce 128 = .ok (.aload_n 0, 1) by decide +kernel) rfl rfl rfl ?_
      refine tr_getR (pc' := 132) fl_HandRing_Errand_38 (show decode cX2_runOnce 129 = .ok (.getfield 38, 3) by decide +kernel) rfl (la_o hL (by decide) rfl) (la_r hL 57 rfl) ?_
      refine tr_aload_n (pc' := 133) (show decode cX2_runOnce 132 = .ok (.aload_n 3, 1) by decide +kernel) rfl rfl rfl ?_
      refine tr_iload (pc' := 135) (show decode cX2_runOnce 133 = .ok (.iload 10, 2) by decide +kernel) rfl rfl ?_
      refine tr_iload (pc' := 137) (show decode cX2_runOnce 135 = .ok (.iload 8, 2) by decide +kernel) rfl rfl ?_
      refine tr_iload (pc' := 139) (show decode cX2_runOnce 137 = .ok (.iload 9, 2) by decide +kernel) rfl rfl ?_
      obtain ⟨x15, μ16, ex15, h⟩ := hm_b2s h
      have cx15 := ok_X1_doOne (fr := fr - 1) (ν := ν) (by omega) v3 x12 x8 x10 hv3 μ14 hL ex15
      refine tp_callV (pc' := 142) (As := [.ref v3, .int x12, .int x8, .int x10]) (fr1 := fr - 1) (ci := 1) okm_X1_doOne lk_HandRing_Errand_80 (show decode cX2_runOnce 139 = .ok (.invokevirtual 80, 3) by decide +kernel) rfl rfl rfl (by decide) (la_o hL (by decide) rfl) rfl rfl (Nat.le_of_ble_eq_true rfl) (by omega) cx15 (st' := [.int x15]) rfl ?_
      replace hL := cx15.1
      refine tr_istore (pc' := 144) (lv' := [some (.ref 112), some (.ref 151), some (.int v2), some (.ref v3), some (.ref v4), some (.int y5), some (.int y6), none, some (.int x8), some (.int x10), some (.int x12), some (.int x15)]) (show decode cX2_runOnce 142 = .ok (.istore 11, 2) by decide +kernel) rfl (Nat.le_of_ble_eq_true rfl) rfl rfl ?_
      refine tr_iload (pc' := 146) (show decode cX2_runOnce 144 = .ok (.iload 11, 2) by decide +kernel) rfl rfl ?_
      rcases hm_is h with ⟨hc, h⟩ | ⟨hc, h⟩
      · refine tr_if_ge_t (tgt := 151) hc (show decode cX2_runOnce 146 = .ok (.ifCond .ge 5, 3) by decide +kernel) (by decide) ?_
        refine tr_aload (pc' := 153) (show decode cX2_runOnce 151 = .ok (.aload 4, 2) by decide +kernel) rfl rfl ?_
        refine tr_iload (pc' := 155) (show decode cX2_runOnce 153 = .ok (.iload 10, 2) by decide +kernel) rfl rfl ?_
        obtain ⟨μ18, ex17, h⟩ := hm_bs h
        have cx17 := ok_X7_keepNoted (fr := fr - 1) (ν := ν) (by omega) v4 x12 hv4 μ16 hL ex17
        refine tp_callV (pc' := 158) (As := [.int x12]) (fr1 := fr - 1) (ci := 7) okm_X7_keepNoted lk_HandRing_Errand_86 (show decode cX2_runOnce 155 = .ok (.invokevirtual 86, 3) by decide +kernel) rfl rfl rfl (by decide) (la_so hL hv4) rfl rfl (Nat.le_of_ble_eq_true rfl) (by omega) cx17 (st' := []) rfl ?_
        replace hL := cx17.1
        refine tr_aload_n (pc' := 159) (show decode cX2_runOnce 158 = .ok (.aload_n 0, 1) by decide +kernel) rfl rfl rfl ?_
        refine tr_dup (pc' := 160) (show decode cX2_runOnce 159 = .ok (.dup, 1) by decide +kernel) rfl rfl ?_
        refine tr_getI (pc' := 163) fl_HandRing_Errand_49 (show decode cX2_runOnce 160 = .ok (.getfield 49, 3) by decide +kernel) rfl (la_o hL (by decide) rfl) ?_
        refine tr_iconst (pc' := 164) (v := (1 : Int32)) (show decode cX2_runOnce 163 = .ok (.iconst 1, 1) by decide +kernel) rfl (by decide) ?_
        refine tr_iadd (pc' := 165) (show decode cX2_runOnce 164 = .ok (.iadd, 1) by decide +kernel) rfl ?_
        obtain ⟨μ19, eμ19, h⟩ := hm_bs h
        refine tp_pI (pc' := 168) fl_HandRing_Errand_49 (show decode cX2_runOnce 165 = .ok (.putfield 49, 3) by decide +kernel) rfl (la_o hL (by decide) rfl) eμ19 ?_
        replace hL := hL.same (hm_pI_s eμ19)
        refine tr_aload_n (pc' := 169) (show decode cX2_runOnce 168 = .ok (.aload_n 0, 1) by decide +kernel) rfl rfl rfl ?_
        refine tr_iload (pc' := 171) (show decode cX2_runOnce 169 = .ok (.iload 10, 2) by decide +kernel) rfl rfl ?_
        rcases hm_is h with ⟨hc, h⟩ | ⟨hc, h⟩
        · refine tr_if_ne_f (tgt := 179) (pc' := 174) hc (show decode cX2_runOnce 171 = .ok (.ifCond .ne 8, 3) by decide +kernel) (by decide) rfl ?_
          refine tr_iload (pc' := 176) (show decode cX2_runOnce 174 = .ok (.iload 11, 2) by decide +kernel) rfl rfl ?_
          refine tr_goto (tgt := 183) (show decode cX2_runOnce 176 = .ok (.goto 7, 3) by decide +kernel) rfl ?_
          obtain ⟨μ21, eμ21, h⟩ := hm_bs h
          refine tp_pI (pc' := 186) fl_HandRing_Errand_53 (show decode cX2_runOnce 183 = .ok (.putfield 53, 3) by decide +kernel) rfl (la_o hL (by decide) rfl) eμ21 ?_
          replace hL := hL.same (hm_pI_s eμ21)
          refine tr_iconst (pc' := 187) (v := (1 : Int32)) (show decode cX2_runOnce 186 = .ok (.iconst 1, 1) by decide +kernel) rfl (by decide) ?_
          cases h
          exact tr_zret rfl (by decide) (show decode cX2_runOnce 187 = .ok (.ireturn, 1) by decide +kernel) hL
        · refine tr_if_ne_t (tgt := 179) hc (show decode cX2_runOnce 171 = .ok (.ifCond .ne 8, 3) by decide +kernel) (by decide) ?_
          refine tr_aload_n (pc' := 180) (show decode cX2_runOnce 179 = .ok (.aload_n 0, 1) by decide +kernel) rfl rfl rfl ?_
          refine tr_getI (pc' := 183) fl_HandRing_Errand_53 (show decode cX2_runOnce 180 = .ok (.getfield 53, 3) by decide +kernel) rfl (la_o hL (by decide) rfl) ?_
          obtain ⟨μ20, eμ20, h⟩ := hm_bs h
          refine tp_pI (pc' := 186) fl_HandRing_Errand_53 (show decode cX2_runOnce 183 = .ok (.putfield 53, 3) by decide +kernel) rfl (la_o hL (by decide) rfl) eμ20 ?_
          replace hL := hL.same (hm_pI_s eμ20)
          refine tr_iconst (pc' := 187) (v := (1 : Int32)) (show decode cX2_runOnce 186 = .ok (.iconst 1, 1) by decide +kernel) rfl (by decide) ?_
          cases h
          exact tr_zret rfl (by decide) (show decode cX2_runOnce 187 = .ok (.ireturn, 1) by decide +kernel) hL
      · refine tr_if_ge_f (tgt := 151) (pc' := 149) hc (show decode cX2_runOnce 146 = .ok (.ifCond .ge 5, 3) by decide +kernel) (by decide) rfl ?_
        refine tr_iconst (pc' := 150) (v := (0 : Int32)) (show decode cX2_runOnce 149 = .ok (.iconst 0, 1) by decide +kernel) rfl (by decide) ?_
        cases h
        exact tr_zret rfl (by decide) (show decode cX2_runOnce 150 = .ok (.ireturn, 1) by decide +kernel) hL
    · refine tr_if_eq_f (tgt := 114) (pc' := 112) hc (show decode cX2_runOnce 109 = .ok (.ifCond .eq 5, 3) by decide +kernel) (by decide) rfl ?_
      refine tr_iconst (pc' := 113) (v := (0 : Int32)) (show decode cX2_runOnce 112 = .ok (.iconst 0, 1) by decide +kernel) rfl (by decide) ?_
      cases h
      exact tr_zret rfl (by decide) (show decode cX2_runOnce 113 = .ok (.ireturn, 1) by decide +kernel) hL
  · refine tr_if_eq_f (tgt := 88) (pc' := 86) hc (show decode cX2_runOnce 83 = .ok (.ifCond .eq 5, 3) by decide +kernel) (by decide) rfl ?_
    refine tr_iconst (pc' := 87) (v := (0 : Int32)) (show decode cX2_runOnce 86 = .ok (.iconst 0, 1) by decide +kernel) rfl (by decide) ?_
    cases h
    exact tr_zret rfl (by decide) (show decode cX2_runOnce 87 = .ok (.ireturn, 1) by decide +kernel) hL
def f_X2_runOnce (v2 : Int32) (v3 : Nat) (v4 : Nat) (μ : hm_M) : Option (Int32 × hm_M) :=
  Option.bind (f_X5_clausePart 151 v2 (2 : Int32) μ) fun x2 =>
  Option.bind (f_X5_clausePart 151 v2 (3 : Int32) μ) fun x3 =>
  Option.bind (f_X5_clausePart 151 v2 (4 : Int32) μ) fun x4 =>
  Option.bind (f_X2_setWords v3 (μ.1 151 5) μ) fun μ6 =>
  (if x3 = x4 then
  f_X2_runOnce_J58 v2 v3 v4 x2 x3 μ6
  else
  hm_b2 (f_X4_run 113 151 x3 x4 μ6) fun x22 μ23 =>
  (if x22 = (1 : Int32) then
  f_X2_runOnce_J58 v2 v3 v4 x2 x3 μ23
  else
  some ((1 : Int32), μ23)))
set_option maxRecDepth 100000 in
theorem ok_X2_runOnce {fr : Nat} (hfr : 6 ≤ fr) {ν : hm_N} {r : Int32} {μR : hm_M}  (v2 : Int32) (v3 : Nat) (v4 : Nat) (hv3 : hm_V v3) (hv4 : hm_S v4) (μ : hm_M) (hL : hm_LL ν μ) (h : f_X2_runOnce v2 v3 v4 μ = some (r, μR)) : hm_CC (hm_LL ν) m_X2_runOnce fr 0 0 [.ref 112, .ref 151, .int v2, .ref v3, .ref v4] μ (some (.int r)) μR := by
  refine hm_enter (lv := [some (.ref 112), some (.ref 151), some (.int v2), some (.ref v3), some (.ref v4), none, none, none, none, none, none, none]) (by decide) rfl (Nat.le_of_ble_eq_true rfl) ?_
  unfold f_X2_runOnce at h
  refine tr_aload_n (pc' := 1) (show decode cX2_runOnce 0 = .ok (.aload_n 1, 1) by decide +kernel) rfl rfl rfl ?_
  refine tr_iload_n (pc' := 2) (show decode cX2_runOnce 1 = .ok (.iload_n 2, 1) by decide +kernel) rfl rfl rfl ?_
  refine tr_iconst (pc' := 3) (v := (2 : Int32)) (show decode cX2_runOnce 2 = .ok (.iconst 2, 1) by decide +kernel) rfl (by decide) ?_
  obtain ⟨x2, ex2, h⟩ := hm_bs h
  have cx2 := ok_X5_clausePart (fr := fr - 1) (ν := ν) (by omega) 151 v2 (2 : Int32) (la_pg151 hL) μ hL ex2
  refine tp_callV (pc' := 6) (As := [.int v2, .int (2 : Int32)]) (fr1 := fr - 1) (ci := 5) okm_X5_clausePart lk_HandRing_Errand_58 (show decode cX2_runOnce 3 = .ok (.invokevirtual 58, 3) by decide +kernel) rfl rfl rfl (by decide) (la_o hL (by decide) rfl) rfl rfl (Nat.le_of_ble_eq_true rfl) (by omega) cx2 (st' := [.int x2]) rfl ?_
  refine tr_istore (pc' := 8) (lv' := [some (.ref 112), some (.ref 151), some (.int v2), some (.ref v3), some (.ref v4), some (.int x2), none, none, none, none, none, none]) (show decode cX2_runOnce 6 = .ok (.istore 5, 2) by decide +kernel) rfl (Nat.le_of_ble_eq_true rfl) rfl rfl ?_
  refine tr_aload_n (pc' := 9) (show decode cX2_runOnce 8 = .ok (.aload_n 1, 1) by decide +kernel) rfl rfl rfl ?_
  refine tr_iload_n (pc' := 10) (show decode cX2_runOnce 9 = .ok (.iload_n 2, 1) by decide +kernel) rfl rfl rfl ?_
  refine tr_iconst (pc' := 11) (v := (3 : Int32)) (show decode cX2_runOnce 10 = .ok (.iconst 3, 1) by decide +kernel) rfl (by decide) ?_
  obtain ⟨x3, ex3, h⟩ := hm_bs h
  have cx3 := ok_X5_clausePart (fr := fr - 1) (ν := ν) (by omega) 151 v2 (3 : Int32) (la_pg151 hL) μ hL ex3
  refine tp_callV (pc' := 14) (As := [.int v2, .int (3 : Int32)]) (fr1 := fr - 1) (ci := 5) okm_X5_clausePart lk_HandRing_Errand_58 (show decode cX2_runOnce 11 = .ok (.invokevirtual 58, 3) by decide +kernel) rfl rfl rfl (by decide) (la_o hL (by decide) rfl) rfl rfl (Nat.le_of_ble_eq_true rfl) (by omega) cx3 (st' := [.int x3]) rfl ?_
  refine tr_istore (pc' := 16) (lv' := [some (.ref 112), some (.ref 151), some (.int v2), some (.ref v3), some (.ref v4), some (.int x2), some (.int x3), none, none, none, none, none]) (show decode cX2_runOnce 14 = .ok (.istore 6, 2) by decide +kernel) rfl (Nat.le_of_ble_eq_true rfl) rfl rfl ?_
  refine tr_aload_n (pc' := 17) (show decode cX2_runOnce 16 = .ok (.aload_n 1, 1) by decide +kernel) rfl rfl rfl ?_
  refine tr_iload_n (pc' := 18) (show decode cX2_runOnce 17 = .ok (.iload_n 2, 1) by decide +kernel) rfl rfl rfl ?_
  refine tr_iconst (pc' := 19) (v := (4 : Int32)) (show decode cX2_runOnce 18 = .ok (.iconst 4, 1) by decide +kernel) rfl (by decide) ?_
  obtain ⟨x4, ex4, h⟩ := hm_bs h
  have cx4 := ok_X5_clausePart (fr := fr - 1) (ν := ν) (by omega) 151 v2 (4 : Int32) (la_pg151 hL) μ hL ex4
  refine tp_callV (pc' := 22) (As := [.int v2, .int (4 : Int32)]) (fr1 := fr - 1) (ci := 5) okm_X5_clausePart lk_HandRing_Errand_58 (show decode cX2_runOnce 19 = .ok (.invokevirtual 58, 3) by decide +kernel) rfl rfl rfl (by decide) (la_o hL (by decide) rfl) rfl rfl (Nat.le_of_ble_eq_true rfl) (by omega) cx4 (st' := [.int x4]) rfl ?_
  refine tr_istore (pc' := 24) (lv' := [some (.ref 112), some (.ref 151), some (.int v2), some (.ref v3), some (.ref v4), some (.int x2), some (.int x3), some (.int x4), none, none, none, none]) (show decode cX2_runOnce 22 = .ok (.istore 7, 2) by decide +kernel) rfl (Nat.le_of_ble_eq_true rfl) rfl rfl ?_
  refine tr_aload_n (pc' := 25) (show decode cX2_runOnce 24 = .ok (.aload_n 0, 1) by decide +kernel) rfl rfl rfl ?_
  refine tr_aload_n (pc' := 26) (show decode cX2_runOnce 25 = .ok (.aload_n 3, 1) by decide +kernel) rfl rfl rfl ?_
  refine tr_aload_n (pc' := 27) (show decode cX2_runOnce 26 = .ok (.aload_n 1, 1) by decide +kernel) rfl rfl rfl ?_
  refine tr_getI (pc' := 30) fl_HandRing_Errand_62 (show decode cX2_runOnce 27 = .ok (.getfield 62, 3) by decide +kernel) rfl (la_o hL (by decide) rfl) ?_
  obtain ⟨μ6, ex5, h⟩ := hm_bs h
  have cx5 := ok_X2_setWords (fr := fr - 1) (ν := ν) (by omega) v3 (μ.1 151 5) hv3 μ hL ex5
  refine tp_callV (pc' := 33) (As := [.ref v3, .int (μ.1 151 5)]) (fr1 := fr - 1) (ci := 2) okm_X2_setWords lk_HandRing_Errand_66 (show decode cX2_runOnce 30 = .ok (.invokevirtual 66, 3) by decide +kernel) rfl rfl rfl (by decide) (la_o hL (by decide) rfl) rfl rfl (Nat.le_of_ble_eq_true rfl) (by omega) cx5 (st' := []) rfl ?_
  replace hL := cx5.1
  refine tr_iload (pc' := 35) (show decode cX2_runOnce 33 = .ok (.iload 6, 2) by decide +kernel) rfl rfl ?_
  refine tr_iload (pc' := 37) (show decode cX2_runOnce 35 = .ok (.iload 7, 2) by decide +kernel) rfl rfl ?_
  rcases hm_is h with ⟨hc, h⟩ | ⟨hc, h⟩
  · refine tr_icmp_eq_t (tgt := 58) hc (show decode cX2_runOnce 37 = .ok (.if_icmp .eq 21, 3) by decide +kernel) (by decide) ?_
    refine hm_fgt [true, true, true, true, true, true, true, false, false, false, false, false] (lv' := [some (.ref 112), some (.ref 151), some (.int v2), some (.ref v3), some (.ref v4), some (.int x2), some (.int x3), none, none, none, none, none]) rfl ?_
    exact ok_X2_runOnce_J58 hfr _ _ _ hv3 hv4 x2 x3 μ6 hL h
  · refine tr_icmp_eq_f (tgt := 58) (pc' := 40) hc (show decode cX2_runOnce 37 = .ok (.if_icmp .eq 21, 3) by decide +kernel) (by decide) rfl ?_
    refine tr_aload_n (pc' := 41) (show decode cX2_runOnce 40 = .ok (.aload_n 0, 1) by decide +kernel) rfl rfl rfl ?_
    refine tr_getR (pc' := 44) fl_HandRing_Errand_16 (show decode cX2_runOnce 41 = .ok (.getfield 16, 3) by decide +kernel) rfl (la_o hL (by decide) rfl) (la_r hL 58 rfl) ?_
    refine tr_aload_n (pc' := 45) (show decode cX2_runOnce 44 = .ok (.aload_n 1, 1) by decide +kernel) rfl rfl rfl ?_
    refine tr_iload (pc' := 47) (show decode cX2_runOnce 45 = .ok (.iload 6, 2) by decide +kernel) rfl rfl ?_
    refine tr_iload (pc' := 49) (show decode cX2_runOnce 47 = .ok (.iload 7, 2) by decide +kernel) rfl rfl ?_
    obtain ⟨x22, μ23, ex22, h⟩ := hm_b2s h
    have cx22 := ok_X4_run (fr := fr - 1) (ν := ν) (by omega) 113 151 x3 x4 (by unfold hm_Q; decide) (la_pg151 hL) μ6 hL ex22
    refine tp_callV (pc' := 52) (As := [.ref 151, .int x3, .int x4]) (fr1 := fr - 1) (ci := 4) okm_X4_run lk_HandRing_Errand_70 (show decode cX2_runOnce 49 = .ok (.invokevirtual 70, 3) by decide +kernel) rfl rfl rfl (by decide) (la_o hL (by decide) rfl) rfl rfl (Nat.le_of_ble_eq_true rfl) (by omega) cx22 (st' := [.int x22]) rfl ?_
    replace hL := cx22.1
    refine tr_iconst (pc' := 53) (v := (1 : Int32)) (show decode cX2_runOnce 52 = .ok (.iconst 1, 1) by decide +kernel) rfl (by decide) ?_
    rcases hm_is h with ⟨hc, h⟩ | ⟨hc, h⟩
    · refine tr_icmp_eq_t (tgt := 58) hc (show decode cX2_runOnce 53 = .ok (.if_icmp .eq 5, 3) by decide +kernel) (by decide) ?_
      refine hm_fgt [true, true, true, true, true, true, true, false, false, false, false, false] (lv' := [some (.ref 112), some (.ref 151), some (.int v2), some (.ref v3), some (.ref v4), some (.int x2), some (.int x3), none, none, none, none, none]) rfl ?_
      exact ok_X2_runOnce_J58 hfr _ _ _ hv3 hv4 x2 x3 μ23 hL h
    · refine tr_icmp_eq_f (tgt := 58) (pc' := 56) hc (show decode cX2_runOnce 53 = .ok (.if_icmp .eq 5, 3) by decide +kernel) (by decide) rfl ?_
      refine tr_iconst (pc' := 57) (v := (1 : Int32)) (show decode cX2_runOnce 56 = .ok (.iconst 1, 1) by decide +kernel) rfl (by decide) ?_
      cases h
      exact tr_zret rfl (by decide) (show decode cX2_runOnce 57 = .ok (.ireturn, 1) by decide +kernel) hL
def f_X3_canBits_J42 (v1 : Nat) (v2 : Option Nat) (v3 : Int32) (c6 : Int32 → Int32 → hm_M → Option (Int32 × hm_M)) (e48 : Int32 → hm_M → Option (Int32 × hm_M)) (y4 : Int32) (y5 : Int32) (μ1 : hm_M) : Option (Int32 × hm_M) :=
  c6 y4 (y5 + (1 : Int32)) μ1
theorem ok_X3_canBits_J42 {fr : Nat} (hfr : 4 ≤ fr) {ν : hm_N} {r : Int32} {μR : hm_M}  (v1 : Nat) (v2 : Option Nat) (v3 : Int32) (c6 : Int32 → Int32 → hm_M → Option (Int32 × hm_M)) (e48 : Int32 → hm_M → Option (Int32 × hm_M)) (hc6 : ∀ (y4 : Int32) (y5 : Int32)  (μ1 : hm_M), hm_LL ν μ1 → c6 y4 y5 μ1 = some (r, μR) → hm_T (hm_LL ν) m_X3_canBits fr 0 0 (some (.int r)) μR 6 [some (.ref 106), some (.ref v1), some (va_rf v2), some (.int v3), some (.int y4), some (.int y5)] [] μ1) (he48 : ∀ (y4 : Int32)  (μ1 : hm_M), hm_LL ν μ1 → e48 y4 μ1 = some (r, μR) → hm_T (hm_LL ν) m_X3_canBits fr 0 0 (some (.int r)) μR 48 [none, none, none, none, some (.int y4), none] [] μ1) (hv1 : hm_V v1) (hv2 : ∀ p, v2 = some p → hm_pg ν p) (y4 : Int32) (y5 : Int32) (μ1 : hm_M) (hL : hm_LL ν μ1) (h : f_X3_canBits_J42 v1 v2 v3 c6 e48 y4 y5 μ1 = some (r, μR)) : hm_T (hm_LL ν) m_X3_canBits fr 0 0 (some (.int r)) μR 42 [some (.ref 106), some (.ref v1), some (va_rf v2), some (.int v3), some (.int y4), some (.int y5)] [] μ1 := by
  unfold f_X3_canBits_J42 at h
  refine tr_iinc (pc' := 45) (v := y5 + (1 : Int32)) (lv' := [some (.ref 106), some (.ref v1), some (va_rf v2), some (.int v3), some (.int y4), some (.int (y5 + (1 : Int32)))]) (show decode cX3_canBits 42 = .ok (.iinc 5 1, 3) by decide +kernel) rfl rfl rfl (Nat.le_of_ble_eq_true rfl) rfl rfl ?_
  refine tr_goto (tgt := 6) (show decode cX3_canBits 45 = .ok (.goto (-39), 3) by decide +kernel) rfl ?_
  exact hc6 y4 (y5 + (1 : Int32)) μ1 hL h
def f_X3_canBits_L6 (v1 : Nat) (v2 : Option Nat) (v3 : Int32) (e48 : Int32 → hm_M → Option (Int32 × hm_M)) : Nat → Int32 → Int32 → hm_M → Option (Int32 × hm_M)
  | 0, _, _, _ => none
  | n + 1, y4, y5, μ1 => (if (μ1.1 v1 0) ≤ y5 then
  e48 y4 μ1
  else
  (if y5 = v3 then
  f_X3_canBits_J42 v1 v2 v3 (f_X3_canBits_L6 v1 v2 v3 e48 n) e48 y4 y5 μ1
  else
  hm_b2 (f_X3_canHold v1 v2 v3 y5 μ1) fun x2 μ3 =>
  (if x2 = 0 then
  f_X3_canBits_J42 v1 v2 v3 (f_X3_canBits_L6 v1 v2 v3 e48 n) e48 y4 y5 μ3
  else
  Option.bind (some (y4 ||| ((1 : Int32) <<< (y5 &&& 31)))) fun x4 =>
  f_X3_canBits_J42 v1 v2 v3 (f_X3_canBits_L6 v1 v2 v3 e48 n) e48 x4 y5 μ3)))
theorem ok_X3_canBits_L6 {fr : Nat} (hfr : 4 ≤ fr) {ν : hm_N} {r : Int32} {μR : hm_M}  (v1 : Nat) (v2 : Option Nat) (v3 : Int32) (e48 : Int32 → hm_M → Option (Int32 × hm_M))  (he48 : ∀ (y4 : Int32)  (μ1 : hm_M), hm_LL ν μ1 → e48 y4 μ1 = some (r, μR) → hm_T (hm_LL ν) m_X3_canBits fr 0 0 (some (.int r)) μR 48 [none, none, none, none, some (.int y4), none] [] μ1) (hv1 : hm_V v1) (hv2 : ∀ p, v2 = some p → hm_pg ν p) : ∀ (n : Nat) (y4 : Int32) (y5 : Int32)  (μ1 : hm_M), hm_LL ν μ1 → f_X3_canBits_L6 v1 v2 v3 e48 n y4 y5 μ1 = some (r, μR) → hm_T (hm_LL ν) m_X3_canBits fr 0 0 (some (.int r)) μR 6 [some (.ref 106), some (.ref v1), some (va_rf v2), some (.int v3), some (.int y4), some (.int y5)] [] μ1 := by
  intro n
  induction n with
  | zero =>
    intro y4 y5 μ1 hL h
    unfold f_X3_canBits_L6 at h
    cases h
  | succ n ih =>
    intro y4 y5 μ1 hL h
    unfold f_X3_canBits_L6 at h
    refine tr_iload (pc' := 8) (show decode cX3_canBits 6 = .ok (.iload 5, 2) by decide +kernel) rfl rfl ?_
    refine tr_aload_n (pc' := 9) (show decode cX3_canBits 8 = .ok (.aload_n 1, 1) by decide +kernel) rfl rfl rfl ?_
    refine tr_getI (pc' := 12) fl_HandRing_Judge_47 (show decode cX3_canBits 9 = .ok (.getfield 47, 3) by decide +kernel) rfl (la_vo hL hv1) ?_
    rcases hm_is h with ⟨hc, h⟩ | ⟨hc, h⟩
    · refine tr_icmp_ge_t (tgt := 48) hc (show decode cX3_canBits 12 = .ok (.if_icmp .ge 36, 3) by decide +kernel) (by decide) ?_
      refine hm_fgt [false, false, false, false, true, false] (lv' := [none, none, none, none, some (.int y4), none]) rfl ?_
      exact he48 y4 μ1 hL h
    · refine tr_icmp_ge_f (tgt := 48) (pc' := 15) hc (show decode cX3_canBits 12 = .ok (.if_icmp .ge 36, 3) by decide +kernel) (by decide) rfl ?_
      refine tr_iload (pc' := 17) (show decode cX3_canBits 15 = .ok (.iload 5, 2) by decide +kernel) rfl rfl ?_
      refine tr_iload_n (pc' := 18) (show decode cX3_canBits 17 = .ok (.iload_n 3, 1) by decide +kernel) rfl rfl rfl ?_
      rcases hm_is h with ⟨hc, h⟩ | ⟨hc, h⟩
      · refine tr_icmp_eq_t (tgt := 42) hc (show decode cX3_canBits 18 = .ok (.if_icmp .eq 24, 3) by decide +kernel) (by decide) ?_
        exact ok_X3_canBits_J42 hfr _ _ _ (f_X3_canBits_L6 v1 v2 v3 e48 n) e48 ih he48 hv1 hv2 y4 y5 μ1 hL h
      · refine tr_icmp_eq_f (tgt := 42) (pc' := 21) hc (show decode cX3_canBits 18 = .ok (.if_icmp .eq 24, 3) by decide +kernel) (by decide) rfl ?_
        refine tr_aload_n (pc' := 22) (show decode cX3_canBits 21 = .ok (.aload_n 0, 1) by decide +kernel) rfl rfl rfl ?_
        refine tr_aload_n (pc' := 23) (show decode cX3_canBits 22 = .ok (.aload_n 1, 1) by decide +kernel) rfl rfl rfl ?_
        refine tr_aloadq_n (pc' := 24) (show decode cX3_canBits 23 = .ok (.aload_n 2, 1) by decide +kernel) rfl rfl rfl ?_
        refine tr_iload_n (pc' := 25) (show decode cX3_canBits 24 = .ok (.iload_n 3, 1) by decide +kernel) rfl rfl rfl ?_
        refine tr_iload (pc' := 27) (show decode cX3_canBits 25 = .ok (.iload 5, 2) by decide +kernel) rfl rfl ?_
        obtain ⟨x2, μ3, ex2, h⟩ := hm_b2s h
        have cx2 := ok_X3_canHold (fr := fr - 1) (ν := ν) (by omega) v1 v2 v3 y5 hv1 hv2 μ1 hL ex2
        refine tp_callV (pc' := 30) (As := [.ref v1, va_rf v2, .int v3, .int y5]) (fr1 := fr - 1) (ci := 3) okm_X3_canHold lk_HandRing_Judge_51 (show decode cX3_canBits 27 = .ok (.invokevirtual 51, 3) by decide +kernel) rfl rfl rfl (by decide) (la_o hL (by decide) rfl) rfl rfl (Nat.le_of_ble_eq_true rfl) (by omega) cx2 (st' := [.int x2]) rfl ?_
        replace hL := cx2.1
        rcases hm_is h with ⟨hc, h⟩ | ⟨hc, h⟩
        · refine tr_if_eq_t (tgt := 42) hc (show decode cX3_canBits 30 = .ok (.ifCond .eq 12, 3) by decide +kernel) (by decide) ?_
          exact ok_X3_canBits_J42 hfr _ _ _ (f_X3_canBits_L6 v1 v2 v3 e48 n) e48 ih he48 hv1 hv2 y4 y5 μ3 hL h
        · refine tr_if_eq_f (tgt := 42) (pc' := 33) hc (show decode cX3_canBits 30 = .ok (.ifCond .eq 12, 3) by decide +kernel) (by decide) rfl ?_
          refine tr_iload (pc' := 35) (show decode cX3_canBits 33 = .ok (.iload 4, 2) by decide +kernel) rfl rfl ?_
          refine tr_iconst (pc' := 36) (v := (1 : Int32)) (show decode cX3_canBits 35 = .ok (.iconst 1, 1) by decide +kernel) rfl (by decide) ?_
          refine tr_iload (pc' := 38) (show decode cX3_canBits 36 = .ok (.iload 5, 2) by decide +kernel) rfl rfl ?_
          refine tr_ishl (pc' := 39) (show decode cX3_canBits 38 = .ok (.ishl, 1) by decide +kernel) rfl ?_
          refine tr_ior (pc' := 40) (show decode cX3_canBits 39 = .ok (.ior, 1) by decide +kernel) rfl ?_
          obtain ⟨x4, ex4, h⟩ := hm_bs h
          have ex4 := Option.some.inj ex4
          rw [ex4]
          refine tr_istore (pc' := 42) (lv' := [some (.ref 106), some (.ref v1), some (va_rf v2), some (.int v3), some (.int x4), some (.int y5)]) (show decode cX3_canBits 40 = .ok (.istore 4, 2) by decide +kernel) rfl (Nat.le_of_ble_eq_true rfl) rfl rfl ?_
          exact ok_X3_canBits_J42 hfr _ _ _ (f_X3_canBits_L6 v1 v2 v3 e48 n) e48 ih he48 hv1 hv2 x4 y5 μ3 hL h
def f_X3_canBits (v1 : Nat) (v2 : Option Nat) (v3 : Int32) (μ : hm_M) : Option (Int32 × hm_M) :=
  f_X3_canBits_L6 v1 v2 v3 (fun z5_4 μz5 => some (z5_4, μz5)) hm_fu (0 : Int32) (0 : Int32) μ
set_option maxRecDepth 100000 in
theorem ok_X3_canBits {fr : Nat} (hfr : 4 ≤ fr) {ν : hm_N} {r : Int32} {μR : hm_M}  (v1 : Nat) (v2 : Option Nat) (v3 : Int32) (hv1 : hm_V v1) (hv2 : ∀ p, v2 = some p → hm_pg ν p) (μ : hm_M) (hL : hm_LL ν μ) (h : f_X3_canBits v1 v2 v3 μ = some (r, μR)) : hm_CC (hm_LL ν) m_X3_canBits fr 0 0 [.ref 106, .ref v1, va_rf v2, .int v3] μ (some (.int r)) μR := by
  refine hm_enter (lv := [some (.ref 106), some (.ref v1), some (va_rf v2), some (.int v3), none, none]) (by decide) (by cases v2 <;> rfl) (by cases v2 <;> exact Nat.le_of_ble_eq_true rfl) ?_
  unfold f_X3_canBits at h
  refine tr_iconst (pc' := 1) (v := (0 : Int32)) (show decode cX3_canBits 0 = .ok (.iconst 0, 1) by decide +kernel) rfl (by decide) ?_
  refine tr_istore (pc' := 3) (lv' := [some (.ref 106), some (.ref v1), some (va_rf v2), some (.int v3), some (.int (0 : Int32)), none]) (show decode cX3_canBits 1 = .ok (.istore 4, 2) by decide +kernel) rfl (Nat.le_of_ble_eq_true rfl) rfl rfl ?_
  refine tr_iconst (pc' := 4) (v := (0 : Int32)) (show decode cX3_canBits 3 = .ok (.iconst 0, 1) by decide +kernel) rfl (by decide) ?_
  refine tr_istore (pc' := 6) (lv' := [some (.ref 106), some (.ref v1), some (va_rf v2), some (.int v3), some (.int (0 : Int32)), some (.int (0 : Int32))]) (show decode cX3_canBits 4 = .ok (.istore 5, 2) by decide +kernel) rfl (Nat.le_of_ble_eq_true rfl) rfl rfl ?_
  refine ok_X3_canBits_L6 hfr _ _ _ _ ?_ hv1 hv2 _ (0 : Int32) (0 : Int32) μ hL h
  · intro z5_4 μz5 hL h
    refine tr_iload (pc' := 50) (show decode cX3_canBits 48 = .ok (.iload 4, 2) by decide +kernel) rfl rfl ?_
    cases h
    exact tr_iret rfl (show decode cX3_canBits 50 = .ok (.ireturn, 1) by decide +kernel) hL
def f_X5_clear (o0 : Nat) (μ : hm_M) : Option hm_M :=
  Option.bind (hm_pI μ o0 3 (0 : Int32)) fun μ2 =>
  Option.bind (hm_pI μ2 o0 4 (0 : Int32)) fun μ3 =>
  Option.bind (hm_pZ μ3 o0 5 (0 : Int32)) fun μ4 =>
  some μ4
set_option maxRecDepth 100000 in
theorem ok_X5_clear {fr : Nat} (hfr : 0 ≤ fr) {ν : hm_N} {μR : hm_M}  (o0 : Nat) (ho0 : hm_pg ν o0) (μ : hm_M) (hL : hm_LL ν μ) (h : f_X5_clear o0 μ = some μR) : hm_CC (hm_LL ν) m_X5_clear fr 0 0 [.ref o0] μ none μR := by
  refine hm_enter (lv := [some (.ref o0)]) (by decide) rfl (Nat.le_of_ble_eq_true rfl) ?_
  unfold f_X5_clear at h
  refine tr_aload_n (pc' := 1) (show decode cX5_clear 0 = .ok (.aload_n 0, 1) by decide +kernel) rfl rfl rfl ?_
  refine tr_iconst (pc' := 2) (v := (0 : Int32)) (show decode cX5_clear 1 = .ok (.iconst 0, 1) by decide +kernel) rfl (by decide) ?_
  obtain ⟨μ2, eμ2, h⟩ := hm_bs h
  refine tp_pI (pc' := 5) fl_HandRing_Program_25 (show decode cX5_clear 2 = .ok (.putfield 25, 3) by decide +kernel) rfl (la_po hL ho0) eμ2 ?_
  replace hL := hL.same (hm_pI_s eμ2)
  refine tr_aload_n (pc' := 6) (show decode cX5_clear 5 = .ok (.aload_n 0, 1) by decide +kernel) rfl rfl rfl ?_
  refine tr_iconst (pc' := 7) (v := (0 : Int32)) (show decode cX5_clear 6 = .ok (.iconst 0, 1) by decide +kernel) rfl (by decide) ?_
  obtain ⟨μ3, eμ3, h⟩ := hm_bs h
  refine tp_pI (pc' := 10) fl_HandRing_Program_29 (show decode cX5_clear 7 = .ok (.putfield 29, 3) by decide +kernel) rfl (la_po hL ho0) eμ3 ?_
  replace hL := hL.same (hm_pI_s eμ3)
  refine tr_aload_n (pc' := 11) (show decode cX5_clear 10 = .ok (.aload_n 0, 1) by decide +kernel) rfl rfl rfl ?_
  refine tr_iconst (pc' := 12) (v := (0 : Int32)) (show decode cX5_clear 11 = .ok (.iconst 0, 1) by decide +kernel) rfl (by decide) ?_
  obtain ⟨μ4, eμ4, h⟩ := hm_bs h
  refine tp_pZ (pc' := 15) fl_HandRing_Program_32 (show decode cX5_clear 12 = .ok (.putfield 32, 3) by decide +kernel) rfl (la_po hL ho0) eμ4 ?_
  replace hL := hL.same (hm_pZ_s eμ4)
  cases h
  exact tr_vret rfl (show decode cX5_clear 15 = .ok (.return_, 1) by decide +kernel) hL
def f_X5_emit (o0 : Nat) (v1 : Int32) (v2 : Int32) (μ : hm_M) : Option hm_M :=
  (if (Int32.ofNat (hm_ln μ (o0 + 1))) ≤ (μ.1 o0 3) then
  some μ
  else
  Option.bind (hm_sd μ (o0 + 1) (hm_ln μ (o0 + 1)) (μ.1 o0 3) v1) fun μ2 =>
  Option.bind (hm_sd μ2 (o0 + 2) (hm_ln μ2 (o0 + 2)) (μ2.1 o0 3) v2) fun μ3 =>
  Option.bind (hm_pI μ3 o0 3 ((μ3.1 o0 3) + (1 : Int32))) fun μ4 =>
  some μ4)
set_option maxRecDepth 100000 in
theorem ok_X5_emit {fr : Nat} (hfr : 0 ≤ fr) {ν : hm_N} {μR : hm_M}  (o0 : Nat) (v1 : Int32) (v2 : Int32) (ho0 : hm_pg ν o0) (μ : hm_M) (hL : hm_LL ν μ) (h : f_X5_emit o0 v1 v2 μ = some μR) : hm_CC (hm_LL ν) m_X5_emit fr 0 0 [.ref o0, .int v1, .int v2] μ none μR := by
  refine hm_enter (lv := [some (.ref o0), some (.int v1), some (.int v2)]) (by decide) rfl (Nat.le_of_ble_eq_true rfl) ?_
  unfold f_X5_emit at h
  refine tr_aload_n (pc' := 1) (show decode cX5_emit 0 = .ok (.aload_n 0, 1) by decide +kernel) rfl rfl rfl ?_
  refine tr_getI (pc' := 4) fl_HandRing_Program_25 (show decode cX5_emit 1 = .ok (.getfield 25, 3) by decide +kernel) rfl (la_po hL ho0) ?_
  refine tr_aload_n (pc' := 5) (show decode cX5_emit 4 = .ok (.aload_n 0, 1) by decide +kernel) rfl rfl rfl ?_
  refine tr_getR (pc' := 8) fl_HandRing_Program_13 (show decode cX5_emit 5 = .ok (.getfield 13, 3) by decide +kernel) rfl (la_po hL ho0) (la_pr0 hL ho0) ?_
  refine tr_alen (pc' := 9) (t0 := 2) (by decide) (fun _ => rfl) (show decode cX5_emit 8 = .ok (.arraylength, 1) by decide +kernel) rfl (la_pa1 hL ho0) ?_
  rcases hm_is h with ⟨hc, h⟩ | ⟨hc, h⟩
  · refine tr_icmp_ge_t (tgt := 42) hc (show decode cX5_emit 9 = .ok (.if_icmp .ge 33, 3) by decide +kernel) (by decide) ?_
    cases h
    exact tr_vret rfl (show decode cX5_emit 42 = .ok (.return_, 1) by decide +kernel) hL
  · refine tr_icmp_ge_f (tgt := 42) (pc' := 12) hc (show decode cX5_emit 9 = .ok (.if_icmp .ge 33, 3) by decide +kernel) (by decide) rfl ?_
    refine tr_aload_n (pc' := 13) (show decode cX5_emit 12 = .ok (.aload_n 0, 1) by decide +kernel) rfl rfl rfl ?_
    refine tr_getR (pc' := 16) fl_HandRing_Program_13 (show decode cX5_emit 13 = .ok (.getfield 13, 3) by decide +kernel) rfl (la_po hL ho0) (la_pr0 hL ho0) ?_
    refine tr_aload_n (pc' := 17) (show decode cX5_emit 16 = .ok (.aload_n 0, 1) by decide +kernel) rfl rfl rfl ?_
    refine tr_getI (pc' := 20) fl_HandRing_Program_25 (show decode cX5_emit 17 = .ok (.getfield 25, 3) by decide +kernel) rfl (la_po hL ho0) ?_
    refine tr_iload_n (pc' := 21) (show decode cX5_emit 20 = .ok (.iload_n 1, 1) by decide +kernel) rfl rfl rfl ?_
    obtain ⟨μ2, eμ2, h⟩ := hm_bs h
    refine tp_sdI (pc' := 22) (show decode cX5_emit 21 = .ok (.iastore, 1) by decide +kernel) rfl (la_pa1 hL ho0) eμ2 ?_
    replace hL := hL.same (hm_sd_s eμ2)
    refine tr_aload_n (pc' := 23) (show decode cX5_emit 22 = .ok (.aload_n 0, 1) by decide +kernel) rfl rfl rfl ?_
    refine tr_getR (pc' := 26) fl_HandRing_Program_19 (show decode cX5_emit 23 = .ok (.getfield 19, 3) by decide +kernel) rfl (la_po hL ho0) (la_pr1 hL ho0) ?_
    refine tr_aload_n (pc' := 27) (show decode cX5_emit 26 = .ok (.aload_n 0, 1) by decide +kernel) rfl rfl rfl ?_
    refine tr_getI (pc' := 30) fl_HandRing_Program_25 (show decode cX5_emit 27 = .ok (.getfield 25, 3) by decide +kernel) rfl (la_po hL ho0) ?_
    refine tr_iload_n (pc' := 31) (show decode cX5_emit 30 = .ok (.iload_n 2, 1) by decide +kernel) rfl rfl rfl ?_
    obtain ⟨μ3, eμ3, h⟩ := hm_bs h
    refine tp_sdI (pc' := 32) (show decode cX5_emit 31 = .ok (.iastore, 1) by decide +kernel) rfl (la_pa2 hL ho0) eμ3 ?_
    replace hL := hL.same (hm_sd_s eμ3)
    refine tr_aload_n (pc' := 33) (show decode cX5_emit 32 = .ok (.aload_n 0, 1) by decide +kernel) rfl rfl rfl ?_
    refine tr_dup (pc' := 34) (show decode cX5_emit 33 = .ok (.dup, 1) by decide +kernel) rfl rfl ?_
    refine tr_getI (pc' := 37) fl_HandRing_Program_25 (show decode cX5_emit 34 = .ok (.getfield 25, 3) by decide +kernel) rfl (la_po hL ho0) ?_
    refine tr_iconst (pc' := 38) (v := (1 : Int32)) (show decode cX5_emit 37 = .ok (.iconst 1, 1) by decide +kernel) rfl (by decide) ?_
    refine tr_iadd (pc' := 39) (show decode cX5_emit 38 = .ok (.iadd, 1) by decide +kernel) rfl ?_
    obtain ⟨μ4, eμ4, h⟩ := hm_bs h
    refine tp_pI (pc' := 42) fl_HandRing_Program_25 (show decode cX5_emit 39 = .ok (.putfield 25, 3) by decide +kernel) rfl (la_po hL ho0) eμ4 ?_
    replace hL := hL.same (hm_pI_s eμ4)
    cases h
    exact tr_vret rfl (show decode cX5_emit 42 = .ok (.return_, 1) by decide +kernel) hL
def f_X5_leapToHere (o0 : Nat) (v1 : Int32) (μ : hm_M) : Option hm_M :=
  (if v1 < 0 then
  some μ
  else
  (if (μ.1 o0 3) ≤ v1 then
  some μ
  else
  Option.bind (hm_sd μ (o0 + 2) (hm_ln μ (o0 + 2)) v1 (μ.1 o0 3)) fun μ2 =>
  some μ2))
set_option maxRecDepth 100000 in
theorem ok_X5_leapToHere {fr : Nat} (hfr : 0 ≤ fr) {ν : hm_N} {μR : hm_M}  (o0 : Nat) (v1 : Int32) (ho0 : hm_pg ν o0) (μ : hm_M) (hL : hm_LL ν μ) (h : f_X5_leapToHere o0 v1 μ = some μR) : hm_CC (hm_LL ν) m_X5_leapToHere fr 0 0 [.ref o0, .int v1] μ none μR := by
  refine hm_enter (lv := [some (.ref o0), some (.int v1)]) (by decide) rfl (Nat.le_of_ble_eq_true rfl) ?_
  unfold f_X5_leapToHere at h
  refine tr_iload_n (pc' := 1) (show decode cX5_leapToHere 0 = .ok (.iload_n 1, 1) by decide +kernel) rfl rfl rfl ?_
  rcases hm_is h with ⟨hc, h⟩ | ⟨hc, h⟩
  · refine tr_if_lt_t (tgt := 22) hc (show decode cX5_leapToHere 1 = .ok (.ifCond .lt 21, 3) by decide +kernel) (by decide) ?_
    cases h
    exact tr_vret rfl (show decode cX5_leapToHere 22 = .ok (.return_, 1) by decide +kernel) hL
  · refine tr_if_lt_f (tgt := 22) (pc' := 4) hc (show decode cX5_leapToHere 1 = .ok (.ifCond .lt 21, 3) by decide +kernel) (by decide) rfl ?_
    refine tr_iload_n (pc' := 5) (show decode cX5_leapToHere 4 = .ok (.iload_n 1, 1) by decide +kernel) rfl rfl rfl ?_
    refine tr_aload_n (pc' := 6) (show decode cX5_leapToHere 5 = .ok (.aload_n 0, 1) by decide +kernel) rfl rfl rfl ?_
    refine tr_getI (pc' := 9) fl_HandRing_Program_25 (show decode cX5_leapToHere 6 = .ok (.getfield 25, 3) by decide +kernel) rfl (la_po hL ho0) ?_
    rcases hm_is h with ⟨hc, h⟩ | ⟨hc, h⟩
    · refine tr_icmp_ge_t (tgt := 22) hc (show decode cX5_leapToHere 9 = .ok (.if_icmp .ge 13, 3) by decide +kernel) (by decide) ?_
      cases h
      exact tr_vret rfl (show decode cX5_leapToHere 22 = .ok (.return_, 1) by decide +kernel) hL
    · refine tr_icmp_ge_f (tgt := 22) (pc' := 12) hc (show decode cX5_leapToHere 9 = .ok (.if_icmp .ge 13, 3) by decide +kernel) (by decide) rfl ?_
      refine tr_aload_n (pc' := 13) (show decode cX5_leapToHere 12 = .ok (.aload_n 0, 1) by decide +kernel) rfl rfl rfl ?_
      refine tr_getR (pc' := 16) fl_HandRing_Program_19 (show decode cX5_leapToHere 13 = .ok (.getfield 19, 3) by decide +kernel) rfl (la_po hL ho0) (la_pr1 hL ho0) ?_
      refine tr_iload_n (pc' := 17) (show decode cX5_leapToHere 16 = .ok (.iload_n 1, 1) by decide +kernel) rfl rfl rfl ?_
      refine tr_aload_n (pc' := 18) (show decode cX5_leapToHere 17 = .ok (.aload_n 0, 1) by decide +kernel) rfl rfl rfl ?_
      refine tr_getI (pc' := 21) fl_HandRing_Program_25 (show decode cX5_leapToHere 18 = .ok (.getfield 25, 3) by decide +kernel) rfl (la_po hL ho0) ?_
      obtain ⟨μ2, eμ2, h⟩ := hm_bs h
      refine tp_sdI (pc' := 22) (show decode cX5_leapToHere 21 = .ok (.iastore, 1) by decide +kernel) rfl (la_pa2 hL ho0) eμ2 ?_
      replace hL := hL.same (hm_sd_s eμ2)
      cases h
      exact tr_vret rfl (show decode cX5_leapToHere 22 = .ok (.return_, 1) by decide +kernel) hL
def f_X5_setPart (o0 : Nat) (v1 : Int32) (v2 : Int32) (μ : hm_M) : Option hm_M :=
  Option.bind (some (((μ.1 o0 4) * (6 : Int32)) + v1)) fun x2 =>
  (if x2 < 0 then
  some μ
  else
  (if (Int32.ofNat (hm_ln μ (o0 + 3))) ≤ x2 then
  some μ
  else
  Option.bind (hm_sd μ (o0 + 3) (hm_ln μ (o0 + 3)) x2 v2) fun μ3 =>
  some μ3))
set_option maxRecDepth 100000 in
theorem ok_X5_setPart {fr : Nat} (hfr : 0 ≤ fr) {ν : hm_N} {μR : hm_M}  (o0 : Nat) (v1 : Int32) (v2 : Int32) (ho0 : hm_pg ν o0) (μ : hm_M) (hL : hm_LL ν μ) (h : f_X5_setPart o0 v1 v2 μ = some μR) : hm_CC (hm_LL ν) m_X5_setPart fr 0 0 [.ref o0, .int v1, .int v2] μ none μR := by
  refine hm_enter (lv := [some (.ref o0), some (.int v1), some (.int v2), none]) (by decide) rfl (Nat.le_of_ble_eq_true rfl) ?_
  unfold f_X5_setPart at h
  refine tr_aload_n (pc' := 1) (show decode cX5_setPart 0 = .ok (.aload_n 0, 1) by decide +kernel) rfl rfl rfl ?_
  refine tr_getI (pc' := 4) fl_HandRing_Program_29 (show decode cX5_setPart 1 = .ok (.getfield 29, 3) by decide +kernel) rfl (la_po hL ho0) ?_
  refine tr_bipush (pc' := 6) (v := (6 : Int32)) (show decode cX5_setPart 4 = .ok (.bipush 6, 2) by decide +kernel) rfl (by decide) ?_
  refine tr_imul (pc' := 7) (show decode cX5_setPart 6 = .ok (.imul, 1) by decide +kernel) rfl ?_
  refine tr_iload_n (pc' := 8) (show decode cX5_setPart 7 = .ok (.iload_n 1, 1) by decide +kernel) rfl rfl rfl ?_
  refine tr_iadd (pc' := 9) (show decode cX5_setPart 8 = .ok (.iadd, 1) by decide +kernel) rfl ?_
  obtain ⟨x2, ex2, h⟩ := hm_bs h
  have ex2 := Option.some.inj ex2
  rw [ex2]
  refine tr_istore_n (pc' := 10) (lv' := [some (.ref o0), some (.int v1), some (.int v2), some (.int x2)]) (show decode cX5_setPart 9 = .ok (.istore_n 3, 1) by decide +kernel) rfl rfl (Nat.le_of_ble_eq_true rfl) rfl rfl ?_
  refine tr_iload_n (pc' := 11) (show decode cX5_setPart 10 = .ok (.iload_n 3, 1) by decide +kernel) rfl rfl rfl ?_
  rcases hm_is h with ⟨hc, h⟩ | ⟨hc, h⟩
  · refine tr_if_lt_t (tgt := 30) hc (show decode cX5_setPart 11 = .ok (.ifCond .lt 19, 3) by decide +kernel) (by decide) ?_
    cases h
    exact tr_vret rfl (show decode cX5_setPart 30 = .ok (.return_, 1) by decide +kernel) hL
  · refine tr_if_lt_f (tgt := 30) (pc' := 14) hc (show decode cX5_setPart 11 = .ok (.ifCond .lt 19, 3) by decide +kernel) (by decide) rfl ?_
    refine tr_iload_n (pc' := 15) (show decode cX5_setPart 14 = .ok (.iload_n 3, 1) by decide +kernel) rfl rfl rfl ?_
    refine tr_aload_n (pc' := 16) (show decode cX5_setPart 15 = .ok (.aload_n 0, 1) by decide +kernel) rfl rfl rfl ?_
    refine tr_getR (pc' := 19) fl_HandRing_Program_22 (show decode cX5_setPart 16 = .ok (.getfield 22, 3) by decide +kernel) rfl (la_po hL ho0) (la_pr2 hL ho0) ?_
    refine tr_alen (pc' := 20) (t0 := 2) (by decide) (fun _ => rfl) (show decode cX5_setPart 19 = .ok (.arraylength, 1) by decide +kernel) rfl (la_pa3 hL ho0) ?_
    rcases hm_is h with ⟨hc, h⟩ | ⟨hc, h⟩
    · refine tr_icmp_ge_t (tgt := 30) hc (show decode cX5_setPart 20 = .ok (.if_icmp .ge 10, 3) by decide +kernel) (by decide) ?_
      cases h
      exact tr_vret rfl (show decode cX5_setPart 30 = .ok (.return_, 1) by decide +kernel) hL
    · refine tr_icmp_ge_f (tgt := 30) (pc' := 23) hc (show decode cX5_setPart 20 = .ok (.if_icmp .ge 10, 3) by decide +kernel) (by decide) rfl ?_
      refine tr_aload_n (pc' := 24) (show decode cX5_setPart 23 = .ok (.aload_n 0, 1) by decide +kernel) rfl rfl rfl ?_
      refine tr_getR (pc' := 27) fl_HandRing_Program_22 (show decode cX5_setPart 24 = .ok (.getfield 22, 3) by decide +kernel) rfl (la_po hL ho0) (la_pr2 hL ho0) ?_
      refine tr_iload_n (pc' := 28) (show decode cX5_setPart 27 = .ok (.iload_n 3, 1) by decide +kernel) rfl rfl rfl ?_
      refine tr_iload_n (pc' := 29) (show decode cX5_setPart 28 = .ok (.iload_n 2, 1) by decide +kernel) rfl rfl rfl ?_
      obtain ⟨μ3, eμ3, h⟩ := hm_bs h
      refine tp_sdI (pc' := 30) (show decode cX5_setPart 29 = .ok (.iastore, 1) by decide +kernel) rfl (la_pa3 hL ho0) eμ3 ?_
      replace hL := hL.same (hm_sd_s eμ3)
      cases h
      exact tr_vret rfl (show decode cX5_setPart 30 = .ok (.return_, 1) by decide +kernel) hL
def f_X6_isLetter (v0 : Int32) : Option Int32 :=
  (if v0 < (97 : Int32) then
  some (0 : Int32)
  else
  (if (122 : Int32) < v0 then
  some (0 : Int32)
  else
  some (1 : Int32)))
set_option maxRecDepth 100000 in
theorem ok_X6_isLetter {fr : Nat} (hfr : 0 ≤ fr) {ν : hm_N} {r : Int32}  (v0 : Int32)  (μ : hm_M) (hL : hm_LL ν μ) (h : f_X6_isLetter v0 = some r) : hm_CC (hm_LL ν) m_X6_isLetter fr 0 0 [.int v0] μ (some (.int r)) μ := by
  refine hm_enter (lv := [some (.int v0)]) (by decide) rfl (Nat.le_of_ble_eq_true rfl) ?_
  unfold f_X6_isLetter at h
  refine tr_iload_n (pc' := 1) (show decode cX6_isLetter 0 = .ok (.iload_n 0, 1) by decide +kernel) rfl rfl rfl ?_
  refine tr_bipush (pc' := 3) (v := (97 : Int32)) (show decode cX6_isLetter 1 = .ok (.bipush 97, 2) by decide +kernel) rfl (by decide) ?_
  rcases hm_is h with ⟨hc, h⟩ | ⟨hc, h⟩
  · refine tr_icmp_lt_t (tgt := 16) hc (show decode cX6_isLetter 3 = .ok (.if_icmp .lt 13, 3) by decide +kernel) (by decide) ?_
    refine tr_iconst (pc' := 17) (v := (0 : Int32)) (show decode cX6_isLetter 16 = .ok (.iconst 0, 1) by decide +kernel) rfl (by decide) ?_
    cases h
    exact tr_zret rfl (by decide) (show decode cX6_isLetter 17 = .ok (.ireturn, 1) by decide +kernel) hL
  · refine tr_icmp_lt_f (tgt := 16) (pc' := 6) hc (show decode cX6_isLetter 3 = .ok (.if_icmp .lt 13, 3) by decide +kernel) (by decide) rfl ?_
    refine tr_iload_n (pc' := 7) (show decode cX6_isLetter 6 = .ok (.iload_n 0, 1) by decide +kernel) rfl rfl rfl ?_
    refine tr_bipush (pc' := 9) (v := (122 : Int32)) (show decode cX6_isLetter 7 = .ok (.bipush 122, 2) by decide +kernel) rfl (by decide) ?_
    rcases hm_is h with ⟨hc, h⟩ | ⟨hc, h⟩
    · refine tr_icmp_gt_t (tgt := 16) hc (show decode cX6_isLetter 9 = .ok (.if_icmp .gt 7, 3) by decide +kernel) (by decide) ?_
      refine tr_iconst (pc' := 17) (v := (0 : Int32)) (show decode cX6_isLetter 16 = .ok (.iconst 0, 1) by decide +kernel) rfl (by decide) ?_
      cases h
      exact tr_zret rfl (by decide) (show decode cX6_isLetter 17 = .ok (.ireturn, 1) by decide +kernel) hL
    · refine tr_icmp_gt_f (tgt := 16) (pc' := 12) hc (show decode cX6_isLetter 9 = .ok (.if_icmp .gt 7, 3) by decide +kernel) (by decide) rfl ?_
      refine tr_iconst (pc' := 13) (v := (1 : Int32)) (show decode cX6_isLetter 12 = .ok (.iconst 1, 1) by decide +kernel) rfl (by decide) ?_
      refine tr_goto (tgt := 17) (show decode cX6_isLetter 13 = .ok (.goto 4, 3) by decide +kernel) rfl ?_
      cases h
      exact tr_zret rfl (by decide) (show decode cX6_isLetter 17 = .ok (.ireturn, 1) by decide +kernel) hL
def f_X6_isDigit (v0 : Int32) : Option Int32 :=
  (if v0 < (48 : Int32) then
  some (0 : Int32)
  else
  (if (57 : Int32) < v0 then
  some (0 : Int32)
  else
  some (1 : Int32)))
set_option maxRecDepth 100000 in
theorem ok_X6_isDigit {fr : Nat} (hfr : 0 ≤ fr) {ν : hm_N} {r : Int32}  (v0 : Int32)  (μ : hm_M) (hL : hm_LL ν μ) (h : f_X6_isDigit v0 = some r) : hm_CC (hm_LL ν) m_X6_isDigit fr 0 0 [.int v0] μ (some (.int r)) μ := by
  refine hm_enter (lv := [some (.int v0)]) (by decide) rfl (Nat.le_of_ble_eq_true rfl) ?_
  unfold f_X6_isDigit at h
  refine tr_iload_n (pc' := 1) (show decode cX6_isDigit 0 = .ok (.iload_n 0, 1) by decide +kernel) rfl rfl rfl ?_
  refine tr_bipush (pc' := 3) (v := (48 : Int32)) (show decode cX6_isDigit 1 = .ok (.bipush 48, 2) by decide +kernel) rfl (by decide) ?_
  rcases hm_is h with ⟨hc, h⟩ | ⟨hc, h⟩
  · refine tr_icmp_lt_t (tgt := 16) hc (show decode cX6_isDigit 3 = .ok (.if_icmp .lt 13, 3) by decide +kernel) (by decide) ?_
    refine tr_iconst (pc' := 17) (v := (0 : Int32)) (show decode cX6_isDigit 16 = .ok (.iconst 0, 1) by decide +kernel) rfl (by decide) ?_
    cases h
    exact tr_zret rfl (by decide) (show decode cX6_isDigit 17 = .ok (.ireturn, 1) by decide +kernel) hL
  · refine tr_icmp_lt_f (tgt := 16) (pc' := 6) hc (show decode cX6_isDigit 3 = .ok (.if_icmp .lt 13, 3) by decide +kernel) (by decide) rfl ?_
    refine tr_iload_n (pc' := 7) (show decode cX6_isDigit 6 = .ok (.iload_n 0, 1) by decide +kernel) rfl rfl rfl ?_
    refine tr_bipush (pc' := 9) (v := (57 : Int32)) (show decode cX6_isDigit 7 = .ok (.bipush 57, 2) by decide +kernel) rfl (by decide) ?_
    rcases hm_is h with ⟨hc, h⟩ | ⟨hc, h⟩
    · refine tr_icmp_gt_t (tgt := 16) hc (show decode cX6_isDigit 9 = .ok (.if_icmp .gt 7, 3) by decide +kernel) (by decide) ?_
      refine tr_iconst (pc' := 17) (v := (0 : Int32)) (show decode cX6_isDigit 16 = .ok (.iconst 0, 1) by decide +kernel) rfl (by decide) ?_
      cases h
      exact tr_zret rfl (by decide) (show decode cX6_isDigit 17 = .ok (.ireturn, 1) by decide +kernel) hL
    · refine tr_icmp_gt_f (tgt := 16) (pc' := 12) hc (show decode cX6_isDigit 9 = .ok (.if_icmp .gt 7, 3) by decide +kernel) (by decide) rfl ?_
      refine tr_iconst (pc' := 13) (v := (1 : Int32)) (show decode cX6_isDigit 12 = .ok (.iconst 1, 1) by decide +kernel) rfl (by decide) ?_
      refine tr_goto (tgt := 17) (show decode cX6_isDigit 13 = .ok (.goto 4, 3) by decide +kernel) rfl ?_
      cases h
      exact tr_zret rfl (by decide) (show decode cX6_isDigit 17 = .ok (.ireturn, 1) by decide +kernel) hL
def f_X6_goOn_L8 (e46 : hm_M → Option hm_M) : Nat → hm_M → Option hm_M
  | 0, _ => none
  | n + 1, μ1 => (if (μ1.1 150 2) ≤ (μ1.1 150 5) then
  e46 μ1
  else
  Option.bind (hm_ld μ1 156 400 (μ1.1 150 5)) fun x3 =>
  (if x3 = (32 : Int32) then
  Option.bind (hm_pI μ1 150 5 ((μ1.1 150 5) + (1 : Int32))) fun μ4 =>
  (f_X6_goOn_L8 e46 n) μ4
  else
  e46 μ1))
theorem ok_X6_goOn_L8 {fr : Nat} (hfr : 1 ≤ fr) {ν : hm_N} {μR : hm_M}   (e46 : hm_M → Option hm_M)  (he46 : ∀   (μ1 : hm_M), hm_LL ν μ1 → e46 μ1 = some μR → hm_T (hm_LL ν) m_X6_goOn fr 0 0 none μR 46 [some (.ref 150)] [] μ1) (hT : ν.1 = some 156) : ∀ (n : Nat)   (μ1 : hm_M), hm_LL ν μ1 → f_X6_goOn_L8 e46 n μ1 = some μR → hm_T (hm_LL ν) m_X6_goOn fr 0 0 none μR 8 [some (.ref 150)] [] μ1 := by
  intro n
  induction n with
  | zero =>
    intro μ1 hL h
    unfold f_X6_goOn_L8 at h
    cases h
  | succ n ih =>
    intro μ1 hL h
    unfold f_X6_goOn_L8 at h
    refine tr_aload_n (pc' := 9) (show decode cX6_goOn 8 = .ok (.aload_n 0, 1) by decide +kernel) rfl rfl rfl ?_
    refine tr_getI (pc' := 12) fl_HandRing_Reader_57 (show decode cX6_goOn 9 = .ok (.getfield 57, 3) by decide +kernel) rfl (la_o hL (by decide) rfl) ?_
    refine tr_aload_n (pc' := 13) (show decode cX6_goOn 12 = .ok (.aload_n 0, 1) by decide +kernel) rfl rfl rfl ?_
    refine tr_getI (pc' := 16) fl_HandRing_Reader_30 (show decode cX6_goOn 13 = .ok (.getfield 30, 3) by decide +kernel) rfl (la_o hL (by decide) rfl) ?_
    rcases hm_is h with ⟨hc, h⟩ | ⟨hc, h⟩
    · refine tr_icmp_ge_t (tgt := 46) hc (show decode cX6_goOn 16 = .ok (.if_icmp .ge 30, 3) by decide +kernel) (by decide) ?_
      exact he46 μ1 hL h
    · refine tr_icmp_ge_f (tgt := 46) (pc' := 19) hc (show decode cX6_goOn 16 = .ok (.if_icmp .ge 30, 3) by decide +kernel) (by decide) rfl ?_
      refine tr_aload_n (pc' := 20) (show decode cX6_goOn 19 = .ok (.aload_n 0, 1) by decide +kernel) rfl rfl rfl ?_
      refine tr_getR (pc' := 23) fl_HandRing_Reader_20 (show decode cX6_goOn 20 = .ok (.getfield 20, 3) by decide +kernel) rfl (la_o hL (by decide) rfl) (la_tx hL hT) ?_
      refine tr_aload_n (pc' := 24) (show decode cX6_goOn 23 = .ok (.aload_n 0, 1) by decide +kernel) rfl rfl rfl ?_
      refine tr_getI (pc' := 27) fl_HandRing_Reader_57 (show decode cX6_goOn 24 = .ok (.getfield 57, 3) by decide +kernel) rfl (la_o hL (by decide) rfl) ?_
      obtain ⟨x3, ex3, h⟩ := hm_bs h
      refine tp_ldC (pc' := 28) (show decode cX6_goOn 27 = .ok (.caload, 1) by decide +kernel) rfl (la_a hL (by decide) rfl) ex3 ?_
      refine tr_bipush (pc' := 30) (v := (32 : Int32)) (show decode cX6_goOn 28 = .ok (.bipush 32, 2) by decide +kernel) rfl (by decide) ?_
      rcases hm_is h with ⟨hc, h⟩ | ⟨hc, h⟩
      · refine tr_icmp_ne_f (tgt := 46) (pc' := 33) hc (show decode cX6_goOn 30 = .ok (.if_icmp .ne 16, 3) by decide +kernel) (by decide) rfl ?_
        refine tr_aload_n (pc' := 34) (show decode cX6_goOn 33 = .ok (.aload_n 0, 1) by decide +kernel) rfl rfl rfl ?_
        refine tr_dup (pc' := 35) (show decode cX6_goOn 34 = .ok (.dup, 1) by decide +kernel) rfl rfl ?_
        refine tr_getI (pc' := 38) fl_HandRing_Reader_57 (show decode cX6_goOn 35 = .ok (.getfield 57, 3) by decide +kernel) rfl (la_o hL (by decide) rfl) ?_
        refine tr_iconst (pc' := 39) (v := (1 : Int32)) (show decode cX6_goOn 38 = .ok (.iconst 1, 1) by decide +kernel) rfl (by decide) ?_
        refine tr_iadd (pc' := 40) (show decode cX6_goOn 39 = .ok (.iadd, 1) by decide +kernel) rfl ?_
        obtain ⟨μ4, eμ4, h⟩ := hm_bs h
        refine tp_pI (pc' := 43) fl_HandRing_Reader_57 (show decode cX6_goOn 40 = .ok (.putfield 57, 3) by decide +kernel) rfl (la_o hL (by decide) rfl) eμ4 ?_
        replace hL := hL.same (hm_pI_s eμ4)
        refine tr_goto (tgt := 8) (show decode cX6_goOn 43 = .ok (.goto (-35), 3) by decide +kernel) rfl ?_
        exact ih μ4 hL h
      · refine tr_icmp_ne_t (tgt := 46) hc (show decode cX6_goOn 30 = .ok (.if_icmp .ne 16, 3) by decide +kernel) (by decide) ?_
        exact he46 μ1 hL h
def f_X6_goOn_L157 (e254 : hm_M → Option hm_M) : Nat → hm_M → Option hm_M
  | 0, _ => none
  | n + 1, μ1 => (if (μ1.1 150 2) ≤ (μ1.1 150 6) then
  e254 μ1
  else
  Option.bind (hm_ld μ1 156 400 (μ1.1 150 6)) fun x17 =>
  Option.bind (f_X6_isDigit x17) fun x18 =>
  (if x18 = 0 then
  e254 μ1
  else
  Option.bind (hm_ld μ1 156 400 (μ1.1 150 6)) fun x19 =>
  Option.bind (hm_pI μ1 150 7 (if (1001 : Int32) < ((((μ1.1 150 7) * (10 : Int32)) + x19) - (48 : Int32)) then (1001 : Int32) else ((((μ1.1 150 7) * (10 : Int32)) + x19) - (48 : Int32)))) fun μ20 =>
  Option.bind (hm_pI μ20 150 6 ((μ20.1 150 6) + (1 : Int32))) fun μ21 =>
  (f_X6_goOn_L157 e254 n) μ21))
theorem ok_X6_goOn_L157 {fr : Nat} (hfr : 1 ≤ fr) {ν : hm_N} {μR : hm_M}   (e254 : hm_M → Option hm_M)  (he254 : ∀   (μ1 : hm_M), hm_LL ν μ1 → e254 μ1 = some μR → hm_T (hm_LL ν) m_X6_goOn fr 0 0 none μR 254 [none] [] μ1) (hT : ν.1 = some 156) : ∀ (n : Nat)   (μ1 : hm_M), hm_LL ν μ1 → f_X6_goOn_L157 e254 n μ1 = some μR → hm_T (hm_LL ν) m_X6_goOn fr 0 0 none μR 157 [some (.ref 150)] [] μ1 := by
  intro n
  induction n with
  | zero =>
    intro μ1 hL h
    unfold f_X6_goOn_L157 at h
    cases h
  | succ n ih =>
    intro μ1 hL h
    unfold f_X6_goOn_L157 at h
    refine tr_aload_n (pc' := 158) (show decode cX6_goOn 157 = .ok (.aload_n 0, 1) by decide +kernel) rfl rfl rfl ?_
    refine tr_getI (pc' := 161) fl_HandRing_Reader_38 (show decode cX6_goOn 158 = .ok (.getfield 38, 3) by decide +kernel) rfl (la_o hL (by decide) rfl) ?_
    refine tr_aload_n (pc' := 162) (show decode cX6_goOn 161 = .ok (.aload_n 0, 1) by decide +kernel) rfl rfl rfl ?_
    refine tr_getI (pc' := 165) fl_HandRing_Reader_30 (show decode cX6_goOn 162 = .ok (.getfield 30, 3) by decide +kernel) rfl (la_o hL (by decide) rfl) ?_
    rcases hm_is h with ⟨hc, h⟩ | ⟨hc, h⟩
    · refine tr_icmp_ge_t (tgt := 254) hc (show decode cX6_goOn 165 = .ok (.if_icmp .ge 89, 3) by decide +kernel) (by decide) ?_
      refine hm_fgt [false] (lv' := [none]) rfl ?_
      exact he254 μ1 hL h
    · refine tr_icmp_ge_f (tgt := 254) (pc' := 168) hc (show decode cX6_goOn 165 = .ok (.if_icmp .ge 89, 3) by decide +kernel) (by decide) rfl ?_
      refine tr_aload_n (pc' := 169) (show decode cX6_goOn 168 = .ok (.aload_n 0, 1) by decide +kernel) rfl rfl rfl ?_
      refine tr_getR (pc' := 172) fl_HandRing_Reader_20 (show decode cX6_goOn 169 = .ok (.getfield 20, 3) by decide +kernel) rfl (la_o hL (by decide) rfl) (la_tx hL hT) ?_
      refine tr_aload_n (pc' := 173) (show decode cX6_goOn 172 = .ok (.aload_n 0, 1) by decide +kernel) rfl rfl rfl ?_
      refine tr_getI (pc' := 176) fl_HandRing_Reader_38 (show decode cX6_goOn 173 = .ok (.getfield 38, 3) by decide +kernel) rfl (la_o hL (by decide) rfl) ?_
      obtain ⟨x17, ex17, h⟩ := hm_bs h
      refine tp_ldC (pc' := 177) (show decode cX6_goOn 176 = .ok (.caload, 1) by decide +kernel) rfl (la_a hL (by decide) rfl) ex17 ?_
      obtain ⟨x18, ex18, h⟩ := hm_bs h
      have cx18 := ok_X6_isDigit (fr := fr - 1) (ν := ν) (by omega) x17 μ1 hL ex18
      refine tp_callS (pc' := 180) (As := [.int x17]) (fr1 := fr - 1) okm_X6_isDigit lk_HandRing_Reader_178 (show decode cX6_goOn 177 = .ok (.invokestatic 178, 3) by decide +kernel) rfl rfl rfl (Nat.le_of_ble_eq_true rfl) (by omega) cx18 (st' := [.int x18]) rfl ?_
      rcases hm_is h with ⟨hc, h⟩ | ⟨hc, h⟩
      · refine tr_if_eq_t (tgt := 254) hc (show decode cX6_goOn 180 = .ok (.ifCond .eq 74, 3) by decide +kernel) (by decide) ?_
        refine hm_fgt [false] (lv' := [none]) rfl ?_
        exact he254 μ1 hL h
      · refine tr_if_eq_f (tgt := 254) (pc' := 183) hc (show decode cX6_goOn 180 = .ok (.ifCond .eq 74, 3) by decide +kernel) (by decide) rfl ?_
        refine tr_aload_n (pc' := 184) (show decode cX6_goOn 183 = .ok (.aload_n 0, 1) by decide +kernel) rfl rfl rfl ?_
        refine tr_aload_n (pc' := 185) (show decode cX6_goOn 184 = .ok (.aload_n 0, 1) by decide +kernel) rfl rfl rfl ?_
        refine tr_getI (pc' := 188) fl_HandRing_Reader_111 (show decode cX6_goOn 185 = .ok (.getfield 111, 3) by decide +kernel) rfl (la_o hL (by decide) rfl) ?_
        refine tr_bipush (pc' := 190) (v := (10 : Int32)) (show decode cX6_goOn 188 = .ok (.bipush 10, 2) by decide +kernel) rfl (by decide) ?_
        refine tr_imul (pc' := 191) (show decode cX6_goOn 190 = .ok (.imul, 1) by decide +kernel) rfl ?_
        refine tr_aload_n (pc' := 192) (show decode cX6_goOn 191 = .ok (.aload_n 0, 1) by decide +kernel) rfl rfl rfl ?_
        refine tr_getR (pc' := 195) fl_HandRing_Reader_20 (show decode cX6_goOn 192 = .ok (.getfield 20, 3) by decide +kernel) rfl (la_o hL (by decide) rfl) (la_tx hL hT) ?_
        refine tr_aload_n (pc' := 196) (show decode cX6_goOn 195 = .ok (.aload_n 0, 1) by decide +kernel) rfl rfl rfl ?_
        refine tr_getI (pc' := 199) fl_HandRing_Reader_38 (show decode cX6_goOn 196 = .ok (.getfield 38, 3) by decide +kernel) rfl (la_o hL (by decide) rfl) ?_
        obtain ⟨x19, ex19, h⟩ := hm_bs h
        refine tp_ldC (pc' := 200) (show decode cX6_goOn 199 = .ok (.caload, 1) by decide +kernel) rfl (la_a hL (by decide) rfl) ex19 ?_
        refine tr_iadd (pc' := 201) (show decode cX6_goOn 200 = .ok (.iadd, 1) by decide +kernel) rfl ?_
        refine tr_bipush (pc' := 203) (v := (48 : Int32)) (show decode cX6_goOn 201 = .ok (.bipush 48, 2) by decide +kernel) rfl (by decide) ?_
        refine tr_isub (pc' := 204) (show decode cX6_goOn 203 = .ok (.isub, 1) by decide +kernel) rfl ?_
        refine tr_sipush (pc' := 207) (v := (1001 : Int32)) (show decode cX6_goOn 204 = .ok (.sipush 1001, 3) by decide +kernel) rfl (by decide) ?_
        refine tr_min (pc' := 210) lk_HandRing_Reader_24 kw_min_s kw_Math_i kw_min_c (show decode cX6_goOn 207 = .ok (.invokestatic 24, 3) by decide +kernel) rfl (Nat.le_of_ble_eq_true rfl) (by omega) ?_
        obtain ⟨μ20, eμ20, h⟩ := hm_bs h
        refine tp_pI (pc' := 213) fl_HandRing_Reader_111 (show decode cX6_goOn 210 = .ok (.putfield 111, 3) by decide +kernel) rfl (la_o hL (by decide) rfl) eμ20 ?_
        replace hL := hL.same (hm_pI_s eμ20)
        refine tr_aload_n (pc' := 214) (show decode cX6_goOn 213 = .ok (.aload_n 0, 1) by decide +kernel) rfl rfl rfl ?_
        refine tr_dup (pc' := 215) (show decode cX6_goOn 214 = .ok (.dup, 1) by decide +kernel) rfl rfl ?_
        refine tr_getI (pc' := 218) fl_HandRing_Reader_38 (show decode cX6_goOn 215 = .ok (.getfield 38, 3) by decide +kernel) rfl (la_o hL (by decide) rfl) ?_
        refine tr_iconst (pc' := 219) (v := (1 : Int32)) (show decode cX6_goOn 218 = .ok (.iconst 1, 1) by decide +kernel) rfl (by decide) ?_
        refine tr_iadd (pc' := 220) (show decode cX6_goOn 219 = .ok (.iadd, 1) by decide +kernel) rfl ?_
        obtain ⟨μ21, eμ21, h⟩ := hm_bs h
        refine tp_pI (pc' := 223) fl_HandRing_Reader_38 (show decode cX6_goOn 220 = .ok (.putfield 38, 3) by decide +kernel) rfl (la_o hL (by decide) rfl) eμ21 ?_
        replace hL := hL.same (hm_pI_s eμ21)
        refine tr_goto (tgt := 157) (show decode cX6_goOn 223 = .ok (.goto (-66), 3) by decide +kernel) rfl ?_
        exact ih μ21 hL h
def f_X6_goOn_L98 (e254 : hm_M → Option hm_M) : Nat → hm_M → Option hm_M
  | 0, _ => none
  | n + 1, μ1 => (if (μ1.1 150 2) ≤ (μ1.1 150 6) then
  e254 μ1
  else
  Option.bind (hm_ld μ1 156 400 (μ1.1 150 6)) fun x24 =>
  Option.bind (f_X6_isLetter x24) fun x25 =>
  (if x25 = 0 then
  e254 μ1
  else
  Option.bind (hm_pI μ1 150 6 ((μ1.1 150 6) + (1 : Int32))) fun μ26 =>
  (f_X6_goOn_L98 e254 n) μ26))
theorem ok_X6_goOn_L98 {fr : Nat} (hfr : 1 ≤ fr) {ν : hm_N} {μR : hm_M}   (e254 : hm_M → Option hm_M)  (he254 : ∀   (μ1 : hm_M), hm_LL ν μ1 → e254 μ1 = some μR → hm_T (hm_LL ν) m_X6_goOn fr 0 0 none μR 254 [none] [] μ1) (hT : ν.1 = some 156) : ∀ (n : Nat)   (μ1 : hm_M), hm_LL ν μ1 → f_X6_goOn_L98 e254 n μ1 = some μR → hm_T (hm_LL ν) m_X6_goOn fr 0 0 none μR 98 [some (.ref 150)] [] μ1 := by
  intro n
  induction n with
  | zero =>
    intro μ1 hL h
    unfold f_X6_goOn_L98 at h
    cases h
  | succ n ih =>
    intro μ1 hL h
    unfold f_X6_goOn_L98 at h
    refine tr_aload_n (pc' := 99) (show decode cX6_goOn 98 = .ok (.aload_n 0, 1) by decide +kernel) rfl rfl rfl ?_
    refine tr_getI (pc' := 102) fl_HandRing_Reader_38 (show decode cX6_goOn 99 = .ok (.getfield 38, 3) by decide +kernel) rfl (la_o hL (by decide) rfl) ?_
    refine tr_aload_n (pc' := 103) (show decode cX6_goOn 102 = .ok (.aload_n 0, 1) by decide +kernel) rfl rfl rfl ?_
    refine tr_getI (pc' := 106) fl_HandRing_Reader_30 (show decode cX6_goOn 103 = .ok (.getfield 30, 3) by decide +kernel) rfl (la_o hL (by decide) rfl) ?_
    rcases hm_is h with ⟨hc, h⟩ | ⟨hc, h⟩
    · refine tr_icmp_ge_t (tgt := 254) hc (show decode cX6_goOn 106 = .ok (.if_icmp .ge 148, 3) by decide +kernel) (by decide) ?_
      refine hm_fgt [false] (lv' := [none]) rfl ?_
      exact he254 μ1 hL h
    · refine tr_icmp_ge_f (tgt := 254) (pc' := 109) hc (show decode cX6_goOn 106 = .ok (.if_icmp .ge 148, 3) by decide +kernel) (by decide) rfl ?_
      refine tr_aload_n (pc' := 110) (show decode cX6_goOn 109 = .ok (.aload_n 0, 1) by decide +kernel) rfl rfl rfl ?_
      refine tr_getR (pc' := 113) fl_HandRing_Reader_20 (show decode cX6_goOn 110 = .ok (.getfield 20, 3) by decide +kernel) rfl (la_o hL (by decide) rfl) (la_tx hL hT) ?_
      refine tr_aload_n (pc' := 114) (show decode cX6_goOn 113 = .ok (.aload_n 0, 1) by decide +kernel) rfl rfl rfl ?_
      refine tr_getI (pc' := 117) fl_HandRing_Reader_38 (show decode cX6_goOn 114 = .ok (.getfield 38, 3) by decide +kernel) rfl (la_o hL (by decide) rfl) ?_
      obtain ⟨x24, ex24, h⟩ := hm_bs h
      refine tp_ldC (pc' := 118) (show decode cX6_goOn 117 = .ok (.caload, 1) by decide +kernel) rfl (la_a hL (by decide) rfl) ex24 ?_
      obtain ⟨x25, ex25, h⟩ := hm_bs h
      have cx25 := ok_X6_isLetter (fr := fr - 1) (ν := ν) (by omega) x24 μ1 hL ex25
      refine tp_callS (pc' := 121) (As := [.int x24]) (fr1 := fr - 1) okm_X6_isLetter lk_HandRing_Reader_175 (show decode cX6_goOn 118 = .ok (.invokestatic 175, 3) by decide +kernel) rfl rfl rfl (Nat.le_of_ble_eq_true rfl) (by omega) cx25 (st' := [.int x25]) rfl ?_
      rcases hm_is h with ⟨hc, h⟩ | ⟨hc, h⟩
      · refine tr_if_eq_t (tgt := 254) hc (show decode cX6_goOn 121 = .ok (.ifCond .eq 133, 3) by decide +kernel) (by decide) ?_
        refine hm_fgt [false] (lv' := [none]) rfl ?_
        exact he254 μ1 hL h
      · refine tr_if_eq_f (tgt := 254) (pc' := 124) hc (show decode cX6_goOn 121 = .ok (.ifCond .eq 133, 3) by decide +kernel) (by decide) rfl ?_
        refine tr_aload_n (pc' := 125) (show decode cX6_goOn 124 = .ok (.aload_n 0, 1) by decide +kernel) rfl rfl rfl ?_
        refine tr_dup (pc' := 126) (show decode cX6_goOn 125 = .ok (.dup, 1) by decide +kernel) rfl rfl ?_
        refine tr_getI (pc' := 129) fl_HandRing_Reader_38 (show decode cX6_goOn 126 = .ok (.getfield 38, 3) by decide +kernel) rfl (la_o hL (by decide) rfl) ?_
        refine tr_iconst (pc' := 130) (v := (1 : Int32)) (show decode cX6_goOn 129 = .ok (.iconst 1, 1) by decide +kernel) rfl (by decide) ?_
        refine tr_iadd (pc' := 131) (show decode cX6_goOn 130 = .ok (.iadd, 1) by decide +kernel) rfl ?_
        obtain ⟨μ26, eμ26, h⟩ := hm_bs h
        refine tp_pI (pc' := 134) fl_HandRing_Reader_38 (show decode cX6_goOn 131 = .ok (.putfield 38, 3) by decide +kernel) rfl (la_o hL (by decide) rfl) eμ26 ?_
        replace hL := hL.same (hm_pI_s eμ26)
        refine tr_goto (tgt := 98) (show decode cX6_goOn 134 = .ok (.goto (-36), 3) by decide +kernel) rfl ?_
        exact ih μ26 hL h
def f_X6_goOn_J46 (μ1 : hm_M) : Option hm_M :=
  Option.bind (hm_pI μ1 150 6 (μ1.1 150 5)) fun μ6 =>
  Option.bind (hm_pI μ6 150 7 (0 : Int32)) fun μ7 =>
  (if (μ7.1 150 5) < (μ7.1 150 2) then
  Option.bind (hm_ld μ7 156 400 (μ7.1 150 5)) fun x8 =>
  Option.bind (f_X6_isLetter x8) fun x9 =>
  (if x9 = 0 then
  Option.bind (hm_ld μ7 156 400 (μ7.1 150 5)) fun x10 =>
  Option.bind (f_X6_isDigit x10) fun x11 =>
  (if x11 = 0 then
  Option.bind (hm_pI μ7 150 4 (2 : Int32)) fun μ12 =>
  Option.bind (hm_ld μ12 156 400 (μ12.1 150 5)) fun x13 =>
  Option.bind (hm_pI μ12 150 7 x13) fun μ14 =>
  Option.bind (hm_pI μ14 150 6 ((μ14.1 150 6) + (1 : Int32))) fun μ15 =>
  some μ15
  else
  Option.bind (hm_pI μ7 150 4 (1 : Int32)) fun μ16 =>
  f_X6_goOn_L157 (fun μz22 => some μz22) hm_fu μ16)
  else
  Option.bind (hm_pI μ7 150 4 (0 : Int32)) fun μ23 =>
  f_X6_goOn_L98 (fun μz27 => some μz27) hm_fu μ23)
  else
  Option.bind (hm_pI μ7 150 4 (3 : Int32)) fun μ28 =>
  some μ28)
theorem ok_X6_goOn_J46 {fr : Nat} (hfr : 1 ≤ fr) {ν : hm_N} {μR : hm_M}     (hT : ν.1 = some 156)  (μ1 : hm_M) (hL : hm_LL ν μ1) (h : f_X6_goOn_J46 μ1 = some μR) : hm_T (hm_LL ν) m_X6_goOn fr 0 0 none μR 46 [some (.ref 150)] [] μ1 := by
  unfold f_X6_goOn_J46 at h
  refine tr_aload_n (pc' := 47) (show decode cX6_goOn 46 = .ok (.aload_n 0, 1) by decide +kernel) rfl rfl rfl ?_
  refine tr_aload_n (pc' := 48) (show decode cX6_goOn 47 = .ok (.aload_n 0, 1) by decide +kernel) rfl rfl rfl ?_
  refine tr_getI (pc' := 51) fl_HandRing_Reader_57 (show decode cX6_goOn 48 = .ok (.getfield 57, 3) by decide +kernel) rfl (la_o hL (by decide) rfl) ?_
  obtain ⟨μ6, eμ6, h⟩ := hm_bs h
  refine tp_pI (pc' := 54) fl_HandRing_Reader_38 (show decode cX6_goOn 51 = .ok (.putfield 38, 3) by decide +kernel) rfl (la_o hL (by decide) rfl) eμ6 ?_
  replace hL := hL.same (hm_pI_s eμ6)
  refine tr_aload_n (pc' := 55) (show decode cX6_goOn 54 = .ok (.aload_n 0, 1) by decide +kernel) rfl rfl rfl ?_
  refine tr_iconst (pc' := 56) (v := (0 : Int32)) (show decode cX6_goOn 55 = .ok (.iconst 0, 1) by decide +kernel) rfl (by decide) ?_
  obtain ⟨μ7, eμ7, h⟩ := hm_bs h
  refine tp_pI (pc' := 59) fl_HandRing_Reader_111 (show decode cX6_goOn 56 = .ok (.putfield 111, 3) by decide +kernel) rfl (la_o hL (by decide) rfl) eμ7 ?_
  replace hL := hL.same (hm_pI_s eμ7)
  refine tr_aload_n (pc' := 60) (show decode cX6_goOn 59 = .ok (.aload_n 0, 1) by decide +kernel) rfl rfl rfl ?_
  refine tr_getI (pc' := 63) fl_HandRing_Reader_57 (show decode cX6_goOn 60 = .ok (.getfield 57, 3) by decide +kernel) rfl (la_o hL (by decide) rfl) ?_
  refine tr_aload_n (pc' := 64) (show decode cX6_goOn 63 = .ok (.aload_n 0, 1) by decide +kernel) rfl rfl rfl ?_
  refine tr_getI (pc' := 67) fl_HandRing_Reader_30 (show decode cX6_goOn 64 = .ok (.getfield 30, 3) by decide +kernel) rfl (la_o hL (by decide) rfl) ?_
  rcases hm_is h with ⟨hc, h⟩ | ⟨hc, h⟩
  · refine tr_icmp_lt_t (tgt := 78) hc (show decode cX6_goOn 67 = .ok (.if_icmp .lt 11, 3) by decide +kernel) (by decide) ?_
    refine tr_aload_n (pc' := 79) (show decode cX6_goOn 78 = .ok (.aload_n 0, 1) by decide +kernel) rfl rfl rfl ?_
    refine tr_getR (pc' := 82) fl_HandRing_Reader_20 (show decode cX6_goOn 79 = .ok (.getfield 20, 3) by decide +kernel) rfl (la_o hL (by decide) rfl) (la_tx hL hT) ?_
    refine tr_aload_n (pc' := 83) (show decode cX6_goOn 82 = .ok (.aload_n 0, 1) by decide +kernel) rfl rfl rfl ?_
    refine tr_getI (pc' := 86) fl_HandRing_Reader_57 (show decode cX6_goOn 83 = .ok (.getfield 57, 3) by decide +kernel) rfl (la_o hL (by decide) rfl) ?_
    obtain ⟨x8, ex8, h⟩ := hm_bs h
    refine tp_ldC (pc' := 87) (show decode cX6_goOn 86 = .ok (.caload, 1) by decide +kernel) rfl (la_a hL (by decide) rfl) ex8 ?_
    obtain ⟨x9, ex9, h⟩ := hm_bs h
    have cx9 := ok_X6_isLetter (fr := fr - 1) (ν := ν) (by omega) x8 μ7 hL ex9
    refine tp_callS (pc' := 90) (As := [.int x8]) (fr1 := fr - 1) okm_X6_isLetter lk_HandRing_Reader_175 (show decode cX6_goOn 87 = .ok (.invokestatic 175, 3) by decide +kernel) rfl rfl rfl (Nat.le_of_ble_eq_true rfl) (by omega) cx9 (st' := [.int x9]) rfl ?_
    rcases hm_is h with ⟨hc, h⟩ | ⟨hc, h⟩
    · refine tr_if_eq_t (tgt := 137) hc (show decode cX6_goOn 90 = .ok (.ifCond .eq 47, 3) by decide +kernel) (by decide) ?_
      refine tr_aload_n (pc' := 138) (show decode cX6_goOn 137 = .ok (.aload_n 0, 1) by decide +kernel) rfl rfl rfl ?_
      refine tr_getR (pc' := 141) fl_HandRing_Reader_20 (show decode cX6_goOn 138 = .ok (.getfield 20, 3) by decide +kernel) rfl (la_o hL (by decide) rfl) (la_tx hL hT) ?_
      refine tr_aload_n (pc' := 142) (show decode cX6_goOn 141 = .ok (.aload_n 0, 1) by decide +kernel) rfl rfl rfl ?_
      refine tr_getI (pc' := 145) fl_HandRing_Reader_57 (show decode cX6_goOn 142 = .ok (.getfield 57, 3) by decide +kernel) rfl (la_o hL (by decide) rfl) ?_
      obtain ⟨x10, ex10, h⟩ := hm_bs h
      refine tp_ldC (pc' := 146) (show decode cX6_goOn 145 = .ok (.caload, 1) by decide +kernel) rfl (la_a hL (by decide) rfl) ex10 ?_
      obtain ⟨x11, ex11, h⟩ := hm_bs h
      have cx11 := ok_X6_isDigit (fr := fr - 1) (ν := ν) (by omega) x10 μ7 hL ex11
      refine tp_callS (pc' := 149) (As := [.int x10]) (fr1 := fr - 1) okm_X6_isDigit lk_HandRing_Reader_178 (show decode cX6_goOn 146 = .ok (.invokestatic 178, 3) by decide +kernel) rfl rfl rfl (Nat.le_of_ble_eq_true rfl) (by omega) cx11 (st' := [.int x11]) rfl ?_
      rcases hm_is h with ⟨hc, h⟩ | ⟨hc, h⟩
      · refine tr_if_eq_t (tgt := 226) hc (show decode cX6_goOn 149 = .ok (.ifCond .eq 77, 3) by decide +kernel) (by decide) ?_
        refine tr_aload_n (pc' := 227) (show decode cX6_goOn 226 = .ok (.aload_n 0, 1) by decide +kernel) rfl rfl rfl ?_
        refine tr_iconst (pc' := 228) (v := (2 : Int32)) (show decode cX6_goOn 227 = .ok (.iconst 2, 1) by decide +kernel) rfl (by decide) ?_
        obtain ⟨μ12, eμ12, h⟩ := hm_bs h
        refine tp_pI (pc' := 231) fl_HandRing_Reader_60 (show decode cX6_goOn 228 = .ok (.putfield 60, 3) by decide +kernel) rfl (la_o hL (by decide) rfl) eμ12 ?_
        replace hL := hL.same (hm_pI_s eμ12)
        refine tr_aload_n (pc' := 232) (show decode cX6_goOn 231 = .ok (.aload_n 0, 1) by decide +kernel) rfl rfl rfl ?_
        refine tr_aload_n (pc' := 233) (show decode cX6_goOn 232 = .ok (.aload_n 0, 1) by decide +kernel) rfl rfl rfl ?_
        refine tr_getR (pc' := 236) fl_HandRing_Reader_20 (show decode cX6_goOn 233 = .ok (.getfield 20, 3) by decide +kernel) rfl (la_o hL (by decide) rfl) (la_tx hL hT) ?_
        refine tr_aload_n (pc' := 237) (show decode cX6_goOn 236 = .ok (.aload_n 0, 1) by decide +kernel) rfl rfl rfl ?_
        refine tr_getI (pc' := 240) fl_HandRing_Reader_57 (show decode cX6_goOn 237 = .ok (.getfield 57, 3) by decide +kernel) rfl (la_o hL (by decide) rfl) ?_
        obtain ⟨x13, ex13, h⟩ := hm_bs h
        refine tp_ldC (pc' := 241) (show decode cX6_goOn 240 = .ok (.caload, 1) by decide +kernel) rfl (la_a hL (by decide) rfl) ex13 ?_
        obtain ⟨μ14, eμ14, h⟩ := hm_bs h
        refine tp_pI (pc' := 244) fl_HandRing_Reader_111 (show decode cX6_goOn 241 = .ok (.putfield 111, 3) by decide +kernel) rfl (la_o hL (by decide) rfl) eμ14 ?_
        replace hL := hL.same (hm_pI_s eμ14)
        refine tr_aload_n (pc' := 245) (show decode cX6_goOn 244 = .ok (.aload_n 0, 1) by decide +kernel) rfl rfl rfl ?_
        refine tr_dup (pc' := 246) (show decode cX6_goOn 245 = .ok (.dup, 1) by decide +kernel) rfl rfl ?_
        refine tr_getI (pc' := 249) fl_HandRing_Reader_38 (show decode cX6_goOn 246 = .ok (.getfield 38, 3) by decide +kernel) rfl (la_o hL (by decide) rfl) ?_
        refine tr_iconst (pc' := 250) (v := (1 : Int32)) (show decode cX6_goOn 249 = .ok (.iconst 1, 1) by decide +kernel) rfl (by decide) ?_
        refine tr_iadd (pc' := 251) (show decode cX6_goOn 250 = .ok (.iadd, 1) by decide +kernel) rfl ?_
        obtain ⟨μ15, eμ15, h⟩ := hm_bs h
        refine tp_pI (pc' := 254) fl_HandRing_Reader_38 (show decode cX6_goOn 251 = .ok (.putfield 38, 3) by decide +kernel) rfl (la_o hL (by decide) rfl) eμ15 ?_
        replace hL := hL.same (hm_pI_s eμ15)
        cases h
        exact tr_vret rfl (show decode cX6_goOn 254 = .ok (.return_, 1) by decide +kernel) hL
      · refine tr_if_eq_f (tgt := 226) (pc' := 152) hc (show decode cX6_goOn 149 = .ok (.ifCond .eq 77, 3) by decide +kernel) (by decide) rfl ?_
        refine tr_aload_n (pc' := 153) (show decode cX6_goOn 152 = .ok (.aload_n 0, 1) by decide +kernel) rfl rfl rfl ?_
        refine tr_iconst (pc' := 154) (v := (1 : Int32)) (show decode cX6_goOn 153 = .ok (.iconst 1, 1) by decide +kernel) rfl (by decide) ?_
        obtain ⟨μ16, eμ16, h⟩ := hm_bs h
        refine tp_pI (pc' := 157) fl_HandRing_Reader_60 (show decode cX6_goOn 154 = .ok (.putfield 60, 3) by decide +kernel) rfl (la_o hL (by decide) rfl) eμ16 ?_
        replace hL := hL.same (hm_pI_s eμ16)
        refine ok_X6_goOn_L157 hfr _ ?_ hT _ μ16 hL h
        · intro μz22 hL h
          cases h
          exact tr_vret rfl (show decode cX6_goOn 254 = .ok (.return_, 1) by decide +kernel) hL
    · refine tr_if_eq_f (tgt := 137) (pc' := 93) hc (show decode cX6_goOn 90 = .ok (.ifCond .eq 47, 3) by decide +kernel) (by decide) rfl ?_
      refine tr_aload_n (pc' := 94) (show decode cX6_goOn 93 = .ok (.aload_n 0, 1) by decide +kernel) rfl rfl rfl ?_
      refine tr_iconst (pc' := 95) (v := (0 : Int32)) (show decode cX6_goOn 94 = .ok (.iconst 0, 1) by decide +kernel) rfl (by decide) ?_
      obtain ⟨μ23, eμ23, h⟩ := hm_bs h
      refine tp_pI (pc' := 98) fl_HandRing_Reader_60 (show decode cX6_goOn 95 = .ok (.putfield 60, 3) by decide +kernel) rfl (la_o hL (by decide) rfl) eμ23 ?_
      replace hL := hL.same (hm_pI_s eμ23)
      refine ok_X6_goOn_L98 hfr _ ?_ hT _ μ23 hL h
      · intro μz27 hL h
        cases h
        exact tr_vret rfl (show decode cX6_goOn 254 = .ok (.return_, 1) by decide +kernel) hL
  · refine tr_icmp_lt_f (tgt := 78) (pc' := 70) hc (show decode cX6_goOn 67 = .ok (.if_icmp .lt 11, 3) by decide +kernel) (by decide) rfl ?_
    refine tr_aload_n (pc' := 71) (show decode cX6_goOn 70 = .ok (.aload_n 0, 1) by decide +kernel) rfl rfl rfl ?_
    refine tr_iconst (pc' := 72) (v := (3 : Int32)) (show decode cX6_goOn 71 = .ok (.iconst 3, 1) by decide +kernel) rfl (by decide) ?_
    obtain ⟨μ28, eμ28, h⟩ := hm_bs h
    refine tp_pI (pc' := 75) fl_HandRing_Reader_60 (show decode cX6_goOn 72 = .ok (.putfield 60, 3) by decide +kernel) rfl (la_o hL (by decide) rfl) eμ28 ?_
    replace hL := hL.same (hm_pI_s eμ28)
    refine tr_goto (tgt := 254) (show decode cX6_goOn 75 = .ok (.goto 179, 3) by decide +kernel) rfl ?_
    cases h
    exact tr_vret rfl (show decode cX6_goOn 254 = .ok (.return_, 1) by decide +kernel) hL
def f_X6_goOn (μ : hm_M) : Option hm_M :=
  Option.bind (hm_pI μ 150 5 (μ.1 150 6)) fun μ2 =>
  f_X6_goOn_L8 (fun μz5 => f_X6_goOn_J46 μz5) hm_fu μ2
set_option maxRecDepth 100000 in
theorem ok_X6_goOn {fr : Nat} (hfr : 1 ≤ fr) {ν : hm_N} {μR : hm_M}   (hT : ν.1 = some 156) (μ : hm_M) (hL : hm_LL ν μ) (h : f_X6_goOn μ = some μR) : hm_CC (hm_LL ν) m_X6_goOn fr 0 0 [.ref 150] μ none μR := by
  refine hm_enter (lv := [some (.ref 150)]) (by decide) rfl (Nat.le_of_ble_eq_true rfl) ?_
  unfold f_X6_goOn at h
  refine tr_aload_n (pc' := 1) (show decode cX6_goOn 0 = .ok (.aload_n 0, 1) by decide +kernel) rfl rfl rfl ?_
  refine tr_aload_n (pc' := 2) (show decode cX6_goOn 1 = .ok (.aload_n 0, 1) by decide +kernel) rfl rfl rfl ?_
  refine tr_getI (pc' := 5) fl_HandRing_Reader_38 (show decode cX6_goOn 2 = .ok (.getfield 38, 3) by decide +kernel) rfl (la_o hL (by decide) rfl) ?_
  obtain ⟨μ2, eμ2, h⟩ := hm_bs h
  refine tp_pI (pc' := 8) fl_HandRing_Reader_57 (show decode cX6_goOn 5 = .ok (.putfield 57, 3) by decide +kernel) rfl (la_o hL (by decide) rfl) eμ2 ?_
  replace hL := hL.same (hm_pI_s eμ2)
  refine ok_X6_goOn_L8 hfr _ ?_ hT _ μ2 hL h
  · intro μz5 hL h
    exact ok_X6_goOn_J46 hfr hT μz5 hL h
def f_X6_standsAt_L2 (v1 : Nat) (v2 : Int32) (e67 : hm_M → Option Int32) : Nat → Int32 → hm_M → Option Int32
  | 0, _, _ => none
  | n + 1, y3, μ1 => (if ((μ1.1 150 6) - (μ1.1 150 5)) ≤ y3 then
  e67 μ1
  else
  (if (hm_sl v1) ≤ (v2 + y3) then
  some (0 : Int32)
  else
  (if (μ1.1 150 2) ≤ ((μ1.1 150 5) + y3) then
  some (0 : Int32)
  else
  Option.bind (hm_ld μ1 156 400 ((μ1.1 150 5) + y3)) fun x2 =>
  Option.bind (hm_sc v1 (v2 + y3)) fun x3 =>
  (if x2 = x3 then
  (f_X6_standsAt_L2 v1 v2 e67 n) (y3 + (1 : Int32)) μ1
  else
  some (0 : Int32)))))
theorem ok_X6_standsAt_L2 {fr : Nat} (hfr : 6 ≤ fr) {ν : hm_N} {r : Int32}  (v1 : Nat) (v2 : Int32) (e67 : hm_M → Option Int32)  (he67 : ∀   (μ1 : hm_M), hm_LL ν μ1 → e67 μ1 = some r → hm_T (hm_LL ν) m_X6_standsAt fr 0 0 (some (.int r)) μ1 67 [none, none, none, none] [] μ1) (hv1 : v1 < 10) (hT : ν.1 = some 156) : ∀ (n : Nat) (y3 : Int32)  (μ1 : hm_M), hm_LL ν μ1 → f_X6_standsAt_L2 v1 v2 e67 n y3 μ1 = some r → hm_T (hm_LL ν) m_X6_standsAt fr 0 0 (some (.int r)) μ1 2 [some (.ref 150), some (.ref (4 + v1)), some (.int v2), some (.int y3)] [] μ1 := by
  intro n
  induction n with
  | zero =>
    intro y3 μ1 hL h
    unfold f_X6_standsAt_L2 at h
    cases h
  | succ n ih =>
    intro y3 μ1 hL h
    unfold f_X6_standsAt_L2 at h
    refine tr_iload_n (pc' := 3) (show decode cX6_standsAt 2 = .ok (.iload_n 3, 1) by decide +kernel) rfl rfl rfl ?_
    refine tr_aload_n (pc' := 4) (show decode cX6_standsAt 3 = .ok (.aload_n 0, 1) by decide +kernel) rfl rfl rfl ?_
    refine tr_getI (pc' := 7) fl_HandRing_Reader_38 (show decode cX6_standsAt 4 = .ok (.getfield 38, 3) by decide +kernel) rfl (la_o hL (by decide) rfl) ?_
    refine tr_aload_n (pc' := 8) (show decode cX6_standsAt 7 = .ok (.aload_n 0, 1) by decide +kernel) rfl rfl rfl ?_
    refine tr_getI (pc' := 11) fl_HandRing_Reader_57 (show decode cX6_standsAt 8 = .ok (.getfield 57, 3) by decide +kernel) rfl (la_o hL (by decide) rfl) ?_
    refine tr_isub (pc' := 12) (show decode cX6_standsAt 11 = .ok (.isub, 1) by decide +kernel) rfl ?_
    rcases hm_is h with ⟨hc, h⟩ | ⟨hc, h⟩
    · refine tr_icmp_ge_t (tgt := 67) hc (show decode cX6_standsAt 12 = .ok (.if_icmp .ge 55, 3) by decide +kernel) (by decide) ?_
      refine hm_fgt [false, false, false, false] (lv' := [none, none, none, none]) rfl ?_
      exact he67 μ1 hL h
    · refine tr_icmp_ge_f (tgt := 67) (pc' := 15) hc (show decode cX6_standsAt 12 = .ok (.if_icmp .ge 55, 3) by decide +kernel) (by decide) rfl ?_
      refine tr_iload_n (pc' := 16) (show decode cX6_standsAt 15 = .ok (.iload_n 2, 1) by decide +kernel) rfl rfl rfl ?_
      refine tr_iload_n (pc' := 17) (show decode cX6_standsAt 16 = .ok (.iload_n 3, 1) by decide +kernel) rfl rfl rfl ?_
      refine tr_iadd (pc' := 18) (show decode cX6_standsAt 17 = .ok (.iadd, 1) by decide +kernel) rfl ?_
      refine tr_aload_n (pc' := 19) (show decode cX6_standsAt 18 = .ok (.aload_n 1, 1) by decide +kernel) rfl rfl rfl ?_
      refine tr_slen (pc' := 22) lk_HandRing_Reader_163 (show decode cX6_standsAt 19 = .ok (.invokevirtual 163, 3) by decide +kernel) rfl hv1 (Nat.le_of_ble_eq_true rfl) (by omega) ?_
      rcases hm_is h with ⟨hc, h⟩ | ⟨hc, h⟩
      · refine tr_icmp_ge_t (tgt := 59) hc (show decode cX6_standsAt 22 = .ok (.if_icmp .ge 37, 3) by decide +kernel) (by decide) ?_
        refine tr_iconst (pc' := 60) (v := (0 : Int32)) (show decode cX6_standsAt 59 = .ok (.iconst 0, 1) by decide +kernel) rfl (by decide) ?_
        cases h
        exact tr_zret rfl (by decide) (show decode cX6_standsAt 60 = .ok (.ireturn, 1) by decide +kernel) hL
      · refine tr_icmp_ge_f (tgt := 59) (pc' := 25) hc (show decode cX6_standsAt 22 = .ok (.if_icmp .ge 37, 3) by decide +kernel) (by decide) rfl ?_
        refine tr_aload_n (pc' := 26) (show decode cX6_standsAt 25 = .ok (.aload_n 0, 1) by decide +kernel) rfl rfl rfl ?_
        refine tr_getI (pc' := 29) fl_HandRing_Reader_57 (show decode cX6_standsAt 26 = .ok (.getfield 57, 3) by decide +kernel) rfl (la_o hL (by decide) rfl) ?_
        refine tr_iload_n (pc' := 30) (show decode cX6_standsAt 29 = .ok (.iload_n 3, 1) by decide +kernel) rfl rfl rfl ?_
        refine tr_iadd (pc' := 31) (show decode cX6_standsAt 30 = .ok (.iadd, 1) by decide +kernel) rfl ?_
        refine tr_aload_n (pc' := 32) (show decode cX6_standsAt 31 = .ok (.aload_n 0, 1) by decide +kernel) rfl rfl rfl ?_
        refine tr_getI (pc' := 35) fl_HandRing_Reader_30 (show decode cX6_standsAt 32 = .ok (.getfield 30, 3) by decide +kernel) rfl (la_o hL (by decide) rfl) ?_
        rcases hm_is h with ⟨hc, h⟩ | ⟨hc, h⟩
        · refine tr_icmp_ge_t (tgt := 59) hc (show decode cX6_standsAt 35 = .ok (.if_icmp .ge 24, 3) by decide +kernel) (by decide) ?_
          refine tr_iconst (pc' := 60) (v := (0 : Int32)) (show decode cX6_standsAt 59 = .ok (.iconst 0, 1) by decide +kernel) rfl (by decide) ?_
          cases h
          exact tr_zret rfl (by decide) (show decode cX6_standsAt 60 = .ok (.ireturn, 1) by decide +kernel) hL
        · refine tr_icmp_ge_f (tgt := 59) (pc' := 38) hc (show decode cX6_standsAt 35 = .ok (.if_icmp .ge 24, 3) by decide +kernel) (by decide) rfl ?_
          refine tr_aload_n (pc' := 39) (show decode cX6_standsAt 38 = .ok (.aload_n 0, 1) by decide +kernel) rfl rfl rfl ?_
          refine tr_getR (pc' := 42) fl_HandRing_Reader_20 (show decode cX6_standsAt 39 = .ok (.getfield 20, 3) by decide +kernel) rfl (la_o hL (by decide) rfl) (la_tx hL hT) ?_
          refine tr_aload_n (pc' := 43) (show decode cX6_standsAt 42 = .ok (.aload_n 0, 1) by decide +kernel) rfl rfl rfl ?_
          refine tr_getI (pc' := 46) fl_HandRing_Reader_57 (show decode cX6_standsAt 43 = .ok (.getfield 57, 3) by decide +kernel) rfl (la_o hL (by decide) rfl) ?_
          refine tr_iload_n (pc' := 47) (show decode cX6_standsAt 46 = .ok (.iload_n 3, 1) by decide +kernel) rfl rfl rfl ?_
          refine tr_iadd (pc' := 48) (show decode cX6_standsAt 47 = .ok (.iadd, 1) by decide +kernel) rfl ?_
          obtain ⟨x2, ex2, h⟩ := hm_bs h
          refine tp_ldC (pc' := 49) (show decode cX6_standsAt 48 = .ok (.caload, 1) by decide +kernel) rfl (la_a hL (by decide) rfl) ex2 ?_
          refine tr_aload_n (pc' := 50) (show decode cX6_standsAt 49 = .ok (.aload_n 1, 1) by decide +kernel) rfl rfl rfl ?_
          refine tr_iload_n (pc' := 51) (show decode cX6_standsAt 50 = .ok (.iload_n 2, 1) by decide +kernel) rfl rfl rfl ?_
          refine tr_iload_n (pc' := 52) (show decode cX6_standsAt 51 = .ok (.iload_n 3, 1) by decide +kernel) rfl rfl rfl ?_
          refine tr_iadd (pc' := 53) (show decode cX6_standsAt 52 = .ok (.iadd, 1) by decide +kernel) rfl ?_
          obtain ⟨x3, ex3, h⟩ := hm_bs h
          refine tr_schar (pc' := 56) lk_HandRing_Reader_167 (show decode cX6_standsAt 53 = .ok (.invokevirtual 167, 3) by decide +kernel) rfl hv1 ex3 (Nat.le_of_ble_eq_true rfl) (by omega) ?_
          rcases hm_is h with ⟨hc, h⟩ | ⟨hc, h⟩
          · refine tr_icmp_eq_t (tgt := 61) hc (show decode cX6_standsAt 56 = .ok (.if_icmp .eq 5, 3) by decide +kernel) (by decide) ?_
            refine tr_iinc (pc' := 64) (v := y3 + (1 : Int32)) (lv' := [some (.ref 150), some (.ref (4 + v1)), some (.int v2), some (.int (y3 + (1 : Int32)))]) (show decode cX6_standsAt 61 = .ok (.iinc 3 1, 3) by decide +kernel) rfl rfl rfl (Nat.le_of_ble_eq_true rfl) rfl rfl ?_
            refine tr_goto (tgt := 2) (show decode cX6_standsAt 64 = .ok (.goto (-62), 3) by decide +kernel) rfl ?_
            exact ih (y3 + (1 : Int32)) μ1 hL h
          · refine tr_icmp_eq_f (tgt := 61) (pc' := 59) hc (show decode cX6_standsAt 56 = .ok (.if_icmp .eq 5, 3) by decide +kernel) (by decide) rfl ?_
            refine tr_iconst (pc' := 60) (v := (0 : Int32)) (show decode cX6_standsAt 59 = .ok (.iconst 0, 1) by decide +kernel) rfl (by decide) ?_
            cases h
            exact tr_zret rfl (by decide) (show decode cX6_standsAt 60 = .ok (.ireturn, 1) by decide +kernel) hL
def f_X6_standsAt (v1 : Nat) (v2 : Int32) (μ : hm_M) : Option Int32 :=
  f_X6_standsAt_L2 v1 v2 (fun μz4 => some (1 : Int32)) hm_fu (0 : Int32) μ
set_option maxRecDepth 100000 in
theorem ok_X6_standsAt {fr : Nat} (hfr : 6 ≤ fr) {ν : hm_N} {r : Int32}  (v1 : Nat) (v2 : Int32) (hv1 : v1 < 10) (hT : ν.1 = some 156) (μ : hm_M) (hL : hm_LL ν μ) (h : f_X6_standsAt v1 v2 μ = some r) : hm_CC (hm_LL ν) m_X6_standsAt fr 0 0 [.ref 150, .ref (4 + v1), .int v2] μ (some (.int r)) μ := by
  refine hm_enter (lv := [some (.ref 150), some (.ref (4 + v1)), some (.int v2), none]) (by decide) rfl (Nat.le_of_ble_eq_true rfl) ?_
  unfold f_X6_standsAt at h
  refine tr_iconst (pc' := 1) (v := (0 : Int32)) (show decode cX6_standsAt 0 = .ok (.iconst 0, 1) by decide +kernel) rfl (by decide) ?_
  refine tr_istore_n (pc' := 2) (lv' := [some (.ref 150), some (.ref (4 + v1)), some (.int v2), some (.int (0 : Int32))]) (show decode cX6_standsAt 1 = .ok (.istore_n 3, 1) by decide +kernel) rfl rfl (Nat.le_of_ble_eq_true rfl) rfl rfl ?_
  refine ok_X6_standsAt_L2 hfr _ _ _ ?_ hv1 hT _ (0 : Int32) μ hL h
  · intro μz4 hL h
    refine tr_iconst (pc' := 68) (v := (1 : Int32)) (show decode cX6_standsAt 67 = .ok (.iconst 1, 1) by decide +kernel) rfl (by decide) ?_
    cases h
    exact tr_zret rfl (by decide) (show decode cX6_standsAt 68 = .ok (.ireturn, 1) by decide +kernel) hL
def f_X6_placeIn_J80 (v1 : Nat) (c16 : Int32 → Int32 → Int32 → hm_M → Option Int32) (e86 : hm_M → Option Int32) (y2 : Int32) (y3 : Int32) (y4 : Int32) (μ1 : hm_M) : Option Int32 :=
  c16 y2 y3 (y4 + (1 : Int32)) μ1
theorem ok_X6_placeIn_J80 {fr : Nat} (hfr : 7 ≤ fr) {ν : hm_N} {r : Int32}  (v1 : Nat) (c16 : Int32 → Int32 → Int32 → hm_M → Option Int32) (e86 : hm_M → Option Int32) (hc16 : ∀ (y2 : Int32) (y3 : Int32) (y4 : Int32)  (μ1 : hm_M), hm_LL ν μ1 → c16 y2 y3 y4 μ1 = some r → hm_T (hm_LL ν) m_X6_placeIn fr 0 0 (some (.int r)) μ1 16 [some (.ref 150), some (.ref (4 + v1)), some (.int y2), some (.int y3), some (.int y4)] [] μ1) (he86 : ∀   (μ1 : hm_M), hm_LL ν μ1 → e86 μ1 = some r → hm_T (hm_LL ν) m_X6_placeIn fr 0 0 (some (.int r)) μ1 86 [none, none, none, none, none] [] μ1) (hv1 : v1 < 10) (hT : ν.1 = some 156) (y2 : Int32) (y3 : Int32) (y4 : Int32) (μ1 : hm_M) (hL : hm_LL ν μ1) (h : f_X6_placeIn_J80 v1 c16 e86 y2 y3 y4 μ1 = some r) : hm_T (hm_LL ν) m_X6_placeIn fr 0 0 (some (.int r)) μ1 80 [some (.ref 150), some (.ref (4 + v1)), some (.int y2), some (.int y3), some (.int y4)] [] μ1 := by
  unfold f_X6_placeIn_J80 at h
  refine tr_iinc (pc' := 83) (v := y4 + (1 : Int32)) (lv' := [some (.ref 150), some (.ref (4 + v1)), some (.int y2), some (.int y3), some (.int (y4 + (1 : Int32)))]) (show decode cX6_placeIn 80 = .ok (.iinc 4 1, 3) by decide +kernel) rfl rfl rfl (Nat.le_of_ble_eq_true rfl) rfl rfl ?_
  refine tr_goto (tgt := 16) (show decode cX6_placeIn 83 = .ok (.goto (-67), 3) by decide +kernel) rfl ?_
  exact hc16 y2 y3 (y4 + (1 : Int32)) μ1 hL h
def f_X6_placeIn_J72 (v1 : Nat) (c16 : Int32 → Int32 → Int32 → hm_M → Option Int32) (e86 : hm_M → Option Int32) (y2 : Int32) (y4 : Int32) (μ1 : hm_M) : Option Int32 :=
  f_X6_placeIn_J80 v1 c16 e86 (y2 + (1 : Int32)) (y4 + (1 : Int32)) y4 μ1
theorem ok_X6_placeIn_J72 {fr : Nat} (hfr : 7 ≤ fr) {ν : hm_N} {r : Int32}  (v1 : Nat) (c16 : Int32 → Int32 → Int32 → hm_M → Option Int32) (e86 : hm_M → Option Int32) (hc16 : ∀ (y2 : Int32) (y3 : Int32) (y4 : Int32)  (μ1 : hm_M), hm_LL ν μ1 → c16 y2 y3 y4 μ1 = some r → hm_T (hm_LL ν) m_X6_placeIn fr 0 0 (some (.int r)) μ1 16 [some (.ref 150), some (.ref (4 + v1)), some (.int y2), some (.int y3), some (.int y4)] [] μ1) (he86 : ∀   (μ1 : hm_M), hm_LL ν μ1 → e86 μ1 = some r → hm_T (hm_LL ν) m_X6_placeIn fr 0 0 (some (.int r)) μ1 86 [none, none, none, none, none] [] μ1) (hv1 : v1 < 10) (hT : ν.1 = some 156) (y2 : Int32) (y4 : Int32) (μ1 : hm_M) (hL : hm_LL ν μ1) (h : f_X6_placeIn_J72 v1 c16 e86 y2 y4 μ1 = some r) : hm_T (hm_LL ν) m_X6_placeIn fr 0 0 (some (.int r)) μ1 72 [some (.ref 150), some (.ref (4 + v1)), some (.int y2), none, some (.int y4)] [] μ1 := by
  unfold f_X6_placeIn_J72 at h
  refine tr_iinc (pc' := 75) (v := y2 + (1 : Int32)) (lv' := [some (.ref 150), some (.ref (4 + v1)), some (.int (y2 + (1 : Int32))), none, some (.int y4)]) (show decode cX6_placeIn 72 = .ok (.iinc 2 1, 3) by decide +kernel) rfl rfl rfl (Nat.le_of_ble_eq_true rfl) rfl rfl ?_
  refine tr_iload (pc' := 77) (show decode cX6_placeIn 75 = .ok (.iload 4, 2) by decide +kernel) rfl rfl ?_
  refine tr_iconst (pc' := 78) (v := (1 : Int32)) (show decode cX6_placeIn 77 = .ok (.iconst 1, 1) by decide +kernel) rfl (by decide) ?_
  refine tr_iadd (pc' := 79) (show decode cX6_placeIn 78 = .ok (.iadd, 1) by decide +kernel) rfl ?_
  refine tr_istore_n (pc' := 80) (lv' := [some (.ref 150), some (.ref (4 + v1)), some (.int (y2 + (1 : Int32))), some (.int (y4 + (1 : Int32))), some (.int y4)]) (show decode cX6_placeIn 79 = .ok (.istore_n 3, 1) by decide +kernel) rfl rfl (Nat.le_of_ble_eq_true rfl) rfl rfl ?_
  exact ok_X6_placeIn_J80 hfr _ c16 e86 hc16 he86 hv1 hT (y2 + (1 : Int32)) (y4 + (1 : Int32)) y4 μ1 hL h
def f_X6_placeIn_J45 (v1 : Nat) (c16 : Int32 → Int32 → Int32 → hm_M → Option Int32) (e86 : hm_M → Option Int32) (y2 : Int32) (y3 : Int32) (y4 : Int32) (μ1 : hm_M) : Option Int32 :=
  (if (y4 - y3) = ((μ1.1 150 6) - (μ1.1 150 5)) then
  Option.bind (f_X6_standsAt v1 y3 μ1) fun x2 =>
  (if x2 = 0 then
  f_X6_placeIn_J72 v1 c16 e86 y2 y4 μ1
  else
  some y2)
  else
  f_X6_placeIn_J72 v1 c16 e86 y2 y4 μ1)
theorem ok_X6_placeIn_J45 {fr : Nat} (hfr : 7 ≤ fr) {ν : hm_N} {r : Int32}  (v1 : Nat) (c16 : Int32 → Int32 → Int32 → hm_M → Option Int32) (e86 : hm_M → Option Int32) (hc16 : ∀ (y2 : Int32) (y3 : Int32) (y4 : Int32)  (μ1 : hm_M), hm_LL ν μ1 → c16 y2 y3 y4 μ1 = some r → hm_T (hm_LL ν) m_X6_placeIn fr 0 0 (some (.int r)) μ1 16 [some (.ref 150), some (.ref (4 + v1)), some (.int y2), some (.int y3), some (.int y4)] [] μ1) (he86 : ∀   (μ1 : hm_M), hm_LL ν μ1 → e86 μ1 = some r → hm_T (hm_LL ν) m_X6_placeIn fr 0 0 (some (.int r)) μ1 86 [none, none, none, none, none] [] μ1) (hv1 : v1 < 10) (hT : ν.1 = some 156) (y2 : Int32) (y3 : Int32) (y4 : Int32) (μ1 : hm_M) (hL : hm_LL ν μ1) (h : f_X6_placeIn_J45 v1 c16 e86 y2 y3 y4 μ1 = some r) : hm_T (hm_LL ν) m_X6_placeIn fr 0 0 (some (.int r)) μ1 45 [some (.ref 150), some (.ref (4 + v1)), some (.int y2), some (.int y3), some (.int y4)] [] μ1 := by
  unfold f_X6_placeIn_J45 at h
  refine tr_iload (pc' := 47) (show decode cX6_placeIn 45 = .ok (.iload 4, 2) by decide +kernel) rfl rfl ?_
  refine tr_iload_n (pc' := 48) (show decode cX6_placeIn 47 = .ok (.iload_n 3, 1) by decide +kernel) rfl rfl rfl ?_
  refine tr_isub (pc' := 49) (show decode cX6_placeIn 48 = .ok (.isub, 1) by decide +kernel) rfl ?_
  refine tr_aload_n (pc' := 50) (show decode cX6_placeIn 49 = .ok (.aload_n 0, 1) by decide +kernel) rfl rfl rfl ?_
  refine tr_getI (pc' := 53) fl_HandRing_Reader_38 (show decode cX6_placeIn 50 = .ok (.getfield 38, 3) by decide +kernel) rfl (la_o hL (by decide) rfl) ?_
  refine tr_aload_n (pc' := 54) (show decode cX6_placeIn 53 = .ok (.aload_n 0, 1) by decide +kernel) rfl rfl rfl ?_
  refine tr_getI (pc' := 57) fl_HandRing_Reader_57 (show decode cX6_placeIn 54 = .ok (.getfield 57, 3) by decide +kernel) rfl (la_o hL (by decide) rfl) ?_
  refine tr_isub (pc' := 58) (show decode cX6_placeIn 57 = .ok (.isub, 1) by decide +kernel) rfl ?_
  rcases hm_is h with ⟨hc, h⟩ | ⟨hc, h⟩
  · refine tr_icmp_ne_f (tgt := 72) (pc' := 61) hc (show decode cX6_placeIn 58 = .ok (.if_icmp .ne 14, 3) by decide +kernel) (by decide) rfl ?_
    refine tr_aload_n (pc' := 62) (show decode cX6_placeIn 61 = .ok (.aload_n 0, 1) by decide +kernel) rfl rfl rfl ?_
    refine tr_aload_n (pc' := 63) (show decode cX6_placeIn 62 = .ok (.aload_n 1, 1) by decide +kernel) rfl rfl rfl ?_
    refine tr_iload_n (pc' := 64) (show decode cX6_placeIn 63 = .ok (.iload_n 3, 1) by decide +kernel) rfl rfl rfl ?_
    obtain ⟨x2, ex2, h⟩ := hm_bs h
    have cx2 := ok_X6_standsAt (fr := fr - 1) (ν := ν) (by omega) v1 y3 hv1 hT μ1 hL ex2
    refine tp_callV (pc' := 67) (As := [.ref (4 + v1), .int y3]) (fr1 := fr - 1) (ci := 6) okm_X6_standsAt lk_HandRing_Reader_171 (show decode cX6_placeIn 64 = .ok (.invokevirtual 171, 3) by decide +kernel) rfl rfl rfl (by decide) (la_o hL (by decide) rfl) rfl rfl (Nat.le_of_ble_eq_true rfl) (by omega) cx2 (st' := [.int x2]) rfl ?_
    rcases hm_is h with ⟨hc, h⟩ | ⟨hc, h⟩
    · refine tr_if_eq_t (tgt := 72) hc (show decode cX6_placeIn 67 = .ok (.ifCond .eq 5, 3) by decide +kernel) (by decide) ?_
      refine hm_fgt [true, true, true, false, true] (lv' := [some (.ref 150), some (.ref (4 + v1)), some (.int y2), none, some (.int y4)]) rfl ?_
      exact ok_X6_placeIn_J72 hfr _ c16 e86 hc16 he86 hv1 hT y2 y4 μ1 hL h
    · refine tr_if_eq_f (tgt := 72) (pc' := 70) hc (show decode cX6_placeIn 67 = .ok (.ifCond .eq 5, 3) by decide +kernel) (by decide) rfl ?_
      refine tr_iload_n (pc' := 71) (show decode cX6_placeIn 70 = .ok (.iload_n 2, 1) by decide +kernel) rfl rfl rfl ?_
      cases h
      exact tr_iret rfl (show decode cX6_placeIn 71 = .ok (.ireturn, 1) by decide +kernel) hL
  · refine tr_icmp_ne_t (tgt := 72) hc (show decode cX6_placeIn 58 = .ok (.if_icmp .ne 14, 3) by decide +kernel) (by decide) ?_
    refine hm_fgt [true, true, true, false, true] (lv' := [some (.ref 150), some (.ref (4 + v1)), some (.int y2), none, some (.int y4)]) rfl ?_
    exact ok_X6_placeIn_J72 hfr _ c16 e86 hc16 he86 hv1 hT y2 y4 μ1 hL h
def f_X6_placeIn_L16 (v1 : Nat) (e86 : hm_M → Option Int32) : Nat → Int32 → Int32 → Int32 → hm_M → Option Int32
  | 0, _, _, _, _ => none
  | n + 1, y2, y3, y4, μ1 => (if (hm_sl v1) < y4 then
  e86 μ1
  else
  (if y4 = (hm_sl v1) then
  f_X6_placeIn_J45 v1 (f_X6_placeIn_L16 v1 e86 n) e86 y2 y3 y4 μ1
  else
  Option.bind (hm_sc v1 y4) fun x3 =>
  (if x3 = (32 : Int32) then
  f_X6_placeIn_J45 v1 (f_X6_placeIn_L16 v1 e86 n) e86 y2 y3 y4 μ1
  else
  f_X6_placeIn_J80 v1 (f_X6_placeIn_L16 v1 e86 n) e86 y2 y3 y4 μ1)))
theorem ok_X6_placeIn_L16 {fr : Nat} (hfr : 7 ≤ fr) {ν : hm_N} {r : Int32}  (v1 : Nat) (e86 : hm_M → Option Int32)  (he86 : ∀   (μ1 : hm_M), hm_LL ν μ1 → e86 μ1 = some r → hm_T (hm_LL ν) m_X6_placeIn fr 0 0 (some (.int r)) μ1 86 [none, none, none, none, none] [] μ1) (hv1 : v1 < 10) (hT : ν.1 = some 156) : ∀ (n : Nat) (y2 : Int32) (y3 : Int32) (y4 : Int32)  (μ1 : hm_M), hm_LL ν μ1 → f_X6_placeIn_L16 v1 e86 n y2 y3 y4 μ1 = some r → hm_T (hm_LL ν) m_X6_placeIn fr 0 0 (some (.int r)) μ1 16 [some (.ref 150), some (.ref (4 + v1)), some (.int y2), some (.int y3), some (.int y4)] [] μ1 := by
  intro n
  induction n with
  | zero =>
    intro y2 y3 y4 μ1 hL h
    unfold f_X6_placeIn_L16 at h
    cases h
  | succ n ih =>
    intro y2 y3 y4 μ1 hL h
    unfold f_X6_placeIn_L16 at h
    refine tr_iload (pc' := 18) (show decode cX6_placeIn 16 = .ok (.iload 4, 2) by decide +kernel) rfl rfl ?_
    refine tr_aload_n (pc' := 19) (show decode cX6_placeIn 18 = .ok (.aload_n 1, 1) by decide +kernel) rfl rfl rfl ?_
    refine tr_slen (pc' := 22) lk_HandRing_Reader_163 (show decode cX6_placeIn 19 = .ok (.invokevirtual 163, 3) by decide +kernel) rfl hv1 (Nat.le_of_ble_eq_true rfl) (by omega) ?_
    rcases hm_is h with ⟨hc, h⟩ | ⟨hc, h⟩
    · refine tr_icmp_gt_t (tgt := 86) hc (show decode cX6_placeIn 22 = .ok (.if_icmp .gt 64, 3) by decide +kernel) (by decide) ?_
      refine hm_fgt [false, false, false, false, false] (lv' := [none, none, none, none, none]) rfl ?_
      exact he86 μ1 hL h
    · refine tr_icmp_gt_f (tgt := 86) (pc' := 25) hc (show decode cX6_placeIn 22 = .ok (.if_icmp .gt 64, 3) by decide +kernel) (by decide) rfl ?_
      refine tr_iload (pc' := 27) (show decode cX6_placeIn 25 = .ok (.iload 4, 2) by decide +kernel) rfl rfl ?_
      refine tr_aload_n (pc' := 28) (show decode cX6_placeIn 27 = .ok (.aload_n 1, 1) by decide +kernel) rfl rfl rfl ?_
      refine tr_slen (pc' := 31) lk_HandRing_Reader_163 (show decode cX6_placeIn 28 = .ok (.invokevirtual 163, 3) by decide +kernel) rfl hv1 (Nat.le_of_ble_eq_true rfl) (by omega) ?_
      rcases hm_is h with ⟨hc, h⟩ | ⟨hc, h⟩
      · refine tr_icmp_eq_t (tgt := 45) hc (show decode cX6_placeIn 31 = .ok (.if_icmp .eq 14, 3) by decide +kernel) (by decide) ?_
        exact ok_X6_placeIn_J45 hfr _ (f_X6_placeIn_L16 v1 e86 n) e86 ih he86 hv1 hT y2 y3 y4 μ1 hL h
      · refine tr_icmp_eq_f (tgt := 45) (pc' := 34) hc (show decode cX6_placeIn 31 = .ok (.if_icmp .eq 14, 3) by decide +kernel) (by decide) rfl ?_
        refine tr_aload_n (pc' := 35) (show decode cX6_placeIn 34 = .ok (.aload_n 1, 1) by decide +kernel) rfl rfl rfl ?_
        refine tr_iload (pc' := 37) (show decode cX6_placeIn 35 = .ok (.iload 4, 2) by decide +kernel) rfl rfl ?_
        obtain ⟨x3, ex3, h⟩ := hm_bs h
        refine tr_schar (pc' := 40) lk_HandRing_Reader_167 (show decode cX6_placeIn 37 = .ok (.invokevirtual 167, 3) by decide +kernel) rfl hv1 ex3 (Nat.le_of_ble_eq_true rfl) (by omega) ?_
        refine tr_bipush (pc' := 42) (v := (32 : Int32)) (show decode cX6_placeIn 40 = .ok (.bipush 32, 2) by decide +kernel) rfl (by decide) ?_
        rcases hm_is h with ⟨hc, h⟩ | ⟨hc, h⟩
        · refine tr_icmp_ne_f (tgt := 80) (pc' := 45) hc (show decode cX6_placeIn 42 = .ok (.if_icmp .ne 38, 3) by decide +kernel) (by decide) rfl ?_
          exact ok_X6_placeIn_J45 hfr _ (f_X6_placeIn_L16 v1 e86 n) e86 ih he86 hv1 hT y2 y3 y4 μ1 hL h
        · refine tr_icmp_ne_t (tgt := 80) hc (show decode cX6_placeIn 42 = .ok (.if_icmp .ne 38, 3) by decide +kernel) (by decide) ?_
          exact ok_X6_placeIn_J80 hfr _ (f_X6_placeIn_L16 v1 e86 n) e86 ih he86 hv1 hT y2 y3 y4 μ1 hL h
def f_X6_placeIn (v1 : Nat) (μ : hm_M) : Option Int32 :=
  (if (μ.1 150 4) = 0 then
  f_X6_placeIn_L16 v1 (fun μz4 => some (-1 : Int32)) hm_fu (0 : Int32) (0 : Int32) (0 : Int32) μ
  else
  some (-1 : Int32))
set_option maxRecDepth 100000 in
theorem ok_X6_placeIn {fr : Nat} (hfr : 7 ≤ fr) {ν : hm_N} {r : Int32}  (v1 : Nat) (hv1 : v1 < 10) (hT : ν.1 = some 156) (μ : hm_M) (hL : hm_LL ν μ) (h : f_X6_placeIn v1 μ = some r) : hm_CC (hm_LL ν) m_X6_placeIn fr 0 0 [.ref 150, .ref (4 + v1)] μ (some (.int r)) μ := by
  refine hm_enter (lv := [some (.ref 150), some (.ref (4 + v1)), none, none, none]) (by decide) rfl (Nat.le_of_ble_eq_true rfl) ?_
  unfold f_X6_placeIn at h
  refine tr_aload_n (pc' := 1) (show decode cX6_placeIn 0 = .ok (.aload_n 0, 1) by decide +kernel) rfl rfl rfl ?_
  refine tr_getI (pc' := 4) fl_HandRing_Reader_60 (show decode cX6_placeIn 1 = .ok (.getfield 60, 3) by decide +kernel) rfl (la_o hL (by decide) rfl) ?_
  rcases hm_is h with ⟨hc, h⟩ | ⟨hc, h⟩
  · refine tr_if_eq_t (tgt := 9) hc (show decode cX6_placeIn 4 = .ok (.ifCond .eq 5, 3) by decide +kernel) (by decide) ?_
    refine tr_iconst (pc' := 10) (v := (0 : Int32)) (show decode cX6_placeIn 9 = .ok (.iconst 0, 1) by decide +kernel) rfl (by decide) ?_
    refine tr_istore_n (pc' := 11) (lv' := [some (.ref 150), some (.ref (4 + v1)), some (.int (0 : Int32)), none, none]) (show decode cX6_placeIn 10 = .ok (.istore_n 2, 1) by decide +kernel) rfl rfl (Nat.le_of_ble_eq_true rfl) rfl rfl ?_
    refine tr_iconst (pc' := 12) (v := (0 : Int32)) (show decode cX6_placeIn 11 = .ok (.iconst 0, 1) by decide +kernel) rfl (by decide) ?_
    refine tr_istore_n (pc' := 13) (lv' := [some (.ref 150), some (.ref (4 + v1)), some (.int (0 : Int32)), some (.int (0 : Int32)), none]) (show decode cX6_placeIn 12 = .ok (.istore_n 3, 1) by decide +kernel) rfl rfl (Nat.le_of_ble_eq_true rfl) rfl rfl ?_
    refine tr_iconst (pc' := 14) (v := (0 : Int32)) (show decode cX6_placeIn 13 = .ok (.iconst 0, 1) by decide +kernel) rfl (by decide) ?_
    refine tr_istore (pc' := 16) (lv' := [some (.ref 150), some (.ref (4 + v1)), some (.int (0 : Int32)), some (.int (0 : Int32)), some (.int (0 : Int32))]) (show decode cX6_placeIn 14 = .ok (.istore 4, 2) by decide +kernel) rfl (Nat.le_of_ble_eq_true rfl) rfl rfl ?_
    refine ok_X6_placeIn_L16 hfr _ _ ?_ hv1 hT _ (0 : Int32) (0 : Int32) (0 : Int32) μ hL h
    · intro μz4 hL h
      refine tr_iconst (pc' := 87) (v := (-1 : Int32)) (show decode cX6_placeIn 86 = .ok (.iconst (-1), 1) by decide +kernel) rfl (by decide) ?_
      cases h
      exact tr_iret rfl (show decode cX6_placeIn 87 = .ok (.ireturn, 1) by decide +kernel) hL
  · refine tr_if_eq_f (tgt := 9) (pc' := 7) hc (show decode cX6_placeIn 4 = .ok (.ifCond .eq 5, 3) by decide +kernel) (by decide) rfl ?_
    refine tr_iconst (pc' := 8) (v := (-1 : Int32)) (show decode cX6_placeIn 7 = .ok (.iconst (-1), 1) by decide +kernel) rfl (by decide) ?_
    cases h
    exact tr_iret rfl (show decode cX6_placeIn 8 = .ok (.ireturn, 1) by decide +kernel) hL
def f_X6_isSign (v1 : Int32) (μ : hm_M) : Option Int32 :=
  (if (μ.1 150 4) = (2 : Int32) then
  (if (μ.1 150 7) = v1 then
  some (1 : Int32)
  else
  some (0 : Int32))
  else
  some (0 : Int32))
set_option maxRecDepth 100000 in
theorem ok_X6_isSign {fr : Nat} (hfr : 0 ≤ fr) {ν : hm_N} {r : Int32}  (v1 : Int32) (hT : ν.1 = some 156) (μ : hm_M) (hL : hm_LL ν μ) (h : f_X6_isSign v1 μ = some r) : hm_CC (hm_LL ν) m_X6_isSign fr 0 0 [.ref 150, .int v1] μ (some (.int r)) μ := by
  refine hm_enter (lv := [some (.ref 150), some (.int v1)]) (by decide) rfl (Nat.le_of_ble_eq_true rfl) ?_
  unfold f_X6_isSign at h
  refine tr_aload_n (pc' := 1) (show decode cX6_isSign 0 = .ok (.aload_n 0, 1) by decide +kernel) rfl rfl rfl ?_
  refine tr_getI (pc' := 4) fl_HandRing_Reader_60 (show decode cX6_isSign 1 = .ok (.getfield 60, 3) by decide +kernel) rfl (la_o hL (by decide) rfl) ?_
  refine tr_iconst (pc' := 5) (v := (2 : Int32)) (show decode cX6_isSign 4 = .ok (.iconst 2, 1) by decide +kernel) rfl (by decide) ?_
  rcases hm_is h with ⟨hc, h⟩ | ⟨hc, h⟩
  · refine tr_icmp_ne_f (tgt := 20) (pc' := 8) hc (show decode cX6_isSign 5 = .ok (.if_icmp .ne 15, 3) by decide +kernel) (by decide) rfl ?_
    refine tr_aload_n (pc' := 9) (show decode cX6_isSign 8 = .ok (.aload_n 0, 1) by decide +kernel) rfl rfl rfl ?_
    refine tr_getI (pc' := 12) fl_HandRing_Reader_111 (show decode cX6_isSign 9 = .ok (.getfield 111, 3) by decide +kernel) rfl (la_o hL (by decide) rfl) ?_
    refine tr_iload_n (pc' := 13) (show decode cX6_isSign 12 = .ok (.iload_n 1, 1) by decide +kernel) rfl rfl rfl ?_
    rcases hm_is h with ⟨hc, h⟩ | ⟨hc, h⟩
    · refine tr_icmp_ne_f (tgt := 20) (pc' := 16) hc (show decode cX6_isSign 13 = .ok (.if_icmp .ne 7, 3) by decide +kernel) (by decide) rfl ?_
      refine tr_iconst (pc' := 17) (v := (1 : Int32)) (show decode cX6_isSign 16 = .ok (.iconst 1, 1) by decide +kernel) rfl (by decide) ?_
      refine tr_goto (tgt := 21) (show decode cX6_isSign 17 = .ok (.goto 4, 3) by decide +kernel) rfl ?_
      cases h
      exact tr_zret rfl (by decide) (show decode cX6_isSign 21 = .ok (.ireturn, 1) by decide +kernel) hL
    · refine tr_icmp_ne_t (tgt := 20) hc (show decode cX6_isSign 13 = .ok (.if_icmp .ne 7, 3) by decide +kernel) (by decide) ?_
      refine tr_iconst (pc' := 21) (v := (0 : Int32)) (show decode cX6_isSign 20 = .ok (.iconst 0, 1) by decide +kernel) rfl (by decide) ?_
      cases h
      exact tr_zret rfl (by decide) (show decode cX6_isSign 21 = .ok (.ireturn, 1) by decide +kernel) hL
  · refine tr_icmp_ne_t (tgt := 20) hc (show decode cX6_isSign 5 = .ok (.if_icmp .ne 15, 3) by decide +kernel) (by decide) ?_
    refine tr_iconst (pc' := 21) (v := (0 : Int32)) (show decode cX6_isSign 20 = .ok (.iconst 0, 1) by decide +kernel) rfl (by decide) ?_
    cases h
    exact tr_zret rfl (by decide) (show decode cX6_isSign 21 = .ok (.ireturn, 1) by decide +kernel) hL
def f_X6_open (μ : hm_M) : Option (Int32 × hm_M) :=
  (if (μ.1 150 9) < (8 : Int32) then
  Option.bind (hm_pI μ 150 9 ((μ.1 150 9) + (1 : Int32))) fun μ2 =>
  Option.bind (f_X6_goOn μ2) fun μ4 =>
  some ((1 : Int32), μ4)
  else
  some ((0 : Int32), μ))
set_option maxRecDepth 100000 in
theorem ok_X6_open {fr : Nat} (hfr : 2 ≤ fr) {ν : hm_N} {r : Int32} {μR : hm_M}   (hT : ν.1 = some 156) (μ : hm_M) (hL : hm_LL ν μ) (h : f_X6_open μ = some (r, μR)) : hm_CC (hm_LL ν) m_X6_open fr 0 0 [.ref 150] μ (some (.int r)) μR := by
  refine hm_enter (lv := [some (.ref 150)]) (by decide) rfl (Nat.le_of_ble_eq_true rfl) ?_
  unfold f_X6_open at h
  refine tr_aload_n (pc' := 1) (show decode cX6_open 0 = .ok (.aload_n 0, 1) by decide +kernel) rfl rfl rfl ?_
  refine tr_getI (pc' := 4) fl_HandRing_Reader_44 (show decode cX6_open 1 = .ok (.getfield 44, 3) by decide +kernel) rfl (la_o hL (by decide) rfl) ?_
  refine tr_bipush (pc' := 6) (v := (8 : Int32)) (show decode cX6_open 4 = .ok (.bipush 8, 2) by decide +kernel) rfl (by decide) ?_
  rcases hm_is h with ⟨hc, h⟩ | ⟨hc, h⟩
  · refine tr_icmp_lt_t (tgt := 11) hc (show decode cX6_open 6 = .ok (.if_icmp .lt 5, 3) by decide +kernel) (by decide) ?_
    refine tr_aload_n (pc' := 12) (show decode cX6_open 11 = .ok (.aload_n 0, 1) by decide +kernel) rfl rfl rfl ?_
    refine tr_dup (pc' := 13) (show decode cX6_open 12 = .ok (.dup, 1) by decide +kernel) rfl rfl ?_
    refine tr_getI (pc' := 16) fl_HandRing_Reader_44 (show decode cX6_open 13 = .ok (.getfield 44, 3) by decide +kernel) rfl (la_o hL (by decide) rfl) ?_
    refine tr_iconst (pc' := 17) (v := (1 : Int32)) (show decode cX6_open 16 = .ok (.iconst 1, 1) by decide +kernel) rfl (by decide) ?_
    refine tr_iadd (pc' := 18) (show decode cX6_open 17 = .ok (.iadd, 1) by decide +kernel) rfl ?_
    obtain ⟨μ2, eμ2, h⟩ := hm_bs h
    refine tp_pI (pc' := 21) fl_HandRing_Reader_44 (show decode cX6_open 18 = .ok (.putfield 44, 3) by decide +kernel) rfl (la_o hL (by decide) rfl) eμ2 ?_
    replace hL := hL.same (hm_pI_s eμ2)
    refine tr_aload_n (pc' := 22) (show decode cX6_open 21 = .ok (.aload_n 0, 1) by decide +kernel) rfl rfl rfl ?_
    obtain ⟨μ4, ex3, h⟩ := hm_bs h
    have cx3 := ok_X6_goOn (fr := fr - 1) (ν := ν) (by omega) hT μ2 hL ex3
    refine tp_callV (pc' := 25) (As := []) (fr1 := fr - 1) (ci := 6) okm_X6_goOn lk_HandRing_Reader_50 (show decode cX6_open 22 = .ok (.invokevirtual 50, 3) by decide +kernel) rfl rfl rfl (by decide) (la_o hL (by decide) rfl) rfl rfl (Nat.le_of_ble_eq_true rfl) (by omega) cx3 (st' := []) rfl ?_
    replace hL := cx3.1
    refine tr_iconst (pc' := 26) (v := (1 : Int32)) (show decode cX6_open 25 = .ok (.iconst 1, 1) by decide +kernel) rfl (by decide) ?_
    cases h
    exact tr_zret rfl (by decide) (show decode cX6_open 26 = .ok (.ireturn, 1) by decide +kernel) hL
  · refine tr_icmp_lt_f (tgt := 11) (pc' := 9) hc (show decode cX6_open 6 = .ok (.if_icmp .lt 5, 3) by decide +kernel) (by decide) rfl ?_
    refine tr_iconst (pc' := 10) (v := (0 : Int32)) (show decode cX6_open 9 = .ok (.iconst 0, 1) by decide +kernel) rfl (by decide) ?_
    cases h
    exact tr_zret rfl (by decide) (show decode cX6_open 10 = .ok (.ireturn, 1) by decide +kernel) hL
def f_X6_close (v1 : Int32) (μ : hm_M) : Option (Int32 × hm_M) :=
  Option.bind (f_X6_isSign v1 μ) fun x2 =>
  (if x2 = 0 then
  some ((0 : Int32), μ)
  else
  Option.bind (hm_pI μ 150 9 ((μ.1 150 9) - (1 : Int32))) fun μ3 =>
  Option.bind (f_X6_goOn μ3) fun μ5 =>
  some ((1 : Int32), μ5))
set_option maxRecDepth 100000 in
theorem ok_X6_close {fr : Nat} (hfr : 2 ≤ fr) {ν : hm_N} {r : Int32} {μR : hm_M}  (v1 : Int32) (hT : ν.1 = some 156) (μ : hm_M) (hL : hm_LL ν μ) (h : f_X6_close v1 μ = some (r, μR)) : hm_CC (hm_LL ν) m_X6_close fr 0 0 [.ref 150, .int v1] μ (some (.int r)) μR := by
  refine hm_enter (lv := [some (.ref 150), some (.int v1)]) (by decide) rfl (Nat.le_of_ble_eq_true rfl) ?_
  unfold f_X6_close at h
  refine tr_aload_n (pc' := 1) (show decode cX6_close 0 = .ok (.aload_n 0, 1) by decide +kernel) rfl rfl rfl ?_
  refine tr_iload_n (pc' := 2) (show decode cX6_close 1 = .ok (.iload_n 1, 1) by decide +kernel) rfl rfl rfl ?_
  obtain ⟨x2, ex2, h⟩ := hm_bs h
  have cx2 := ok_X6_isSign (fr := fr - 1) (ν := ν) (by omega) v1 hT μ hL ex2
  refine tp_callV (pc' := 5) (As := [.int v1]) (fr1 := fr - 1) (ci := 6) okm_X6_isSign lk_HandRing_Reader_63 (show decode cX6_close 2 = .ok (.invokevirtual 63, 3) by decide +kernel) rfl rfl rfl (by decide) (la_o hL (by decide) rfl) rfl rfl (Nat.le_of_ble_eq_true rfl) (by omega) cx2 (st' := [.int x2]) rfl ?_
  rcases hm_is h with ⟨hc, h⟩ | ⟨hc, h⟩
  · refine tr_if_ne_f (tgt := 10) (pc' := 8) hc (show decode cX6_close 5 = .ok (.ifCond .ne 5, 3) by decide +kernel) (by decide) rfl ?_
    refine tr_iconst (pc' := 9) (v := (0 : Int32)) (show decode cX6_close 8 = .ok (.iconst 0, 1) by decide +kernel) rfl (by decide) ?_
    cases h
    exact tr_zret rfl (by decide) (show decode cX6_close 9 = .ok (.ireturn, 1) by decide +kernel) hL
  · refine tr_if_ne_t (tgt := 10) hc (show decode cX6_close 5 = .ok (.ifCond .ne 5, 3) by decide +kernel) (by decide) ?_
    refine tr_aload_n (pc' := 11) (show decode cX6_close 10 = .ok (.aload_n 0, 1) by decide +kernel) rfl rfl rfl ?_
    refine tr_dup (pc' := 12) (show decode cX6_close 11 = .ok (.dup, 1) by decide +kernel) rfl rfl ?_
    refine tr_getI (pc' := 15) fl_HandRing_Reader_44 (show decode cX6_close 12 = .ok (.getfield 44, 3) by decide +kernel) rfl (la_o hL (by decide) rfl) ?_
    refine tr_iconst (pc' := 16) (v := (1 : Int32)) (show decode cX6_close 15 = .ok (.iconst 1, 1) by decide +kernel) rfl (by decide) ?_
    refine tr_isub (pc' := 17) (show decode cX6_close 16 = .ok (.isub, 1) by decide +kernel) rfl ?_
    obtain ⟨μ3, eμ3, h⟩ := hm_bs h
    refine tp_pI (pc' := 20) fl_HandRing_Reader_44 (show decode cX6_close 17 = .ok (.putfield 44, 3) by decide +kernel) rfl (la_o hL (by decide) rfl) eμ3 ?_
    replace hL := hL.same (hm_pI_s eμ3)
    refine tr_aload_n (pc' := 21) (show decode cX6_close 20 = .ok (.aload_n 0, 1) by decide +kernel) rfl rfl rfl ?_
    obtain ⟨μ5, ex4, h⟩ := hm_bs h
    have cx4 := ok_X6_goOn (fr := fr - 1) (ν := ν) (by omega) hT μ3 hL ex4
    refine tp_callV (pc' := 24) (As := []) (fr1 := fr - 1) (ci := 6) okm_X6_goOn lk_HandRing_Reader_50 (show decode cX6_close 21 = .ok (.invokevirtual 50, 3) by decide +kernel) rfl rfl rfl (by decide) (la_o hL (by decide) rfl) rfl rfl (Nat.le_of_ble_eq_true rfl) (by omega) cx4 (st' := []) rfl ?_
    replace hL := cx4.1
    refine tr_iconst (pc' := 25) (v := (1 : Int32)) (show decode cX6_close 24 = .ok (.iconst 1, 1) by decide +kernel) rfl (by decide) ?_
    cases h
    exact tr_zret rfl (by decide) (show decode cX6_close 25 = .ok (.ireturn, 1) by decide +kernel) hL
def f_X6_isNumber (v1 : Int32) (v2 : Int32) (μ : hm_M) : Option Int32 :=
  (if (μ.1 150 4) = (1 : Int32) then
  (if (μ.1 150 7) < v1 then
  some (0 : Int32)
  else
  (if v2 < (μ.1 150 7) then
  some (0 : Int32)
  else
  some (1 : Int32)))
  else
  some (0 : Int32))
set_option maxRecDepth 100000 in
theorem ok_X6_isNumber {fr : Nat} (hfr : 0 ≤ fr) {ν : hm_N} {r : Int32}  (v1 : Int32) (v2 : Int32) (hT : ν.1 = some 156) (μ : hm_M) (hL : hm_LL ν μ) (h : f_X6_isNumber v1 v2 μ = some r) : hm_CC (hm_LL ν) m_X6_isNumber fr 0 0 [.ref 150, .int v1, .int v2] μ (some (.int r)) μ := by
  refine hm_enter (lv := [some (.ref 150), some (.int v1), some (.int v2)]) (by decide) rfl (Nat.le_of_ble_eq_true rfl) ?_
  unfold f_X6_isNumber at h
  refine tr_aload_n (pc' := 1) (show decode cX6_isNumber 0 = .ok (.aload_n 0, 1) by decide +kernel) rfl rfl rfl ?_
  refine tr_getI (pc' := 4) fl_HandRing_Reader_60 (show decode cX6_isNumber 1 = .ok (.getfield 60, 3) by decide +kernel) rfl (la_o hL (by decide) rfl) ?_
  refine tr_iconst (pc' := 5) (v := (1 : Int32)) (show decode cX6_isNumber 4 = .ok (.iconst 1, 1) by decide +kernel) rfl (by decide) ?_
  rcases hm_is h with ⟨hc, h⟩ | ⟨hc, h⟩
  · refine tr_icmp_ne_f (tgt := 28) (pc' := 8) hc (show decode cX6_isNumber 5 = .ok (.if_icmp .ne 23, 3) by decide +kernel) (by decide) rfl ?_
    refine tr_aload_n (pc' := 9) (show decode cX6_isNumber 8 = .ok (.aload_n 0, 1) by decide +kernel) rfl rfl rfl ?_
    refine tr_getI (pc' := 12) fl_HandRing_Reader_111 (show decode cX6_isNumber 9 = .ok (.getfield 111, 3) by decide +kernel) rfl (la_o hL (by decide) rfl) ?_
    refine tr_iload_n (pc' := 13) (show decode cX6_isNumber 12 = .ok (.iload_n 1, 1) by decide +kernel) rfl rfl rfl ?_
    rcases hm_is h with ⟨hc, h⟩ | ⟨hc, h⟩
    · refine tr_icmp_lt_t (tgt := 28) hc (show decode cX6_isNumber 13 = .ok (.if_icmp .lt 15, 3) by decide +kernel) (by decide) ?_
      refine tr_iconst (pc' := 29) (v := (0 : Int32)) (show decode cX6_isNumber 28 = .ok (.iconst 0, 1) by decide +kernel) rfl (by decide) ?_
      cases h
      exact tr_zret rfl (by decide) (show decode cX6_isNumber 29 = .ok (.ireturn, 1) by decide +kernel) hL
    · refine tr_icmp_lt_f (tgt := 28) (pc' := 16) hc (show decode cX6_isNumber 13 = .ok (.if_icmp .lt 15, 3) by decide +kernel) (by decide) rfl ?_
      refine tr_aload_n (pc' := 17) (show decode cX6_isNumber 16 = .ok (.aload_n 0, 1) by decide +kernel) rfl rfl rfl ?_
      refine tr_getI (pc' := 20) fl_HandRing_Reader_111 (show decode cX6_isNumber 17 = .ok (.getfield 111, 3) by decide +kernel) rfl (la_o hL (by decide) rfl) ?_
      refine tr_iload_n (pc' := 21) (show decode cX6_isNumber 20 = .ok (.iload_n 2, 1) by decide +kernel) rfl rfl rfl ?_
      rcases hm_is h with ⟨hc, h⟩ | ⟨hc, h⟩
      · refine tr_icmp_gt_t (tgt := 28) hc (show decode cX6_isNumber 21 = .ok (.if_icmp .gt 7, 3) by decide +kernel) (by decide) ?_
        refine tr_iconst (pc' := 29) (v := (0 : Int32)) (show decode cX6_isNumber 28 = .ok (.iconst 0, 1) by decide +kernel) rfl (by decide) ?_
        cases h
        exact tr_zret rfl (by decide) (show decode cX6_isNumber 29 = .ok (.ireturn, 1) by decide +kernel) hL
      · refine tr_icmp_gt_f (tgt := 28) (pc' := 24) hc (show decode cX6_isNumber 21 = .ok (.if_icmp .gt 7, 3) by decide +kernel) (by decide) rfl ?_
        refine tr_iconst (pc' := 25) (v := (1 : Int32)) (show decode cX6_isNumber 24 = .ok (.iconst 1, 1) by decide +kernel) rfl (by decide) ?_
        refine tr_goto (tgt := 29) (show decode cX6_isNumber 25 = .ok (.goto 4, 3) by decide +kernel) rfl ?_
        cases h
        exact tr_zret rfl (by decide) (show decode cX6_isNumber 29 = .ok (.ireturn, 1) by decide +kernel) hL
  · refine tr_icmp_ne_t (tgt := 28) hc (show decode cX6_isNumber 5 = .ok (.if_icmp .ne 23, 3) by decide +kernel) (by decide) ?_
    refine tr_iconst (pc' := 29) (v := (0 : Int32)) (show decode cX6_isNumber 28 = .ok (.iconst 0, 1) by decide +kernel) rfl (by decide) ?_
    cases h
    exact tr_zret rfl (by decide) (show decode cX6_isNumber 29 = .ok (.ireturn, 1) by decide +kernel) hL
def f_X6_readWhose_J28 (v1 : Int32) (s0 : Int32) (s1 : Int32) (μ1 : hm_M) : Option (Int32 × hm_M) :=
  Option.bind (f_X5_emit 151 s1 (s0 + (μ1.1 150 7)) μ1) fun μ4 =>
  Option.bind (f_X6_goOn μ4) fun μ6 =>
  some ((1 : Int32), μ6)
theorem ok_X6_readWhose_J28 {fr : Nat} (hfr : 2 ≤ fr) {ν : hm_N} {r : Int32} {μR : hm_M}  (v1 : Int32)   (hT : ν.1 = some 156) (s0 : Int32) (s1 : Int32) (μ1 : hm_M) (hL : hm_LL ν μ1) (h : f_X6_readWhose_J28 v1 s0 s1 μ1 = some (r, μR)) : hm_T (hm_LL ν) m_X6_readWhose fr 0 0 (some (.int r)) μR 28 [some (.ref 150), none] [.int s0, .int s1, .ref 151] μ1 := by
  unfold f_X6_readWhose_J28 at h
  refine tr_aload_n (pc' := 29) (show decode cX6_readWhose 28 = .ok (.aload_n 0, 1) by decide +kernel) rfl rfl rfl ?_
  refine tr_getI (pc' := 32) fl_HandRing_Reader_111 (show decode cX6_readWhose 29 = .ok (.getfield 111, 3) by decide +kernel) rfl (la_o hL (by decide) rfl) ?_
  refine tr_iadd (pc' := 33) (show decode cX6_readWhose 32 = .ok (.iadd, 1) by decide +kernel) rfl ?_
  obtain ⟨μ4, ex3, h⟩ := hm_bs h
  have cx3 := ok_X5_emit (fr := fr - 1) (ν := ν) (by omega) 151 s1 (s0 + (μ1.1 150 7)) (la_pg151 hL) μ1 hL ex3
  refine tp_callV (pc' := 36) (As := [.int s1, .int (s0 + (μ1.1 150 7))]) (fr1 := fr - 1) (ci := 5) okm_X5_emit lk_HandRing_Reader_119 (show decode cX6_readWhose 33 = .ok (.invokevirtual 119, 3) by decide +kernel) rfl rfl rfl (by decide) (la_o hL (by decide) rfl) rfl rfl (Nat.le_of_ble_eq_true rfl) (by omega) cx3 (st' := []) rfl ?_
  replace hL := cx3.1
  refine tr_aload_n (pc' := 37) (show decode cX6_readWhose 36 = .ok (.aload_n 0, 1) by decide +kernel) rfl rfl rfl ?_
  obtain ⟨μ6, ex5, h⟩ := hm_bs h
  have cx5 := ok_X6_goOn (fr := fr - 1) (ν := ν) (by omega) hT μ4 hL ex5
  refine tp_callV (pc' := 40) (As := []) (fr1 := fr - 1) (ci := 6) okm_X6_goOn lk_HandRing_Reader_50 (show decode cX6_readWhose 37 = .ok (.invokevirtual 50, 3) by decide +kernel) rfl rfl rfl (by decide) (la_o hL (by decide) rfl) rfl rfl (Nat.le_of_ble_eq_true rfl) (by omega) cx5 (st' := []) rfl ?_
  replace hL := cx5.1
  refine tr_iconst (pc' := 41) (v := (1 : Int32)) (show decode cX6_readWhose 40 = .ok (.iconst 1, 1) by decide +kernel) rfl (by decide) ?_
  cases h
  exact tr_zret rfl (by decide) (show decode cX6_readWhose 41 = .ok (.ireturn, 1) by decide +kernel) hL
def f_X6_readWhose (v1 : Int32) (μ : hm_M) : Option (Int32 × hm_M) :=
  Option.bind (f_X6_isNumber (0 : Int32) (7 : Int32) μ) fun x2 =>
  (if x2 = 0 then
  some ((0 : Int32), μ)
  else
  (if v1 = (5 : Int32) then
  f_X6_readWhose_J28 v1 (5 : Int32) (1 : Int32) μ
  else
  f_X6_readWhose_J28 v1 (13 : Int32) (1 : Int32) μ))
set_option maxRecDepth 100000 in
theorem ok_X6_readWhose {fr : Nat} (hfr : 2 ≤ fr) {ν : hm_N} {r : Int32} {μR : hm_M}  (v1 : Int32) (hT : ν.1 = some 156) (μ : hm_M) (hL : hm_LL ν μ) (h : f_X6_readWhose v1 μ = some (r, μR)) : hm_CC (hm_LL ν) m_X6_readWhose fr 0 0 [.ref 150, .int v1] μ (some (.int r)) μR := by
  refine hm_enter (lv := [some (.ref 150), some (.int v1)]) (by decide) rfl (Nat.le_of_ble_eq_true rfl) ?_
  unfold f_X6_readWhose at h
  refine tr_aload_n (pc' := 1) (show decode cX6_readWhose 0 = .ok (.aload_n 0, 1) by decide +kernel) rfl rfl rfl ?_
  refine tr_iconst (pc' := 2) (v := (0 : Int32)) (show decode cX6_readWhose 1 = .ok (.iconst 0, 1) by decide +kernel) rfl (by decide) ?_
  refine tr_bipush (pc' := 4) (v := (7 : Int32)) (show decode cX6_readWhose 2 = .ok (.bipush 7, 2) by decide +kernel) rfl (by decide) ?_
  obtain ⟨x2, ex2, h⟩ := hm_bs h
  have cx2 := ok_X6_isNumber (fr := fr - 1) (ν := ν) (by omega) (0 : Int32) (7 : Int32) hT μ hL ex2
  refine tp_callV (pc' := 7) (As := [.int (0 : Int32), .int (7 : Int32)]) (fr1 := fr - 1) (ci := 6) okm_X6_isNumber lk_HandRing_Reader_107 (show decode cX6_readWhose 4 = .ok (.invokevirtual 107, 3) by decide +kernel) rfl rfl rfl (by decide) (la_o hL (by decide) rfl) rfl rfl (Nat.le_of_ble_eq_true rfl) (by omega) cx2 (st' := [.int x2]) rfl ?_
  rcases hm_is h with ⟨hc, h⟩ | ⟨hc, h⟩
  · refine tr_if_ne_f (tgt := 12) (pc' := 10) hc (show decode cX6_readWhose 7 = .ok (.ifCond .ne 5, 3) by decide +kernel) (by decide) rfl ?_
    refine tr_iconst (pc' := 11) (v := (0 : Int32)) (show decode cX6_readWhose 10 = .ok (.iconst 0, 1) by decide +kernel) rfl (by decide) ?_
    cases h
    exact tr_zret rfl (by decide) (show decode cX6_readWhose 11 = .ok (.ireturn, 1) by decide +kernel) hL
  · refine tr_if_ne_t (tgt := 12) hc (show decode cX6_readWhose 7 = .ok (.ifCond .ne 5, 3) by decide +kernel) (by decide) ?_
    refine tr_aload_n (pc' := 13) (show decode cX6_readWhose 12 = .ok (.aload_n 0, 1) by decide +kernel) rfl rfl rfl ?_
    refine tr_getR (pc' := 16) fl_HandRing_Reader_14 (show decode cX6_readWhose 13 = .ok (.getfield 14, 3) by decide +kernel) rfl (la_o hL (by decide) rfl) (la_r hL 95 rfl) ?_
    refine tr_iconst (pc' := 17) (v := (1 : Int32)) (show decode cX6_readWhose 16 = .ok (.iconst 1, 1) by decide +kernel) rfl (by decide) ?_
    refine tr_iload_n (pc' := 18) (show decode cX6_readWhose 17 = .ok (.iload_n 1, 1) by decide +kernel) rfl rfl rfl ?_
    refine tr_iconst (pc' := 19) (v := (5 : Int32)) (show decode cX6_readWhose 18 = .ok (.iconst 5, 1) by decide +kernel) rfl (by decide) ?_
    rcases hm_is h with ⟨hc, h⟩ | ⟨hc, h⟩
    · refine tr_icmp_ne_f (tgt := 26) (pc' := 22) hc (show decode cX6_readWhose 19 = .ok (.if_icmp .ne 7, 3) by decide +kernel) (by decide) rfl ?_
      refine tr_iconst (pc' := 23) (v := (5 : Int32)) (show decode cX6_readWhose 22 = .ok (.iconst 5, 1) by decide +kernel) rfl (by decide) ?_
      refine tr_goto (tgt := 28) (show decode cX6_readWhose 23 = .ok (.goto 5, 3) by decide +kernel) rfl ?_
      refine hm_fgt [true, false] (lv' := [some (.ref 150), none]) rfl ?_
      exact ok_X6_readWhose_J28 hfr _ hT (5 : Int32) (1 : Int32) μ hL h
    · refine tr_icmp_ne_t (tgt := 26) hc (show decode cX6_readWhose 19 = .ok (.if_icmp .ne 7, 3) by decide +kernel) (by decide) ?_
      refine tr_bipush (pc' := 28) (v := (13 : Int32)) (show decode cX6_readWhose 26 = .ok (.bipush 13, 2) by decide +kernel) rfl (by decide) ?_
      refine hm_fgt [true, false] (lv' := [some (.ref 150), none]) rfl ?_
      exact ok_X6_readWhose_J28 hfr _ hT (13 : Int32) (1 : Int32) μ hL h
def f_X6_readPart_J161 (k_X6_readPart : hm_M → Option (Int32 × hm_M)) (k_X6_readSum : hm_M → Option (Int32 × hm_M)) (k_X6_readTerm : hm_M → Option (Int32 × hm_M)) (s0 : Int32) (s1 : Int32) (y1 : Int32) (μ1 : hm_M) : Option (Int32 × hm_M) :=
  Option.bind (hm_pZ μ1 151 5 (s1 ||| s0)) fun μ8 =>
  Option.bind (f_X5_emit 151 (1 : Int32) y1 μ8) fun μ10 =>
  some ((1 : Int32), μ10)
theorem ok_X6_readPart_J161 {fr : Nat} (hfr : 9 ≤ fr) {ν : hm_N} {r : Int32} {μR : hm_M} (k_X6_readPart : hm_M → Option (Int32 × hm_M)) (hk_X6_readPart : ∀ {r : Int32} {μR : hm_M}  (hT : ν.1 = some 156) (μ : hm_M), hm_LL ν μ → k_X6_readPart μ = some (r, μR) → hm_CC (hm_LL ν) m_X6_readPart (fr - 1) 0 0 [.ref 150] μ (some (.int r)) μR) (k_X6_readSum : hm_M → Option (Int32 × hm_M)) (hk_X6_readSum : ∀ {r : Int32} {μR : hm_M}  (hT : ν.1 = some 156) (μ : hm_M), hm_LL ν μ → k_X6_readSum μ = some (r, μR) → hm_CC (hm_LL ν) m_X6_readSum (fr - 1) 0 0 [.ref 150] μ (some (.int r)) μR) (k_X6_readTerm : hm_M → Option (Int32 × hm_M)) (hk_X6_readTerm : ∀ {r : Int32} {μR : hm_M}  (hT : ν.1 = some 156) (μ : hm_M), hm_LL ν μ → k_X6_readTerm μ = some (r, μR) → hm_CC (hm_LL ν) m_X6_readTerm (fr - 1) 0 0 [.ref 150] μ (some (.int r)) μR)    (hT : ν.1 = some 156) (s0 : Int32) (s1 : Int32) (y1 : Int32) (μ1 : hm_M) (hL : hm_LL ν μ1) (h : f_X6_readPart_J161 k_X6_readPart k_X6_readSum k_X6_readTerm s0 s1 y1 μ1 = some (r, μR)) : hm_T (hm_LL ν) m_X6_readPart fr 0 0 (some (.int r)) μR 161 [some (.ref 150), some (.int y1)] [.int s0, .int s1, .ref 151] μ1 := by
  unfold f_X6_readPart_J161 at h
  refine tr_ior (pc' := 162) (show decode cX6_readPart 161 = .ok (.ior, 1) by decide +kernel) rfl ?_
  obtain ⟨μ8, eμ8, h⟩ := hm_bs h
  refine tp_pZ (pc' := 165) fl_HandRing_Reader_158 (show decode cX6_readPart 162 = .ok (.putfield 158, 3) by decide +kernel) rfl (la_o hL (by decide) rfl) eμ8 ?_
  replace hL := hL.same (hm_pZ_s eμ8)
  refine tr_aload_n (pc' := 166) (show decode cX6_readPart 165 = .ok (.aload_n 0, 1) by decide +kernel) rfl rfl rfl ?_
  refine tr_getR (pc' := 169) fl_HandRing_Reader_14 (show decode cX6_readPart 166 = .ok (.getfield 14, 3) by decide +kernel) rfl (la_o hL (by decide) rfl) (la_r hL 95 rfl) ?_
  refine tr_iconst (pc' := 170) (v := (1 : Int32)) (show decode cX6_readPart 169 = .ok (.iconst 1, 1) by decide +kernel) rfl (by decide) ?_
  refine tr_iload_n (pc' := 171) (show decode cX6_readPart 170 = .ok (.iload_n 1, 1) by decide +kernel) rfl rfl rfl ?_
  obtain ⟨μ10, ex9, h⟩ := hm_bs h
  have cx9 := ok_X5_emit (fr := fr - 1) (ν := ν) (by omega) 151 (1 : Int32) y1 (la_pg151 hL) μ8 hL ex9
  refine tp_callV (pc' := 174) (As := [.int (1 : Int32), .int y1]) (fr1 := fr - 1) (ci := 5) okm_X5_emit lk_HandRing_Reader_119 (show decode cX6_readPart 171 = .ok (.invokevirtual 119, 3) by decide +kernel) rfl rfl rfl (by decide) (la_o hL (by decide) rfl) rfl rfl (Nat.le_of_ble_eq_true rfl) (by omega) cx9 (st' := []) rfl ?_
  replace hL := cx9.1
  refine tr_iconst (pc' := 175) (v := (1 : Int32)) (show decode cX6_readPart 174 = .ok (.iconst 1, 1) by decide +kernel) rfl (by decide) ?_
  cases h
  exact tr_zret rfl (by decide) (show decode cX6_readPart 175 = .ok (.ireturn, 1) by decide +kernel) hL
def f_X6_readPart_J160 (k_X6_readPart : hm_M → Option (Int32 × hm_M)) (k_X6_readSum : hm_M → Option (Int32 × hm_M)) (k_X6_readTerm : hm_M → Option (Int32 × hm_M)) (s0 : Int32) (y1 : Int32) (μ1 : hm_M) : Option (Int32 × hm_M) :=
  f_X6_readPart_J161 k_X6_readPart k_X6_readSum k_X6_readTerm (0 : Int32) s0 y1 μ1
theorem ok_X6_readPart_J160 {fr : Nat} (hfr : 9 ≤ fr) {ν : hm_N} {r : Int32} {μR : hm_M} (k_X6_readPart : hm_M → Option (Int32 × hm_M)) (hk_X6_readPart : ∀ {r : Int32} {μR : hm_M}  (hT : ν.1 = some 156) (μ : hm_M), hm_LL ν μ → k_X6_readPart μ = some (r, μR) → hm_CC (hm_LL ν) m_X6_readPart (fr - 1) 0 0 [.ref 150] μ (some (.int r)) μR) (k_X6_readSum : hm_M → Option (Int32 × hm_M)) (hk_X6_readSum : ∀ {r : Int32} {μR : hm_M}  (hT : ν.1 = some 156) (μ : hm_M), hm_LL ν μ → k_X6_readSum μ = some (r, μR) → hm_CC (hm_LL ν) m_X6_readSum (fr - 1) 0 0 [.ref 150] μ (some (.int r)) μR) (k_X6_readTerm : hm_M → Option (Int32 × hm_M)) (hk_X6_readTerm : ∀ {r : Int32} {μR : hm_M}  (hT : ν.1 = some 156) (μ : hm_M), hm_LL ν μ → k_X6_readTerm μ = some (r, μR) → hm_CC (hm_LL ν) m_X6_readTerm (fr - 1) 0 0 [.ref 150] μ (some (.int r)) μR)    (hT : ν.1 = some 156) (s0 : Int32) (y1 : Int32) (μ1 : hm_M) (hL : hm_LL ν μ1) (h : f_X6_readPart_J160 k_X6_readPart k_X6_readSum k_X6_readTerm s0 y1 μ1 = some (r, μR)) : hm_T (hm_LL ν) m_X6_readPart fr 0 0 (some (.int r)) μR 160 [some (.ref 150), some (.int y1)] [.int s0, .ref 151] μ1 := by
  unfold f_X6_readPart_J160 at h
  refine tr_iconst (pc' := 161) (v := (0 : Int32)) (show decode cX6_readPart 160 = .ok (.iconst 0, 1) by decide +kernel) rfl (by decide) ?_
  exact ok_X6_readPart_J161 hfr k_X6_readPart hk_X6_readPart k_X6_readSum hk_X6_readSum k_X6_readTerm hk_X6_readTerm hT (0 : Int32) s0 y1 μ1 hL h
def f_X6_readPart_J136 (k_X6_readPart : hm_M → Option (Int32 × hm_M)) (k_X6_readSum : hm_M → Option (Int32 × hm_M)) (k_X6_readTerm : hm_M → Option (Int32 × hm_M)) (y1 : Int32) (μ1 : hm_M) : Option (Int32 × hm_M) :=
  (if (μ1.1 150 3) = 0 then
  (if y1 = (4 : Int32) then
  f_X6_readPart_J161 k_X6_readPart k_X6_readSum k_X6_readTerm (1 : Int32) (μ1.1 151 5) y1 μ1
  else
  f_X6_readPart_J160 k_X6_readPart k_X6_readSum k_X6_readTerm (μ1.1 151 5) y1 μ1)
  else
  f_X6_readPart_J160 k_X6_readPart k_X6_readSum k_X6_readTerm (μ1.1 151 5) y1 μ1)
theorem ok_X6_readPart_J136 {fr : Nat} (hfr : 9 ≤ fr) {ν : hm_N} {r : Int32} {μR : hm_M} (k_X6_readPart : hm_M → Option (Int32 × hm_M)) (hk_X6_readPart : ∀ {r : Int32} {μR : hm_M}  (hT : ν.1 = some 156) (μ : hm_M), hm_LL ν μ → k_X6_readPart μ = some (r, μR) → hm_CC (hm_LL ν) m_X6_readPart (fr - 1) 0 0 [.ref 150] μ (some (.int r)) μR) (k_X6_readSum : hm_M → Option (Int32 × hm_M)) (hk_X6_readSum : ∀ {r : Int32} {μR : hm_M}  (hT : ν.1 = some 156) (μ : hm_M), hm_LL ν μ → k_X6_readSum μ = some (r, μR) → hm_CC (hm_LL ν) m_X6_readSum (fr - 1) 0 0 [.ref 150] μ (some (.int r)) μR) (k_X6_readTerm : hm_M → Option (Int32 × hm_M)) (hk_X6_readTerm : ∀ {r : Int32} {μR : hm_M}  (hT : ν.1 = some 156) (μ : hm_M), hm_LL ν μ → k_X6_readTerm μ = some (r, μR) → hm_CC (hm_LL ν) m_X6_readTerm (fr - 1) 0 0 [.ref 150] μ (some (.int r)) μR)    (hT : ν.1 = some 156) (y1 : Int32) (μ1 : hm_M) (hL : hm_LL ν μ1) (h : f_X6_readPart_J136 k_X6_readPart k_X6_readSum k_X6_readTerm y1 μ1 = some (r, μR)) : hm_T (hm_LL ν) m_X6_readPart fr 0 0 (some (.int r)) μR 136 [some (.ref 150), some (.int y1)] [] μ1 := by
  unfold f_X6_readPart_J136 at h
  refine tr_aload_n (pc' := 137) (show decode cX6_readPart 136 = .ok (.aload_n 0, 1) by decide +kernel) rfl rfl rfl ?_
  refine tr_getR (pc' := 140) fl_HandRing_Reader_14 (show decode cX6_readPart 137 = .ok (.getfield 14, 3) by decide +kernel) rfl (la_o hL (by decide) rfl) (la_r hL 95 rfl) ?_
  refine tr_dup (pc' := 141) (show decode cX6_readPart 140 = .ok (.dup, 1) by decide +kernel) rfl rfl ?_
  refine tr_getI (pc' := 144) fl_HandRing_Reader_158 (show decode cX6_readPart 141 = .ok (.getfield 158, 3) by decide +kernel) rfl (la_o hL (by decide) rfl) ?_
  refine tr_aload_n (pc' := 145) (show decode cX6_readPart 144 = .ok (.aload_n 0, 1) by decide +kernel) rfl rfl rfl ?_
  refine tr_getI (pc' := 148) fl_HandRing_Reader_34 (show decode cX6_readPart 145 = .ok (.getfield 34, 3) by decide +kernel) rfl (la_o hL (by decide) rfl) ?_
  rcases hm_is h with ⟨hc, h⟩ | ⟨hc, h⟩
  · refine tr_if_ne_f (tgt := 160) (pc' := 151) hc (show decode cX6_readPart 148 = .ok (.ifCond .ne 12, 3) by decide +kernel) (by decide) rfl ?_
    refine tr_iload_n (pc' := 152) (show decode cX6_readPart 151 = .ok (.iload_n 1, 1) by decide +kernel) rfl rfl rfl ?_
    refine tr_iconst (pc' := 153) (v := (4 : Int32)) (show decode cX6_readPart 152 = .ok (.iconst 4, 1) by decide +kernel) rfl (by decide) ?_
    rcases hm_is h with ⟨hc, h⟩ | ⟨hc, h⟩
    · refine tr_icmp_ne_f (tgt := 160) (pc' := 156) hc (show decode cX6_readPart 153 = .ok (.if_icmp .ne 7, 3) by decide +kernel) (by decide) rfl ?_
      refine tr_iconst (pc' := 157) (v := (1 : Int32)) (show decode cX6_readPart 156 = .ok (.iconst 1, 1) by decide +kernel) rfl (by decide) ?_
      refine tr_goto (tgt := 161) (show decode cX6_readPart 157 = .ok (.goto 4, 3) by decide +kernel) rfl ?_
      exact ok_X6_readPart_J161 hfr k_X6_readPart hk_X6_readPart k_X6_readSum hk_X6_readSum k_X6_readTerm hk_X6_readTerm hT (1 : Int32) (μ1.1 151 5) y1 μ1 hL h
    · refine tr_icmp_ne_t (tgt := 160) hc (show decode cX6_readPart 153 = .ok (.if_icmp .ne 7, 3) by decide +kernel) (by decide) ?_
      exact ok_X6_readPart_J160 hfr k_X6_readPart hk_X6_readPart k_X6_readSum hk_X6_readSum k_X6_readTerm hk_X6_readTerm hT (μ1.1 151 5) y1 μ1 hL h
  · refine tr_if_ne_t (tgt := 160) hc (show decode cX6_readPart 148 = .ok (.ifCond .ne 12, 3) by decide +kernel) (by decide) ?_
    exact ok_X6_readPart_J160 hfr k_X6_readPart hk_X6_readPart k_X6_readSum hk_X6_readSum k_X6_readTerm hk_X6_readTerm hT (μ1.1 151 5) y1 μ1 hL h
def f_X6_readPart_J103 (k_X6_readPart : hm_M → Option (Int32 × hm_M)) (k_X6_readSum : hm_M → Option (Int32 × hm_M)) (k_X6_readTerm : hm_M → Option (Int32 × hm_M)) (s0 : Nat) (μ1 : hm_M) : Option (Int32 × hm_M) :=
  Option.bind (f_X6_placeIn s0 μ1) fun x5 =>
  (if x5 = (-1 : Int32) then
  some ((0 : Int32), μ1)
  else
  Option.bind (f_X6_goOn μ1) fun μ7 =>
  (if (μ7.1 150 3) = 0 then
  (if x5 < (5 : Int32) then
  f_X6_readPart_J136 k_X6_readPart k_X6_readSum k_X6_readTerm x5 μ7
  else
  hm_b2 (f_X6_readWhose x5 μ7) fun x11 μ12 =>
  Option.bind (hm_rz x11) fun x13 => some (x13, μ12))
  else
  f_X6_readPart_J136 k_X6_readPart k_X6_readSum k_X6_readTerm x5 μ7))
theorem ok_X6_readPart_J103 {fr : Nat} (hfr : 9 ≤ fr) {ν : hm_N} {r : Int32} {μR : hm_M} (k_X6_readPart : hm_M → Option (Int32 × hm_M)) (hk_X6_readPart : ∀ {r : Int32} {μR : hm_M}  (hT : ν.1 = some 156) (μ : hm_M), hm_LL ν μ → k_X6_readPart μ = some (r, μR) → hm_CC (hm_LL ν) m_X6_readPart (fr - 1) 0 0 [.ref 150] μ (some (.int r)) μR) (k_X6_readSum : hm_M → Option (Int32 × hm_M)) (hk_X6_readSum : ∀ {r : Int32} {μR : hm_M}  (hT : ν.1 = some 156) (μ : hm_M), hm_LL ν μ → k_X6_readSum μ = some (r, μR) → hm_CC (hm_LL ν) m_X6_readSum (fr - 1) 0 0 [.ref 150] μ (some (.int r)) μR) (k_X6_readTerm : hm_M → Option (Int32 × hm_M)) (hk_X6_readTerm : ∀ {r : Int32} {μR : hm_M}  (hT : ν.1 = some 156) (μ : hm_M), hm_LL ν μ → k_X6_readTerm μ = some (r, μR) → hm_CC (hm_LL ν) m_X6_readTerm (fr - 1) 0 0 [.ref 150] μ (some (.int r)) μR)    (hT : ν.1 = some 156) (s0 : Nat) (hs0 : s0 < 10) (μ1 : hm_M) (hL : hm_LL ν μ1) (h : f_X6_readPart_J103 k_X6_readPart k_X6_readSum k_X6_readTerm s0 μ1 = some (r, μR)) : hm_T (hm_LL ν) m_X6_readPart fr 0 0 (some (.int r)) μR 103 [some (.ref 150), none] [.ref (4 + s0), .ref 150] μ1 := by
  unfold f_X6_readPart_J103 at h
  obtain ⟨x5, ex5, h⟩ := hm_bs h
  have cx5 := ok_X6_placeIn (fr := fr - 1) (ν := ν) (by omega) s0 hs0 hT μ1 hL ex5
  refine tp_callV (pc' := 106) (As := [.ref (4 + s0)]) (fr1 := fr - 1) (ci := 6) okm_X6_placeIn lk_HandRing_Reader_71 (show decode cX6_readPart 103 = .ok (.invokevirtual 71, 3) by decide +kernel) rfl rfl rfl (by decide) (la_o hL (by decide) rfl) rfl rfl (Nat.le_of_ble_eq_true rfl) (by omega) cx5 (st' := [.int x5]) rfl ?_
  refine tr_istore_n (pc' := 107) (lv' := [some (.ref 150), some (.int x5)]) (show decode cX6_readPart 106 = .ok (.istore_n 1, 1) by decide +kernel) rfl rfl (Nat.le_of_ble_eq_true rfl) rfl rfl ?_
  refine tr_iload_n (pc' := 108) (show decode cX6_readPart 107 = .ok (.iload_n 1, 1) by decide +kernel) rfl rfl rfl ?_
  refine tr_iconst (pc' := 109) (v := (-1 : Int32)) (show decode cX6_readPart 108 = .ok (.iconst (-1), 1) by decide +kernel) rfl (by decide) ?_
  rcases hm_is h with ⟨hc, h⟩ | ⟨hc, h⟩
  · refine tr_icmp_ne_f (tgt := 114) (pc' := 112) hc (show decode cX6_readPart 109 = .ok (.if_icmp .ne 5, 3) by decide +kernel) (by decide) rfl ?_
    refine tr_iconst (pc' := 113) (v := (0 : Int32)) (show decode cX6_readPart 112 = .ok (.iconst 0, 1) by decide +kernel) rfl (by decide) ?_
    cases h
    exact tr_zret rfl (by decide) (show decode cX6_readPart 113 = .ok (.ireturn, 1) by decide +kernel) hL
  · refine tr_icmp_ne_t (tgt := 114) hc (show decode cX6_readPart 109 = .ok (.if_icmp .ne 5, 3) by decide +kernel) (by decide) ?_
    refine tr_aload_n (pc' := 115) (show decode cX6_readPart 114 = .ok (.aload_n 0, 1) by decide +kernel) rfl rfl rfl ?_
    obtain ⟨μ7, ex6, h⟩ := hm_bs h
    have cx6 := ok_X6_goOn (fr := fr - 1) (ν := ν) (by omega) hT μ1 hL ex6
    refine tp_callV (pc' := 118) (As := []) (fr1 := fr - 1) (ci := 6) okm_X6_goOn lk_HandRing_Reader_50 (show decode cX6_readPart 115 = .ok (.invokevirtual 50, 3) by decide +kernel) rfl rfl rfl (by decide) (la_o hL (by decide) rfl) rfl rfl (Nat.le_of_ble_eq_true rfl) (by omega) cx6 (st' := []) rfl ?_
    replace hL := cx6.1
    refine tr_aload_n (pc' := 119) (show decode cX6_readPart 118 = .ok (.aload_n 0, 1) by decide +kernel) rfl rfl rfl ?_
    refine tr_getI (pc' := 122) fl_HandRing_Reader_34 (show decode cX6_readPart 119 = .ok (.getfield 34, 3) by decide +kernel) rfl (la_o hL (by decide) rfl) ?_
    rcases hm_is h with ⟨hc, h⟩ | ⟨hc, h⟩
    · refine tr_if_ne_f (tgt := 136) (pc' := 125) hc (show decode cX6_readPart 122 = .ok (.ifCond .ne 14, 3) by decide +kernel) (by decide) rfl ?_
      refine tr_iload_n (pc' := 126) (show decode cX6_readPart 125 = .ok (.iload_n 1, 1) by decide +kernel) rfl rfl rfl ?_
      refine tr_iconst (pc' := 127) (v := (5 : Int32)) (show decode cX6_readPart 126 = .ok (.iconst 5, 1) by decide +kernel) rfl (by decide) ?_
      rcases hm_is h with ⟨hc, h⟩ | ⟨hc, h⟩
      · refine tr_icmp_lt_t (tgt := 136) hc (show decode cX6_readPart 127 = .ok (.if_icmp .lt 9, 3) by decide +kernel) (by decide) ?_
        exact ok_X6_readPart_J136 hfr k_X6_readPart hk_X6_readPart k_X6_readSum hk_X6_readSum k_X6_readTerm hk_X6_readTerm hT x5 μ7 hL h
      · refine tr_icmp_lt_f (tgt := 136) (pc' := 130) hc (show decode cX6_readPart 127 = .ok (.if_icmp .lt 9, 3) by decide +kernel) (by decide) rfl ?_
        refine tr_aload_n (pc' := 131) (show decode cX6_readPart 130 = .ok (.aload_n 0, 1) by decide +kernel) rfl rfl rfl ?_
        refine tr_iload_n (pc' := 132) (show decode cX6_readPart 131 = .ok (.iload_n 1, 1) by decide +kernel) rfl rfl rfl ?_
        obtain ⟨x11, μ12, ex11, h⟩ := hm_b2s h
        have cx11 := ok_X6_readWhose (fr := fr - 1) (ν := ν) (by omega) x5 hT μ7 hL ex11
        refine tp_callV (pc' := 135) (As := [.int x5]) (fr1 := fr - 1) (ci := 6) okm_X6_readWhose lk_HandRing_Reader_155 (show decode cX6_readPart 132 = .ok (.invokevirtual 155, 3) by decide +kernel) rfl rfl rfl (by decide) (la_o hL (by decide) rfl) rfl rfl (Nat.le_of_ble_eq_true rfl) (by omega) cx11 (st' := [.int x11]) rfl ?_
        replace hL := cx11.1
        obtain ⟨x13, ex13, h⟩ := hm_bs h
        cases h
        exact tp_zret rfl (show decode cX6_readPart 135 = .ok (.ireturn, 1) by decide +kernel) ex13 hL
    · refine tr_if_ne_t (tgt := 136) hc (show decode cX6_readPart 122 = .ok (.ifCond .ne 14, 3) by decide +kernel) (by decide) ?_
      exact ok_X6_readPart_J136 hfr k_X6_readPart hk_X6_readPart k_X6_readSum hk_X6_readSum k_X6_readTerm hk_X6_readTerm hT x5 μ7 hL h
def f_X6_readPart (k_X6_readPart : hm_M → Option (Int32 × hm_M)) (k_X6_readSum : hm_M → Option (Int32 × hm_M)) (k_X6_readTerm : hm_M → Option (Int32 × hm_M)) (μ : hm_M) : Option (Int32 × hm_M) :=
  Option.bind (f_X6_isSign (91 : Int32) μ) fun x2 =>
  (if x2 = 0 then
  (if (μ.1 150 8) < (50 : Int32) then
  Option.bind (hm_pI μ 150 8 ((μ.1 150 8) + (1 : Int32))) fun μ3 =>
  Option.bind (f_X6_isNumber (0 : Int32) (1000 : Int32) μ3) fun x4 =>
  (if x4 = 0 then
  (if (μ3.1 150 3) = 0 then
  f_X6_readPart_J103 k_X6_readPart k_X6_readSum k_X6_readTerm 4 μ3
  else
  f_X6_readPart_J103 k_X6_readPart k_X6_readSum k_X6_readTerm 3 μ3)
  else
  Option.bind (f_X5_emit 151 (0 : Int32) (μ3.1 150 7) μ3) fun μ15 =>
  Option.bind (f_X6_goOn μ15) fun μ17 =>
  some ((1 : Int32), μ17))
  else
  some ((0 : Int32), μ))
  else
  hm_b2 (f_X6_open μ) fun x18 μ19 =>
  (if x18 = 0 then
  some ((0 : Int32), μ19)
  else
  hm_b2 (k_X6_readSum μ19) fun x20 μ21 =>
  (if x20 = 0 then
  some ((0 : Int32), μ21)
  else
  hm_b2 (f_X6_close (93 : Int32) μ21) fun x22 μ23 =>
  (if x22 = 0 then
  some ((0 : Int32), μ23)
  else
  some ((1 : Int32), μ23)))))
set_option maxRecDepth 100000 in
theorem ok_X6_readPart {fr : Nat} (hfr : 9 ≤ fr) {ν : hm_N} {r : Int32} {μR : hm_M} (k_X6_readPart : hm_M → Option (Int32 × hm_M)) (hk_X6_readPart : ∀ {r : Int32} {μR : hm_M}  (hT : ν.1 = some 156) (μ : hm_M), hm_LL ν μ → k_X6_readPart μ = some (r, μR) → hm_CC (hm_LL ν) m_X6_readPart (fr - 1) 0 0 [.ref 150] μ (some (.int r)) μR) (k_X6_readSum : hm_M → Option (Int32 × hm_M)) (hk_X6_readSum : ∀ {r : Int32} {μR : hm_M}  (hT : ν.1 = some 156) (μ : hm_M), hm_LL ν μ → k_X6_readSum μ = some (r, μR) → hm_CC (hm_LL ν) m_X6_readSum (fr - 1) 0 0 [.ref 150] μ (some (.int r)) μR) (k_X6_readTerm : hm_M → Option (Int32 × hm_M)) (hk_X6_readTerm : ∀ {r : Int32} {μR : hm_M}  (hT : ν.1 = some 156) (μ : hm_M), hm_LL ν μ → k_X6_readTerm μ = some (r, μR) → hm_CC (hm_LL ν) m_X6_readTerm (fr - 1) 0 0 [.ref 150] μ (some (.int r)) μR)  (hT : ν.1 = some 156) (μ : hm_M) (hL : hm_LL ν μ) (h : f_X6_readPart k_X6_readPart k_X6_readSum k_X6_readTerm μ = some (r, μR)) : hm_CC (hm_LL ν) m_X6_readPart fr 0 0 [.ref 150] μ (some (.int r)) μR := by
  refine hm_enter (lv := [some (.ref 150), none]) (by decide) rfl (Nat.le_of_ble_eq_true rfl) ?_
  unfold f_X6_readPart at h
  refine tr_aload_n (pc' := 1) (show decode cX6_readPart 0 = .ok (.aload_n 0, 1) by decide +kernel) rfl rfl rfl ?_
  refine tr_bipush (pc' := 3) (v := (91 : Int32)) (show decode cX6_readPart 1 = .ok (.bipush 91, 2) by decide +kernel) rfl (by decide) ?_
  obtain ⟨x2, ex2, h⟩ := hm_bs h
  have cx2 := ok_X6_isSign (fr := fr - 1) (ν := ν) (by omega) (91 : Int32) hT μ hL ex2
  refine tp_callV (pc' := 6) (As := [.int (91 : Int32)]) (fr1 := fr - 1) (ci := 6) okm_X6_isSign lk_HandRing_Reader_63 (show decode cX6_readPart 3 = .ok (.invokevirtual 63, 3) by decide +kernel) rfl rfl rfl (by decide) (la_o hL (by decide) rfl) rfl rfl (Nat.le_of_ble_eq_true rfl) (by omega) cx2 (st' := [.int x2]) rfl ?_
  rcases hm_is h with ⟨hc, h⟩ | ⟨hc, h⟩
  · refine tr_if_eq_t (tgt := 38) hc (show decode cX6_readPart 6 = .ok (.ifCond .eq 32, 3) by decide +kernel) (by decide) ?_
    refine tr_aload_n (pc' := 39) (show decode cX6_readPart 38 = .ok (.aload_n 0, 1) by decide +kernel) rfl rfl rfl ?_
    refine tr_getI (pc' := 42) fl_HandRing_Reader_41 (show decode cX6_readPart 39 = .ok (.getfield 41, 3) by decide +kernel) rfl (la_o hL (by decide) rfl) ?_
    refine tr_bipush (pc' := 44) (v := (50 : Int32)) (show decode cX6_readPart 42 = .ok (.bipush 50, 2) by decide +kernel) rfl (by decide) ?_
    rcases hm_is h with ⟨hc, h⟩ | ⟨hc, h⟩
    · refine tr_icmp_lt_t (tgt := 49) hc (show decode cX6_readPart 44 = .ok (.if_icmp .lt 5, 3) by decide +kernel) (by decide) ?_
      refine tr_aload_n (pc' := 50) (show decode cX6_readPart 49 = .ok (.aload_n 0, 1) by decide +kernel) rfl rfl rfl ?_
      refine tr_dup (pc' := 51) (show decode cX6_readPart 50 = .ok (.dup, 1) by decide +kernel) rfl rfl ?_
      refine tr_getI (pc' := 54) fl_HandRing_Reader_41 (show decode cX6_readPart 51 = .ok (.getfield 41, 3) by decide +kernel) rfl (la_o hL (by decide) rfl) ?_
      refine tr_iconst (pc' := 55) (v := (1 : Int32)) (show decode cX6_readPart 54 = .ok (.iconst 1, 1) by decide +kernel) rfl (by decide) ?_
      refine tr_iadd (pc' := 56) (show decode cX6_readPart 55 = .ok (.iadd, 1) by decide +kernel) rfl ?_
      obtain ⟨μ3, eμ3, h⟩ := hm_bs h
      refine tp_pI (pc' := 59) fl_HandRing_Reader_41 (show decode cX6_readPart 56 = .ok (.putfield 41, 3) by decide +kernel) rfl (la_o hL (by decide) rfl) eμ3 ?_
      replace hL := hL.same (hm_pI_s eμ3)
      refine tr_aload_n (pc' := 60) (show decode cX6_readPart 59 = .ok (.aload_n 0, 1) by decide +kernel) rfl rfl rfl ?_
      refine tr_iconst (pc' := 61) (v := (0 : Int32)) (show decode cX6_readPart 60 = .ok (.iconst 0, 1) by decide +kernel) rfl (by decide) ?_
      refine tr_sipush (pc' := 64) (v := (1000 : Int32)) (show decode cX6_readPart 61 = .ok (.sipush 1000, 3) by decide +kernel) rfl (by decide) ?_
      obtain ⟨x4, ex4, h⟩ := hm_bs h
      have cx4 := ok_X6_isNumber (fr := fr - 1) (ν := ν) (by omega) (0 : Int32) (1000 : Int32) hT μ3 hL ex4
      refine tp_callV (pc' := 67) (As := [.int (0 : Int32), .int (1000 : Int32)]) (fr1 := fr - 1) (ci := 6) okm_X6_isNumber lk_HandRing_Reader_107 (show decode cX6_readPart 64 = .ok (.invokevirtual 107, 3) by decide +kernel) rfl rfl rfl (by decide) (la_o hL (by decide) rfl) rfl rfl (Nat.le_of_ble_eq_true rfl) (by omega) cx4 (st' := [.int x4]) rfl ?_
      rcases hm_is h with ⟨hc, h⟩ | ⟨hc, h⟩
      · refine tr_if_eq_t (tgt := 88) hc (show decode cX6_readPart 67 = .ok (.ifCond .eq 21, 3) by decide +kernel) (by decide) ?_
        refine tr_aload_n (pc' := 89) (show decode cX6_readPart 88 = .ok (.aload_n 0, 1) by decide +kernel) rfl rfl rfl ?_
        refine tr_aload_n (pc' := 90) (show decode cX6_readPart 89 = .ok (.aload_n 0, 1) by decide +kernel) rfl rfl rfl ?_
        refine tr_getI (pc' := 93) fl_HandRing_Reader_34 (show decode cX6_readPart 90 = .ok (.getfield 34, 3) by decide +kernel) rfl (la_o hL (by decide) rfl) ?_
        rcases hm_is h with ⟨hc, h⟩ | ⟨hc, h⟩
        · refine tr_if_eq_t (tgt := 101) hc (show decode cX6_readPart 93 = .ok (.ifCond .eq 8, 3) by decide +kernel) (by decide) ?_
          refine tr_ldcS (pc' := 103) (i := 4) rfl rfl (show decode cX6_readPart 101 = .ok (.ldc 151, 2) by decide +kernel) rfl ?_
          exact ok_X6_readPart_J103 hfr k_X6_readPart hk_X6_readPart k_X6_readSum hk_X6_readSum k_X6_readTerm hk_X6_readTerm hT 4 (by decide) μ3 hL h
        · refine tr_if_eq_f (tgt := 101) (pc' := 96) hc (show decode cX6_readPart 93 = .ok (.ifCond .eq 8, 3) by decide +kernel) (by decide) rfl ?_
          refine tr_ldcS (pc' := 98) (i := 3) rfl rfl (show decode cX6_readPart 96 = .ok (.ldc 149, 2) by decide +kernel) rfl ?_
          refine tr_goto (tgt := 103) (show decode cX6_readPart 98 = .ok (.goto 5, 3) by decide +kernel) rfl ?_
          exact ok_X6_readPart_J103 hfr k_X6_readPart hk_X6_readPart k_X6_readSum hk_X6_readSum k_X6_readTerm hk_X6_readTerm hT 3 (by decide) μ3 hL h
      · refine tr_if_eq_f (tgt := 88) (pc' := 70) hc (show decode cX6_readPart 67 = .ok (.ifCond .eq 21, 3) by decide +kernel) (by decide) rfl ?_
        refine tr_aload_n (pc' := 71) (show decode cX6_readPart 70 = .ok (.aload_n 0, 1) by decide +kernel) rfl rfl rfl ?_
        refine tr_getR (pc' := 74) fl_HandRing_Reader_14 (show decode cX6_readPart 71 = .ok (.getfield 14, 3) by decide +kernel) rfl (la_o hL (by decide) rfl) (la_r hL 95 rfl) ?_
        refine tr_iconst (pc' := 75) (v := (0 : Int32)) (show decode cX6_readPart 74 = .ok (.iconst 0, 1) by decide +kernel) rfl (by decide) ?_
        refine tr_aload_n (pc' := 76) (show decode cX6_readPart 75 = .ok (.aload_n 0, 1) by decide +kernel) rfl rfl rfl ?_
        refine tr_getI (pc' := 79) fl_HandRing_Reader_111 (show decode cX6_readPart 76 = .ok (.getfield 111, 3) by decide +kernel) rfl (la_o hL (by decide) rfl) ?_
        obtain ⟨μ15, ex14, h⟩ := hm_bs h
        have cx14 := ok_X5_emit (fr := fr - 1) (ν := ν) (by omega) 151 (0 : Int32) (μ3.1 150 7) (la_pg151 hL) μ3 hL ex14
        refine tp_callV (pc' := 82) (As := [.int (0 : Int32), .int (μ3.1 150 7)]) (fr1 := fr - 1) (ci := 5) okm_X5_emit lk_HandRing_Reader_119 (show decode cX6_readPart 79 = .ok (.invokevirtual 119, 3) by decide +kernel) rfl rfl rfl (by decide) (la_o hL (by decide) rfl) rfl rfl (Nat.le_of_ble_eq_true rfl) (by omega) cx14 (st' := []) rfl ?_
        replace hL := cx14.1
        refine tr_aload_n (pc' := 83) (show decode cX6_readPart 82 = .ok (.aload_n 0, 1) by decide +kernel) rfl rfl rfl ?_
        obtain ⟨μ17, ex16, h⟩ := hm_bs h
        have cx16 := ok_X6_goOn (fr := fr - 1) (ν := ν) (by omega) hT μ15 hL ex16
        refine tp_callV (pc' := 86) (As := []) (fr1 := fr - 1) (ci := 6) okm_X6_goOn lk_HandRing_Reader_50 (show decode cX6_readPart 83 = .ok (.invokevirtual 50, 3) by decide +kernel) rfl rfl rfl (by decide) (la_o hL (by decide) rfl) rfl rfl (Nat.le_of_ble_eq_true rfl) (by omega) cx16 (st' := []) rfl ?_
        replace hL := cx16.1
        refine tr_iconst (pc' := 87) (v := (1 : Int32)) (show decode cX6_readPart 86 = .ok (.iconst 1, 1) by decide +kernel) rfl (by decide) ?_
        cases h
        exact tr_zret rfl (by decide) (show decode cX6_readPart 87 = .ok (.ireturn, 1) by decide +kernel) hL
    · refine tr_icmp_lt_f (tgt := 49) (pc' := 47) hc (show decode cX6_readPart 44 = .ok (.if_icmp .lt 5, 3) by decide +kernel) (by decide) rfl ?_
      refine tr_iconst (pc' := 48) (v := (0 : Int32)) (show decode cX6_readPart 47 = .ok (.iconst 0, 1) by decide +kernel) rfl (by decide) ?_
      cases h
      exact tr_zret rfl (by decide) (show decode cX6_readPart 48 = .ok (.ireturn, 1) by decide +kernel) hL
  · refine tr_if_eq_f (tgt := 38) (pc' := 9) hc (show decode cX6_readPart 6 = .ok (.ifCond .eq 32, 3) by decide +kernel) (by decide) rfl ?_
    refine tr_aload_n (pc' := 10) (show decode cX6_readPart 9 = .ok (.aload_n 0, 1) by decide +kernel) rfl rfl rfl ?_
    obtain ⟨x18, μ19, ex18, h⟩ := hm_b2s h
    have cx18 := ok_X6_open (fr := fr - 1) (ν := ν) (by omega) hT μ hL ex18
    refine tp_callV (pc' := 13) (As := []) (fr1 := fr - 1) (ci := 6) okm_X6_open lk_HandRing_Reader_133 (show decode cX6_readPart 10 = .ok (.invokevirtual 133, 3) by decide +kernel) rfl rfl rfl (by decide) (la_o hL (by decide) rfl) rfl rfl (Nat.le_of_ble_eq_true rfl) (by omega) cx18 (st' := [.int x18]) rfl ?_
    replace hL := cx18.1
    rcases hm_is h with ⟨hc, h⟩ | ⟨hc, h⟩
    · refine tr_if_eq_t (tgt := 36) hc (show decode cX6_readPart 13 = .ok (.ifCond .eq 23, 3) by decide +kernel) (by decide) ?_
      refine tr_iconst (pc' := 37) (v := (0 : Int32)) (show decode cX6_readPart 36 = .ok (.iconst 0, 1) by decide +kernel) rfl (by decide) ?_
      cases h
      exact tr_zret rfl (by decide) (show decode cX6_readPart 37 = .ok (.ireturn, 1) by decide +kernel) hL
    · refine tr_if_eq_f (tgt := 36) (pc' := 16) hc (show decode cX6_readPart 13 = .ok (.ifCond .eq 23, 3) by decide +kernel) (by decide) rfl ?_
      refine tr_aload_n (pc' := 17) (show decode cX6_readPart 16 = .ok (.aload_n 0, 1) by decide +kernel) rfl rfl rfl ?_
      obtain ⟨x20, μ21, ex20, h⟩ := hm_b2s h
      have cx20 := hk_X6_readSum hT μ19 hL ex20
      refine tp_callV (pc' := 20) (As := []) (fr1 := fr - 1) (ci := 6) okm_X6_readSum lk_HandRing_Reader_83 (show decode cX6_readPart 17 = .ok (.invokevirtual 83, 3) by decide +kernel) rfl rfl rfl (by decide) (la_o hL (by decide) rfl) rfl rfl (Nat.le_of_ble_eq_true rfl) (by omega) cx20 (st' := [.int x20]) rfl ?_
      replace hL := cx20.1
      rcases hm_is h with ⟨hc, h⟩ | ⟨hc, h⟩
      · refine tr_if_eq_t (tgt := 36) hc (show decode cX6_readPart 20 = .ok (.ifCond .eq 16, 3) by decide +kernel) (by decide) ?_
        refine tr_iconst (pc' := 37) (v := (0 : Int32)) (show decode cX6_readPart 36 = .ok (.iconst 0, 1) by decide +kernel) rfl (by decide) ?_
        cases h
        exact tr_zret rfl (by decide) (show decode cX6_readPart 37 = .ok (.ireturn, 1) by decide +kernel) hL
      · refine tr_if_eq_f (tgt := 36) (pc' := 23) hc (show decode cX6_readPart 20 = .ok (.ifCond .eq 16, 3) by decide +kernel) (by decide) rfl ?_
        refine tr_aload_n (pc' := 24) (show decode cX6_readPart 23 = .ok (.aload_n 0, 1) by decide +kernel) rfl rfl rfl ?_
        refine tr_bipush (pc' := 26) (v := (93 : Int32)) (show decode cX6_readPart 24 = .ok (.bipush 93, 2) by decide +kernel) rfl (by decide) ?_
        obtain ⟨x22, μ23, ex22, h⟩ := hm_b2s h
        have cx22 := ok_X6_close (fr := fr - 1) (ν := ν) (by omega) (93 : Int32) hT μ21 hL ex22
        refine tp_callV (pc' := 29) (As := [.int (93 : Int32)]) (fr1 := fr - 1) (ci := 6) okm_X6_close lk_HandRing_Reader_136 (show decode cX6_readPart 26 = .ok (.invokevirtual 136, 3) by decide +kernel) rfl rfl rfl (by decide) (la_o hL (by decide) rfl) rfl rfl (Nat.le_of_ble_eq_true rfl) (by omega) cx22 (st' := [.int x22]) rfl ?_
        replace hL := cx22.1
        rcases hm_is h with ⟨hc, h⟩ | ⟨hc, h⟩
        · refine tr_if_eq_t (tgt := 36) hc (show decode cX6_readPart 29 = .ok (.ifCond .eq 7, 3) by decide +kernel) (by decide) ?_
          refine tr_iconst (pc' := 37) (v := (0 : Int32)) (show decode cX6_readPart 36 = .ok (.iconst 0, 1) by decide +kernel) rfl (by decide) ?_
          cases h
          exact tr_zret rfl (by decide) (show decode cX6_readPart 37 = .ok (.ireturn, 1) by decide +kernel) hL
        · refine tr_if_eq_f (tgt := 36) (pc' := 32) hc (show decode cX6_readPart 29 = .ok (.ifCond .eq 7, 3) by decide +kernel) (by decide) rfl ?_
          refine tr_iconst (pc' := 33) (v := (1 : Int32)) (show decode cX6_readPart 32 = .ok (.iconst 1, 1) by decide +kernel) rfl (by decide) ?_
          refine tr_goto (tgt := 37) (show decode cX6_readPart 33 = .ok (.goto 4, 3) by decide +kernel) rfl ?_
          cases h
          exact tr_zret rfl (by decide) (show decode cX6_readPart 37 = .ok (.ireturn, 1) by decide +kernel) hL
def f_X6_readSum_J50 (k_X6_readPart : hm_M → Option (Int32 × hm_M)) (k_X6_readSum : hm_M → Option (Int32 × hm_M)) (k_X6_readTerm : hm_M → Option (Int32 × hm_M)) (c11 : Int32 → hm_M → Option (Int32 × hm_M)) (e79 : hm_M → Option (Int32 × hm_M)) (s0 : Int32) (y1 : Int32) (μ1 : hm_M) : Option (Int32 × hm_M) :=
  Option.bind (f_X6_goOn μ1) fun μ7 =>
  hm_b2 (k_X6_readTerm μ7) fun x8 μ9 =>
  (if x8 = 0 then
  some ((0 : Int32), μ9)
  else
  Option.bind (f_X5_emit 151 s0 (0 : Int32) μ9) fun μ11 =>
  c11 (y1 + (1 : Int32)) μ11)
theorem ok_X6_readSum_J50 {fr : Nat} (hfr : 3 ≤ fr) {ν : hm_N} {r : Int32} {μR : hm_M} (k_X6_readPart : hm_M → Option (Int32 × hm_M)) (hk_X6_readPart : ∀ {r : Int32} {μR : hm_M}  (hT : ν.1 = some 156) (μ : hm_M), hm_LL ν μ → k_X6_readPart μ = some (r, μR) → hm_CC (hm_LL ν) m_X6_readPart (fr - 1) 0 0 [.ref 150] μ (some (.int r)) μR) (k_X6_readSum : hm_M → Option (Int32 × hm_M)) (hk_X6_readSum : ∀ {r : Int32} {μR : hm_M}  (hT : ν.1 = some 156) (μ : hm_M), hm_LL ν μ → k_X6_readSum μ = some (r, μR) → hm_CC (hm_LL ν) m_X6_readSum (fr - 1) 0 0 [.ref 150] μ (some (.int r)) μR) (k_X6_readTerm : hm_M → Option (Int32 × hm_M)) (hk_X6_readTerm : ∀ {r : Int32} {μR : hm_M}  (hT : ν.1 = some 156) (μ : hm_M), hm_LL ν μ → k_X6_readTerm μ = some (r, μR) → hm_CC (hm_LL ν) m_X6_readTerm (fr - 1) 0 0 [.ref 150] μ (some (.int r)) μR)  (c11 : Int32 → hm_M → Option (Int32 × hm_M)) (e79 : hm_M → Option (Int32 × hm_M)) (hc11 : ∀ (y1 : Int32)  (μ1 : hm_M), hm_LL ν μ1 → c11 y1 μ1 = some (r, μR) → hm_T (hm_LL ν) m_X6_readSum fr 0 0 (some (.int r)) μR 11 [some (.ref 150), some (.int y1), none] [] μ1) (he79 : ∀   (μ1 : hm_M), hm_LL ν μ1 → e79 μ1 = some (r, μR) → hm_T (hm_LL ν) m_X6_readSum fr 0 0 (some (.int r)) μR 79 [none, none, none] [] μ1) (hT : ν.1 = some 156) (s0 : Int32) (y1 : Int32) (μ1 : hm_M) (hL : hm_LL ν μ1) (h : f_X6_readSum_J50 k_X6_readPart k_X6_readSum k_X6_readTerm c11 e79 s0 y1 μ1 = some (r, μR)) : hm_T (hm_LL ν) m_X6_readSum fr 0 0 (some (.int r)) μR 50 [some (.ref 150), some (.int y1), none] [.int s0] μ1 := by
  unfold f_X6_readSum_J50 at h
  refine tr_istore_n (pc' := 51) (lv' := [some (.ref 150), some (.int y1), some (.int s0)]) (show decode cX6_readSum 50 = .ok (.istore_n 2, 1) by decide +kernel) rfl rfl (Nat.le_of_ble_eq_true rfl) rfl rfl ?_
  refine tr_aload_n (pc' := 52) (show decode cX6_readSum 51 = .ok (.aload_n 0, 1) by decide +kernel) rfl rfl rfl ?_
  obtain ⟨μ7, ex6, h⟩ := hm_bs h
  have cx6 := ok_X6_goOn (fr := fr - 1) (ν := ν) (by omega) hT μ1 hL ex6
  refine tp_callV (pc' := 55) (As := []) (fr1 := fr - 1) (ci := 6) okm_X6_goOn lk_HandRing_Reader_50 (show decode cX6_readSum 52 = .ok (.invokevirtual 50, 3) by decide +kernel) rfl rfl rfl (by decide) (la_o hL (by decide) rfl) rfl rfl (Nat.le_of_ble_eq_true rfl) (by omega) cx6 (st' := []) rfl ?_
  replace hL := cx6.1
  refine tr_aload_n (pc' := 56) (show decode cX6_readSum 55 = .ok (.aload_n 0, 1) by decide +kernel) rfl rfl rfl ?_
  obtain ⟨x8, μ9, ex8, h⟩ := hm_b2s h
  have cx8 := hk_X6_readTerm hT μ7 hL ex8
  refine tp_callV (pc' := 59) (As := []) (fr1 := fr - 1) (ci := 6) okm_X6_readTerm lk_HandRing_Reader_143 (show decode cX6_readSum 56 = .ok (.invokevirtual 143, 3) by decide +kernel) rfl rfl rfl (by decide) (la_o hL (by decide) rfl) rfl rfl (Nat.le_of_ble_eq_true rfl) (by omega) cx8 (st' := [.int x8]) rfl ?_
  replace hL := cx8.1
  rcases hm_is h with ⟨hc, h⟩ | ⟨hc, h⟩
  · refine tr_if_ne_f (tgt := 64) (pc' := 62) hc (show decode cX6_readSum 59 = .ok (.ifCond .ne 5, 3) by decide +kernel) (by decide) rfl ?_
    refine tr_iconst (pc' := 63) (v := (0 : Int32)) (show decode cX6_readSum 62 = .ok (.iconst 0, 1) by decide +kernel) rfl (by decide) ?_
    cases h
    exact tr_zret rfl (by decide) (show decode cX6_readSum 63 = .ok (.ireturn, 1) by decide +kernel) hL
  · refine tr_if_ne_t (tgt := 64) hc (show decode cX6_readSum 59 = .ok (.ifCond .ne 5, 3) by decide +kernel) (by decide) ?_
    refine tr_aload_n (pc' := 65) (show decode cX6_readSum 64 = .ok (.aload_n 0, 1) by decide +kernel) rfl rfl rfl ?_
    refine tr_getR (pc' := 68) fl_HandRing_Reader_14 (show decode cX6_readSum 65 = .ok (.getfield 14, 3) by decide +kernel) rfl (la_o hL (by decide) rfl) (la_r hL 95 rfl) ?_
    refine tr_iload_n (pc' := 69) (show decode cX6_readSum 68 = .ok (.iload_n 2, 1) by decide +kernel) rfl rfl rfl ?_
    refine tr_iconst (pc' := 70) (v := (0 : Int32)) (show decode cX6_readSum 69 = .ok (.iconst 0, 1) by decide +kernel) rfl (by decide) ?_
    obtain ⟨μ11, ex10, h⟩ := hm_bs h
    have cx10 := ok_X5_emit (fr := fr - 1) (ν := ν) (by omega) 151 s0 (0 : Int32) (la_pg151 hL) μ9 hL ex10
    refine tp_callV (pc' := 73) (As := [.int s0, .int (0 : Int32)]) (fr1 := fr - 1) (ci := 5) okm_X5_emit lk_HandRing_Reader_119 (show decode cX6_readSum 70 = .ok (.invokevirtual 119, 3) by decide +kernel) rfl rfl rfl (by decide) (la_o hL (by decide) rfl) rfl rfl (Nat.le_of_ble_eq_true rfl) (by omega) cx10 (st' := []) rfl ?_
    replace hL := cx10.1
    refine tr_iinc (pc' := 76) (v := y1 + (1 : Int32)) (lv' := [some (.ref 150), some (.int (y1 + (1 : Int32))), some (.int s0)]) (show decode cX6_readSum 73 = .ok (.iinc 1 1, 3) by decide +kernel) rfl rfl rfl (Nat.le_of_ble_eq_true rfl) rfl rfl ?_
    refine tr_goto (tgt := 11) (show decode cX6_readSum 76 = .ok (.goto (-65), 3) by decide +kernel) rfl ?_
    refine hm_fgt [true, true, false] (lv' := [some (.ref 150), some (.int (y1 + (1 : Int32))), none]) rfl ?_
    exact hc11 (y1 + (1 : Int32)) μ11 hL h
def f_X6_readSum_J36 (k_X6_readPart : hm_M → Option (Int32 × hm_M)) (k_X6_readSum : hm_M → Option (Int32 × hm_M)) (k_X6_readTerm : hm_M → Option (Int32 × hm_M)) (c11 : Int32 → hm_M → Option (Int32 × hm_M)) (e79 : hm_M → Option (Int32 × hm_M)) (y1 : Int32) (μ1 : hm_M) : Option (Int32 × hm_M) :=
  Option.bind (f_X6_isSign (43 : Int32) μ1) fun x5 =>
  (if x5 = 0 then
  f_X6_readSum_J50 k_X6_readPart k_X6_readSum k_X6_readTerm c11 e79 (3 : Int32) y1 μ1
  else
  f_X6_readSum_J50 k_X6_readPart k_X6_readSum k_X6_readTerm c11 e79 (2 : Int32) y1 μ1)
theorem ok_X6_readSum_J36 {fr : Nat} (hfr : 3 ≤ fr) {ν : hm_N} {r : Int32} {μR : hm_M} (k_X6_readPart : hm_M → Option (Int32 × hm_M)) (hk_X6_readPart : ∀ {r : Int32} {μR : hm_M}  (hT : ν.1 = some 156) (μ : hm_M), hm_LL ν μ → k_X6_readPart μ = some (r, μR) → hm_CC (hm_LL ν) m_X6_readPart (fr - 1) 0 0 [.ref 150] μ (some (.int r)) μR) (k_X6_readSum : hm_M → Option (Int32 × hm_M)) (hk_X6_readSum : ∀ {r : Int32} {μR : hm_M}  (hT : ν.1 = some 156) (μ : hm_M), hm_LL ν μ → k_X6_readSum μ = some (r, μR) → hm_CC (hm_LL ν) m_X6_readSum (fr - 1) 0 0 [.ref 150] μ (some (.int r)) μR) (k_X6_readTerm : hm_M → Option (Int32 × hm_M)) (hk_X6_readTerm : ∀ {r : Int32} {μR : hm_M}  (hT : ν.1 = some 156) (μ : hm_M), hm_LL ν μ → k_X6_readTerm μ = some (r, μR) → hm_CC (hm_LL ν) m_X6_readTerm (fr - 1) 0 0 [.ref 150] μ (some (.int r)) μR)  (c11 : Int32 → hm_M → Option (Int32 × hm_M)) (e79 : hm_M → Option (Int32 × hm_M)) (hc11 : ∀ (y1 : Int32)  (μ1 : hm_M), hm_LL ν μ1 → c11 y1 μ1 = some (r, μR) → hm_T (hm_LL ν) m_X6_readSum fr 0 0 (some (.int r)) μR 11 [some (.ref 150), some (.int y1), none] [] μ1) (he79 : ∀   (μ1 : hm_M), hm_LL ν μ1 → e79 μ1 = some (r, μR) → hm_T (hm_LL ν) m_X6_readSum fr 0 0 (some (.int r)) μR 79 [none, none, none] [] μ1) (hT : ν.1 = some 156) (y1 : Int32) (μ1 : hm_M) (hL : hm_LL ν μ1) (h : f_X6_readSum_J36 k_X6_readPart k_X6_readSum k_X6_readTerm c11 e79 y1 μ1 = some (r, μR)) : hm_T (hm_LL ν) m_X6_readSum fr 0 0 (some (.int r)) μR 36 [some (.ref 150), some (.int y1), none] [] μ1 := by
  unfold f_X6_readSum_J36 at h
  refine tr_aload_n (pc' := 37) (show decode cX6_readSum 36 = .ok (.aload_n 0, 1) by decide +kernel) rfl rfl rfl ?_
  refine tr_bipush (pc' := 39) (v := (43 : Int32)) (show decode cX6_readSum 37 = .ok (.bipush 43, 2) by decide +kernel) rfl (by decide) ?_
  obtain ⟨x5, ex5, h⟩ := hm_bs h
  have cx5 := ok_X6_isSign (fr := fr - 1) (ν := ν) (by omega) (43 : Int32) hT μ1 hL ex5
  refine tp_callV (pc' := 42) (As := [.int (43 : Int32)]) (fr1 := fr - 1) (ci := 6) okm_X6_isSign lk_HandRing_Reader_63 (show decode cX6_readSum 39 = .ok (.invokevirtual 63, 3) by decide +kernel) rfl rfl rfl (by decide) (la_o hL (by decide) rfl) rfl rfl (Nat.le_of_ble_eq_true rfl) (by omega) cx5 (st' := [.int x5]) rfl ?_
  rcases hm_is h with ⟨hc, h⟩ | ⟨hc, h⟩
  · refine tr_if_eq_t (tgt := 49) hc (show decode cX6_readSum 42 = .ok (.ifCond .eq 7, 3) by decide +kernel) (by decide) ?_
    refine tr_iconst (pc' := 50) (v := (3 : Int32)) (show decode cX6_readSum 49 = .ok (.iconst 3, 1) by decide +kernel) rfl (by decide) ?_
    exact ok_X6_readSum_J50 hfr k_X6_readPart hk_X6_readPart k_X6_readSum hk_X6_readSum k_X6_readTerm hk_X6_readTerm c11 e79 hc11 he79 hT (3 : Int32) y1 μ1 hL h
  · refine tr_if_eq_f (tgt := 49) (pc' := 45) hc (show decode cX6_readSum 42 = .ok (.ifCond .eq 7, 3) by decide +kernel) (by decide) rfl ?_
    refine tr_iconst (pc' := 46) (v := (2 : Int32)) (show decode cX6_readSum 45 = .ok (.iconst 2, 1) by decide +kernel) rfl (by decide) ?_
    refine tr_goto (tgt := 50) (show decode cX6_readSum 46 = .ok (.goto 4, 3) by decide +kernel) rfl ?_
    exact ok_X6_readSum_J50 hfr k_X6_readPart hk_X6_readPart k_X6_readSum hk_X6_readSum k_X6_readTerm hk_X6_readTerm c11 e79 hc11 he79 hT (2 : Int32) y1 μ1 hL h
def f_X6_readSum_L11 (k_X6_readPart : hm_M → Option (Int32 × hm_M)) (k_X6_readSum : hm_M → Option (Int32 × hm_M)) (k_X6_readTerm : hm_M → Option (Int32 × hm_M)) (e79 : hm_M → Option (Int32 × hm_M)) : Nat → Int32 → hm_M → Option (Int32 × hm_M)
  | 0, _, _ => none
  | n + 1, y1, μ1 => (if (400 : Int32) ≤ y1 then
  e79 μ1
  else
  Option.bind (f_X6_isSign (43 : Int32) μ1) fun x4 =>
  (if x4 = 0 then
  Option.bind (f_X6_isSign (45 : Int32) μ1) fun x12 =>
  (if x12 = 0 then
  e79 μ1
  else
  f_X6_readSum_J36 k_X6_readPart k_X6_readSum k_X6_readTerm (f_X6_readSum_L11 k_X6_readPart k_X6_readSum k_X6_readTerm e79 n) e79 y1 μ1)
  else
  f_X6_readSum_J36 k_X6_readPart k_X6_readSum k_X6_readTerm (f_X6_readSum_L11 k_X6_readPart k_X6_readSum k_X6_readTerm e79 n) e79 y1 μ1))
theorem ok_X6_readSum_L11 {fr : Nat} (hfr : 3 ≤ fr) {ν : hm_N} {r : Int32} {μR : hm_M} (k_X6_readPart : hm_M → Option (Int32 × hm_M)) (hk_X6_readPart : ∀ {r : Int32} {μR : hm_M}  (hT : ν.1 = some 156) (μ : hm_M), hm_LL ν μ → k_X6_readPart μ = some (r, μR) → hm_CC (hm_LL ν) m_X6_readPart (fr - 1) 0 0 [.ref 150] μ (some (.int r)) μR) (k_X6_readSum : hm_M → Option (Int32 × hm_M)) (hk_X6_readSum : ∀ {r : Int32} {μR : hm_M}  (hT : ν.1 = some 156) (μ : hm_M), hm_LL ν μ → k_X6_readSum μ = some (r, μR) → hm_CC (hm_LL ν) m_X6_readSum (fr - 1) 0 0 [.ref 150] μ (some (.int r)) μR) (k_X6_readTerm : hm_M → Option (Int32 × hm_M)) (hk_X6_readTerm : ∀ {r : Int32} {μR : hm_M}  (hT : ν.1 = some 156) (μ : hm_M), hm_LL ν μ → k_X6_readTerm μ = some (r, μR) → hm_CC (hm_LL ν) m_X6_readTerm (fr - 1) 0 0 [.ref 150] μ (some (.int r)) μR)  (e79 : hm_M → Option (Int32 × hm_M))  (he79 : ∀   (μ1 : hm_M), hm_LL ν μ1 → e79 μ1 = some (r, μR) → hm_T (hm_LL ν) m_X6_readSum fr 0 0 (some (.int r)) μR 79 [none, none, none] [] μ1) (hT : ν.1 = some 156) : ∀ (n : Nat) (y1 : Int32)  (μ1 : hm_M), hm_LL ν μ1 → f_X6_readSum_L11 k_X6_readPart k_X6_readSum k_X6_readTerm e79 n y1 μ1 = some (r, μR) → hm_T (hm_LL ν) m_X6_readSum fr 0 0 (some (.int r)) μR 11 [some (.ref 150), some (.int y1), none] [] μ1 := by
  intro n
  induction n with
  | zero =>
    intro y1 μ1 hL h
    unfold f_X6_readSum_L11 at h
    cases h
  | succ n ih =>
    intro y1 μ1 hL h
    unfold f_X6_readSum_L11 at h
    refine tr_iload_n (pc' := 12) (show decode cX6_readSum 11 = .ok (.iload_n 1, 1) by decide +kernel) rfl rfl rfl ?_
    refine tr_sipush (pc' := 15) (v := (400 : Int32)) (show decode cX6_readSum 12 = .ok (.sipush 400, 3) by decide +kernel) rfl (by decide) ?_
    rcases hm_is h with ⟨hc, h⟩ | ⟨hc, h⟩
    · refine tr_icmp_ge_t (tgt := 79) hc (show decode cX6_readSum 15 = .ok (.if_icmp .ge 64, 3) by decide +kernel) (by decide) ?_
      refine hm_fgt [false, false, false] (lv' := [none, none, none]) rfl ?_
      exact he79 μ1 hL h
    · refine tr_icmp_ge_f (tgt := 79) (pc' := 18) hc (show decode cX6_readSum 15 = .ok (.if_icmp .ge 64, 3) by decide +kernel) (by decide) rfl ?_
      refine tr_aload_n (pc' := 19) (show decode cX6_readSum 18 = .ok (.aload_n 0, 1) by decide +kernel) rfl rfl rfl ?_
      refine tr_bipush (pc' := 21) (v := (43 : Int32)) (show decode cX6_readSum 19 = .ok (.bipush 43, 2) by decide +kernel) rfl (by decide) ?_
      obtain ⟨x4, ex4, h⟩ := hm_bs h
      have cx4 := ok_X6_isSign (fr := fr - 1) (ν := ν) (by omega) (43 : Int32) hT μ1 hL ex4
      refine tp_callV (pc' := 24) (As := [.int (43 : Int32)]) (fr1 := fr - 1) (ci := 6) okm_X6_isSign lk_HandRing_Reader_63 (show decode cX6_readSum 21 = .ok (.invokevirtual 63, 3) by decide +kernel) rfl rfl rfl (by decide) (la_o hL (by decide) rfl) rfl rfl (Nat.le_of_ble_eq_true rfl) (by omega) cx4 (st' := [.int x4]) rfl ?_
      rcases hm_is h with ⟨hc, h⟩ | ⟨hc, h⟩
      · refine tr_if_ne_f (tgt := 36) (pc' := 27) hc (show decode cX6_readSum 24 = .ok (.ifCond .ne 12, 3) by decide +kernel) (by decide) rfl ?_
        refine tr_aload_n (pc' := 28) (show decode cX6_readSum 27 = .ok (.aload_n 0, 1) by decide +kernel) rfl rfl rfl ?_
        refine tr_bipush (pc' := 30) (v := (45 : Int32)) (show decode cX6_readSum 28 = .ok (.bipush 45, 2) by decide +kernel) rfl (by decide) ?_
        obtain ⟨x12, ex12, h⟩ := hm_bs h
        have cx12 := ok_X6_isSign (fr := fr - 1) (ν := ν) (by omega) (45 : Int32) hT μ1 hL ex12
        refine tp_callV (pc' := 33) (As := [.int (45 : Int32)]) (fr1 := fr - 1) (ci := 6) okm_X6_isSign lk_HandRing_Reader_63 (show decode cX6_readSum 30 = .ok (.invokevirtual 63, 3) by decide +kernel) rfl rfl rfl (by decide) (la_o hL (by decide) rfl) rfl rfl (Nat.le_of_ble_eq_true rfl) (by omega) cx12 (st' := [.int x12]) rfl ?_
        rcases hm_is h with ⟨hc, h⟩ | ⟨hc, h⟩
        · refine tr_if_eq_t (tgt := 79) hc (show decode cX6_readSum 33 = .ok (.ifCond .eq 46, 3) by decide +kernel) (by decide) ?_
          refine hm_fgt [false, false, false] (lv' := [none, none, none]) rfl ?_
          exact he79 μ1 hL h
        · refine tr_if_eq_f (tgt := 79) (pc' := 36) hc (show decode cX6_readSum 33 = .ok (.ifCond .eq 46, 3) by decide +kernel) (by decide) rfl ?_
          exact ok_X6_readSum_J36 hfr k_X6_readPart hk_X6_readPart k_X6_readSum hk_X6_readSum k_X6_readTerm hk_X6_readTerm (f_X6_readSum_L11 k_X6_readPart k_X6_readSum k_X6_readTerm e79 n) e79 ih he79 hT y1 μ1 hL h
      · refine tr_if_ne_t (tgt := 36) hc (show decode cX6_readSum 24 = .ok (.ifCond .ne 12, 3) by decide +kernel) (by decide) ?_
        exact ok_X6_readSum_J36 hfr k_X6_readPart hk_X6_readPart k_X6_readSum hk_X6_readSum k_X6_readTerm hk_X6_readTerm (f_X6_readSum_L11 k_X6_readPart k_X6_readSum k_X6_readTerm e79 n) e79 ih he79 hT y1 μ1 hL h
def f_X6_readSum (k_X6_readPart : hm_M → Option (Int32 × hm_M)) (k_X6_readSum : hm_M → Option (Int32 × hm_M)) (k_X6_readTerm : hm_M → Option (Int32 × hm_M)) (μ : hm_M) : Option (Int32 × hm_M) :=
  hm_b2 (k_X6_readTerm μ) fun x2 μ3 =>
  (if x2 = 0 then
  some ((0 : Int32), μ3)
  else
  f_X6_readSum_L11 k_X6_readPart k_X6_readSum k_X6_readTerm (fun μz13 => some ((1 : Int32), μz13)) hm_fu (0 : Int32) μ3)
set_option maxRecDepth 100000 in
theorem ok_X6_readSum {fr : Nat} (hfr : 3 ≤ fr) {ν : hm_N} {r : Int32} {μR : hm_M} (k_X6_readPart : hm_M → Option (Int32 × hm_M)) (hk_X6_readPart : ∀ {r : Int32} {μR : hm_M}  (hT : ν.1 = some 156) (μ : hm_M), hm_LL ν μ → k_X6_readPart μ = some (r, μR) → hm_CC (hm_LL ν) m_X6_readPart (fr - 1) 0 0 [.ref 150] μ (some (.int r)) μR) (k_X6_readSum : hm_M → Option (Int32 × hm_M)) (hk_X6_readSum : ∀ {r : Int32} {μR : hm_M}  (hT : ν.1 = some 156) (μ : hm_M), hm_LL ν μ → k_X6_readSum μ = some (r, μR) → hm_CC (hm_LL ν) m_X6_readSum (fr - 1) 0 0 [.ref 150] μ (some (.int r)) μR) (k_X6_readTerm : hm_M → Option (Int32 × hm_M)) (hk_X6_readTerm : ∀ {r : Int32} {μR : hm_M}  (hT : ν.1 = some 156) (μ : hm_M), hm_LL ν μ → k_X6_readTerm μ = some (r, μR) → hm_CC (hm_LL ν) m_X6_readTerm (fr - 1) 0 0 [.ref 150] μ (some (.int r)) μR)  (hT : ν.1 = some 156) (μ : hm_M) (hL : hm_LL ν μ) (h : f_X6_readSum k_X6_readPart k_X6_readSum k_X6_readTerm μ = some (r, μR)) : hm_CC (hm_LL ν) m_X6_readSum fr 0 0 [.ref 150] μ (some (.int r)) μR := by
  refine hm_enter (lv := [some (.ref 150), none, none]) (by decide) rfl (Nat.le_of_ble_eq_true rfl) ?_
  unfold f_X6_readSum at h
  refine tr_aload_n (pc' := 1) (show decode cX6_readSum 0 = .ok (.aload_n 0, 1) by decide +kernel) rfl rfl rfl ?_
  obtain ⟨x2, μ3, ex2, h⟩ := hm_b2s h
  have cx2 := hk_X6_readTerm hT μ hL ex2
  refine tp_callV (pc' := 4) (As := []) (fr1 := fr - 1) (ci := 6) okm_X6_readTerm lk_HandRing_Reader_143 (show decode cX6_readSum 1 = .ok (.invokevirtual 143, 3) by decide +kernel) rfl rfl rfl (by decide) (la_o hL (by decide) rfl) rfl rfl (Nat.le_of_ble_eq_true rfl) (by omega) cx2 (st' := [.int x2]) rfl ?_
  replace hL := cx2.1
  rcases hm_is h with ⟨hc, h⟩ | ⟨hc, h⟩
  · refine tr_if_ne_f (tgt := 9) (pc' := 7) hc (show decode cX6_readSum 4 = .ok (.ifCond .ne 5, 3) by decide +kernel) (by decide) rfl ?_
    refine tr_iconst (pc' := 8) (v := (0 : Int32)) (show decode cX6_readSum 7 = .ok (.iconst 0, 1) by decide +kernel) rfl (by decide) ?_
    cases h
    exact tr_zret rfl (by decide) (show decode cX6_readSum 8 = .ok (.ireturn, 1) by decide +kernel) hL
  · refine tr_if_ne_t (tgt := 9) hc (show decode cX6_readSum 4 = .ok (.ifCond .ne 5, 3) by decide +kernel) (by decide) ?_
    refine tr_iconst (pc' := 10) (v := (0 : Int32)) (show decode cX6_readSum 9 = .ok (.iconst 0, 1) by decide +kernel) rfl (by decide) ?_
    refine tr_istore_n (pc' := 11) (lv' := [some (.ref 150), some (.int (0 : Int32)), none]) (show decode cX6_readSum 10 = .ok (.istore_n 1, 1) by decide +kernel) rfl rfl (Nat.le_of_ble_eq_true rfl) rfl rfl ?_
    refine ok_X6_readSum_L11 hfr k_X6_readPart hk_X6_readPart k_X6_readSum hk_X6_readSum k_X6_readTerm hk_X6_readTerm _ ?_ hT _ (0 : Int32) μ3 hL h
    · intro μz13 hL h
      refine tr_iconst (pc' := 80) (v := (1 : Int32)) (show decode cX6_readSum 79 = .ok (.iconst 1, 1) by decide +kernel) rfl (by decide) ?_
      cases h
      exact tr_zret rfl (by decide) (show decode cX6_readSum 80 = .ok (.ireturn, 1) by decide +kernel) hL
def f_X6_readTerm_J73 (k_X6_readPart : hm_M → Option (Int32 × hm_M)) (k_X6_readSum : hm_M → Option (Int32 × hm_M)) (k_X6_readTerm : hm_M → Option (Int32 × hm_M)) (c11 : Int32 → hm_M → Option (Int32 × hm_M)) (e102 : hm_M → Option (Int32 × hm_M)) (s0 : Int32) (y1 : Int32) (μ1 : hm_M) : Option (Int32 × hm_M) :=
  Option.bind (f_X6_goOn μ1) fun μ8 =>
  hm_b2 (k_X6_readPart μ8) fun x9 μ10 =>
  (if x9 = 0 then
  some ((0 : Int32), μ10)
  else
  Option.bind (f_X5_emit 151 s0 (0 : Int32) μ10) fun μ12 =>
  c11 (y1 + (1 : Int32)) μ12)
theorem ok_X6_readTerm_J73 {fr : Nat} (hfr : 3 ≤ fr) {ν : hm_N} {r : Int32} {μR : hm_M} (k_X6_readPart : hm_M → Option (Int32 × hm_M)) (hk_X6_readPart : ∀ {r : Int32} {μR : hm_M}  (hT : ν.1 = some 156) (μ : hm_M), hm_LL ν μ → k_X6_readPart μ = some (r, μR) → hm_CC (hm_LL ν) m_X6_readPart (fr - 1) 0 0 [.ref 150] μ (some (.int r)) μR) (k_X6_readSum : hm_M → Option (Int32 × hm_M)) (hk_X6_readSum : ∀ {r : Int32} {μR : hm_M}  (hT : ν.1 = some 156) (μ : hm_M), hm_LL ν μ → k_X6_readSum μ = some (r, μR) → hm_CC (hm_LL ν) m_X6_readSum (fr - 1) 0 0 [.ref 150] μ (some (.int r)) μR) (k_X6_readTerm : hm_M → Option (Int32 × hm_M)) (hk_X6_readTerm : ∀ {r : Int32} {μR : hm_M}  (hT : ν.1 = some 156) (μ : hm_M), hm_LL ν μ → k_X6_readTerm μ = some (r, μR) → hm_CC (hm_LL ν) m_X6_readTerm (fr - 1) 0 0 [.ref 150] μ (some (.int r)) μR)  (c11 : Int32 → hm_M → Option (Int32 × hm_M)) (e102 : hm_M → Option (Int32 × hm_M)) (hc11 : ∀ (y1 : Int32)  (μ1 : hm_M), hm_LL ν μ1 → c11 y1 μ1 = some (r, μR) → hm_T (hm_LL ν) m_X6_readTerm fr 0 0 (some (.int r)) μR 11 [some (.ref 150), some (.int y1), none] [] μ1) (he102 : ∀   (μ1 : hm_M), hm_LL ν μ1 → e102 μ1 = some (r, μR) → hm_T (hm_LL ν) m_X6_readTerm fr 0 0 (some (.int r)) μR 102 [none, none, none] [] μ1) (hT : ν.1 = some 156) (s0 : Int32) (y1 : Int32) (μ1 : hm_M) (hL : hm_LL ν μ1) (h : f_X6_readTerm_J73 k_X6_readPart k_X6_readSum k_X6_readTerm c11 e102 s0 y1 μ1 = some (r, μR)) : hm_T (hm_LL ν) m_X6_readTerm fr 0 0 (some (.int r)) μR 73 [some (.ref 150), some (.int y1), none] [.int s0] μ1 := by
  unfold f_X6_readTerm_J73 at h
  refine tr_istore_n (pc' := 74) (lv' := [some (.ref 150), some (.int y1), some (.int s0)]) (show decode cX6_readTerm 73 = .ok (.istore_n 2, 1) by decide +kernel) rfl rfl (Nat.le_of_ble_eq_true rfl) rfl rfl ?_
  refine tr_aload_n (pc' := 75) (show decode cX6_readTerm 74 = .ok (.aload_n 0, 1) by decide +kernel) rfl rfl rfl ?_
  obtain ⟨μ8, ex7, h⟩ := hm_bs h
  have cx7 := ok_X6_goOn (fr := fr - 1) (ν := ν) (by omega) hT μ1 hL ex7
  refine tp_callV (pc' := 78) (As := []) (fr1 := fr - 1) (ci := 6) okm_X6_goOn lk_HandRing_Reader_50 (show decode cX6_readTerm 75 = .ok (.invokevirtual 50, 3) by decide +kernel) rfl rfl rfl (by decide) (la_o hL (by decide) rfl) rfl rfl (Nat.le_of_ble_eq_true rfl) (by omega) cx7 (st' := []) rfl ?_
  replace hL := cx7.1
  refine tr_aload_n (pc' := 79) (show decode cX6_readTerm 78 = .ok (.aload_n 0, 1) by decide +kernel) rfl rfl rfl ?_
  obtain ⟨x9, μ10, ex9, h⟩ := hm_b2s h
  have cx9 := hk_X6_readPart hT μ8 hL ex9
  refine tp_callV (pc' := 82) (As := []) (fr1 := fr - 1) (ci := 6) okm_X6_readPart lk_HandRing_Reader_146 (show decode cX6_readTerm 79 = .ok (.invokevirtual 146, 3) by decide +kernel) rfl rfl rfl (by decide) (la_o hL (by decide) rfl) rfl rfl (Nat.le_of_ble_eq_true rfl) (by omega) cx9 (st' := [.int x9]) rfl ?_
  replace hL := cx9.1
  rcases hm_is h with ⟨hc, h⟩ | ⟨hc, h⟩
  · refine tr_if_ne_f (tgt := 87) (pc' := 85) hc (show decode cX6_readTerm 82 = .ok (.ifCond .ne 5, 3) by decide +kernel) (by decide) rfl ?_
    refine tr_iconst (pc' := 86) (v := (0 : Int32)) (show decode cX6_readTerm 85 = .ok (.iconst 0, 1) by decide +kernel) rfl (by decide) ?_
    cases h
    exact tr_zret rfl (by decide) (show decode cX6_readTerm 86 = .ok (.ireturn, 1) by decide +kernel) hL
  · refine tr_if_ne_t (tgt := 87) hc (show decode cX6_readTerm 82 = .ok (.ifCond .ne 5, 3) by decide +kernel) (by decide) ?_
    refine tr_aload_n (pc' := 88) (show decode cX6_readTerm 87 = .ok (.aload_n 0, 1) by decide +kernel) rfl rfl rfl ?_
    refine tr_getR (pc' := 91) fl_HandRing_Reader_14 (show decode cX6_readTerm 88 = .ok (.getfield 14, 3) by decide +kernel) rfl (la_o hL (by decide) rfl) (la_r hL 95 rfl) ?_
    refine tr_iload_n (pc' := 92) (show decode cX6_readTerm 91 = .ok (.iload_n 2, 1) by decide +kernel) rfl rfl rfl ?_
    refine tr_iconst (pc' := 93) (v := (0 : Int32)) (show decode cX6_readTerm 92 = .ok (.iconst 0, 1) by decide +kernel) rfl (by decide) ?_
    obtain ⟨μ12, ex11, h⟩ := hm_bs h
    have cx11 := ok_X5_emit (fr := fr - 1) (ν := ν) (by omega) 151 s0 (0 : Int32) (la_pg151 hL) μ10 hL ex11
    refine tp_callV (pc' := 96) (As := [.int s0, .int (0 : Int32)]) (fr1 := fr - 1) (ci := 5) okm_X5_emit lk_HandRing_Reader_119 (show decode cX6_readTerm 93 = .ok (.invokevirtual 119, 3) by decide +kernel) rfl rfl rfl (by decide) (la_o hL (by decide) rfl) rfl rfl (Nat.le_of_ble_eq_true rfl) (by omega) cx11 (st' := []) rfl ?_
    replace hL := cx11.1
    refine tr_iinc (pc' := 99) (v := y1 + (1 : Int32)) (lv' := [some (.ref 150), some (.int (y1 + (1 : Int32))), some (.int s0)]) (show decode cX6_readTerm 96 = .ok (.iinc 1 1, 3) by decide +kernel) rfl rfl rfl (Nat.le_of_ble_eq_true rfl) rfl rfl ?_
    refine tr_goto (tgt := 11) (show decode cX6_readTerm 99 = .ok (.goto (-88), 3) by decide +kernel) rfl ?_
    refine hm_fgt [true, true, false] (lv' := [some (.ref 150), some (.int (y1 + (1 : Int32))), none]) rfl ?_
    exact hc11 (y1 + (1 : Int32)) μ12 hL h
def f_X6_readTerm_J45 (k_X6_readPart : hm_M → Option (Int32 × hm_M)) (k_X6_readSum : hm_M → Option (Int32 × hm_M)) (k_X6_readTerm : hm_M → Option (Int32 × hm_M)) (c11 : Int32 → hm_M → Option (Int32 × hm_M)) (e102 : hm_M → Option (Int32 × hm_M)) (y1 : Int32) (μ1 : hm_M) : Option (Int32 × hm_M) :=
  Option.bind (f_X6_isSign (42 : Int32) μ1) fun x5 =>
  (if x5 = 0 then
  Option.bind (f_X6_isSign (47 : Int32) μ1) fun x6 =>
  (if x6 = 0 then
  f_X6_readTerm_J73 k_X6_readPart k_X6_readSum k_X6_readTerm c11 e102 (6 : Int32) y1 μ1
  else
  f_X6_readTerm_J73 k_X6_readPart k_X6_readSum k_X6_readTerm c11 e102 (5 : Int32) y1 μ1)
  else
  f_X6_readTerm_J73 k_X6_readPart k_X6_readSum k_X6_readTerm c11 e102 (4 : Int32) y1 μ1)
theorem ok_X6_readTerm_J45 {fr : Nat} (hfr : 3 ≤ fr) {ν : hm_N} {r : Int32} {μR : hm_M} (k_X6_readPart : hm_M → Option (Int32 × hm_M)) (hk_X6_readPart : ∀ {r : Int32} {μR : hm_M}  (hT : ν.1 = some 156) (μ : hm_M), hm_LL ν μ → k_X6_readPart μ = some (r, μR) → hm_CC (hm_LL ν) m_X6_readPart (fr - 1) 0 0 [.ref 150] μ (some (.int r)) μR) (k_X6_readSum : hm_M → Option (Int32 × hm_M)) (hk_X6_readSum : ∀ {r : Int32} {μR : hm_M}  (hT : ν.1 = some 156) (μ : hm_M), hm_LL ν μ → k_X6_readSum μ = some (r, μR) → hm_CC (hm_LL ν) m_X6_readSum (fr - 1) 0 0 [.ref 150] μ (some (.int r)) μR) (k_X6_readTerm : hm_M → Option (Int32 × hm_M)) (hk_X6_readTerm : ∀ {r : Int32} {μR : hm_M}  (hT : ν.1 = some 156) (μ : hm_M), hm_LL ν μ → k_X6_readTerm μ = some (r, μR) → hm_CC (hm_LL ν) m_X6_readTerm (fr - 1) 0 0 [.ref 150] μ (some (.int r)) μR)  (c11 : Int32 → hm_M → Option (Int32 × hm_M)) (e102 : hm_M → Option (Int32 × hm_M)) (hc11 : ∀ (y1 : Int32)  (μ1 : hm_M), hm_LL ν μ1 → c11 y1 μ1 = some (r, μR) → hm_T (hm_LL ν) m_X6_readTerm fr 0 0 (some (.int r)) μR 11 [some (.ref 150), some (.int y1), none] [] μ1) (he102 : ∀   (μ1 : hm_M), hm_LL ν μ1 → e102 μ1 = some (r, μR) → hm_T (hm_LL ν) m_X6_readTerm fr 0 0 (some (.int r)) μR 102 [none, none, none] [] μ1) (hT : ν.1 = some 156) (y1 : Int32) (μ1 : hm_M) (hL : hm_LL ν μ1) (h : f_X6_readTerm_J45 k_X6_readPart k_X6_readSum k_X6_readTerm c11 e102 y1 μ1 = some (r, μR)) : hm_T (hm_LL ν) m_X6_readTerm fr 0 0 (some (.int r)) μR 45 [some (.ref 150), some (.int y1), none] [] μ1 := by
  unfold f_X6_readTerm_J45 at h
  refine tr_aload_n (pc' := 46) (show decode cX6_readTerm 45 = .ok (.aload_n 0, 1) by decide +kernel) rfl rfl rfl ?_
  refine tr_bipush (pc' := 48) (v := (42 : Int32)) (show decode cX6_readTerm 46 = .ok (.bipush 42, 2) by decide +kernel) rfl (by decide) ?_
  obtain ⟨x5, ex5, h⟩ := hm_bs h
  have cx5 := ok_X6_isSign (fr := fr - 1) (ν := ν) (by omega) (42 : Int32) hT μ1 hL ex5
  refine tp_callV (pc' := 51) (As := [.int (42 : Int32)]) (fr1 := fr - 1) (ci := 6) okm_X6_isSign lk_HandRing_Reader_63 (show decode cX6_readTerm 48 = .ok (.invokevirtual 63, 3) by decide +kernel) rfl rfl rfl (by decide) (la_o hL (by decide) rfl) rfl rfl (Nat.le_of_ble_eq_true rfl) (by omega) cx5 (st' := [.int x5]) rfl ?_
  rcases hm_is h with ⟨hc, h⟩ | ⟨hc, h⟩
  · refine tr_if_eq_t (tgt := 58) hc (show decode cX6_readTerm 51 = .ok (.ifCond .eq 7, 3) by decide +kernel) (by decide) ?_
    refine tr_aload_n (pc' := 59) (show decode cX6_readTerm 58 = .ok (.aload_n 0, 1) by decide +kernel) rfl rfl rfl ?_
    refine tr_bipush (pc' := 61) (v := (47 : Int32)) (show decode cX6_readTerm 59 = .ok (.bipush 47, 2) by decide +kernel) rfl (by decide) ?_
    obtain ⟨x6, ex6, h⟩ := hm_bs h
    have cx6 := ok_X6_isSign (fr := fr - 1) (ν := ν) (by omega) (47 : Int32) hT μ1 hL ex6
    refine tp_callV (pc' := 64) (As := [.int (47 : Int32)]) (fr1 := fr - 1) (ci := 6) okm_X6_isSign lk_HandRing_Reader_63 (show decode cX6_readTerm 61 = .ok (.invokevirtual 63, 3) by decide +kernel) rfl rfl rfl (by decide) (la_o hL (by decide) rfl) rfl rfl (Nat.le_of_ble_eq_true rfl) (by omega) cx6 (st' := [.int x6]) rfl ?_
    rcases hm_is h with ⟨hc, h⟩ | ⟨hc, h⟩
    · refine tr_if_eq_t (tgt := 71) hc (show decode cX6_readTerm 64 = .ok (.ifCond .eq 7, 3) by decide +kernel) (by decide) ?_
      refine tr_bipush (pc' := 73) (v := (6 : Int32)) (show decode cX6_readTerm 71 = .ok (.bipush 6, 2) by decide +kernel) rfl (by decide) ?_
      exact ok_X6_readTerm_J73 hfr k_X6_readPart hk_X6_readPart k_X6_readSum hk_X6_readSum k_X6_readTerm hk_X6_readTerm c11 e102 hc11 he102 hT (6 : Int32) y1 μ1 hL h
    · refine tr_if_eq_f (tgt := 71) (pc' := 67) hc (show decode cX6_readTerm 64 = .ok (.ifCond .eq 7, 3) by decide +kernel) (by decide) rfl ?_
      refine tr_iconst (pc' := 68) (v := (5 : Int32)) (show decode cX6_readTerm 67 = .ok (.iconst 5, 1) by decide +kernel) rfl (by decide) ?_
      refine tr_goto (tgt := 73) (show decode cX6_readTerm 68 = .ok (.goto 5, 3) by decide +kernel) rfl ?_
      exact ok_X6_readTerm_J73 hfr k_X6_readPart hk_X6_readPart k_X6_readSum hk_X6_readSum k_X6_readTerm hk_X6_readTerm c11 e102 hc11 he102 hT (5 : Int32) y1 μ1 hL h
  · refine tr_if_eq_f (tgt := 58) (pc' := 54) hc (show decode cX6_readTerm 51 = .ok (.ifCond .eq 7, 3) by decide +kernel) (by decide) rfl ?_
    refine tr_iconst (pc' := 55) (v := (4 : Int32)) (show decode cX6_readTerm 54 = .ok (.iconst 4, 1) by decide +kernel) rfl (by decide) ?_
    refine tr_goto (tgt := 73) (show decode cX6_readTerm 55 = .ok (.goto 18, 3) by decide +kernel) rfl ?_
    exact ok_X6_readTerm_J73 hfr k_X6_readPart hk_X6_readPart k_X6_readSum hk_X6_readSum k_X6_readTerm hk_X6_readTerm c11 e102 hc11 he102 hT (4 : Int32) y1 μ1 hL h
def f_X6_readTerm_L11 (k_X6_readPart : hm_M → Option (Int32 × hm_M)) (k_X6_readSum : hm_M → Option (Int32 × hm_M)) (k_X6_readTerm : hm_M → Option (Int32 × hm_M)) (e102 : hm_M → Option (Int32 × hm_M)) : Nat → Int32 → hm_M → Option (Int32 × hm_M)
  | 0, _, _ => none
  | n + 1, y1, μ1 => (if (400 : Int32) ≤ y1 then
  e102 μ1
  else
  Option.bind (f_X6_isSign (42 : Int32) μ1) fun x4 =>
  (if x4 = 0 then
  Option.bind (f_X6_isSign (47 : Int32) μ1) fun x13 =>
  (if x13 = 0 then
  Option.bind (f_X6_isSign (37 : Int32) μ1) fun x14 =>
  (if x14 = 0 then
  e102 μ1
  else
  f_X6_readTerm_J45 k_X6_readPart k_X6_readSum k_X6_readTerm (f_X6_readTerm_L11 k_X6_readPart k_X6_readSum k_X6_readTerm e102 n) e102 y1 μ1)
  else
  f_X6_readTerm_J45 k_X6_readPart k_X6_readSum k_X6_readTerm (f_X6_readTerm_L11 k_X6_readPart k_X6_readSum k_X6_readTerm e102 n) e102 y1 μ1)
  else
  f_X6_readTerm_J45 k_X6_readPart k_X6_readSum k_X6_readTerm (f_X6_readTerm_L11 k_X6_readPart k_X6_readSum k_X6_readTerm e102 n) e102 y1 μ1))
theorem ok_X6_readTerm_L11 {fr : Nat} (hfr : 3 ≤ fr) {ν : hm_N} {r : Int32} {μR : hm_M} (k_X6_readPart : hm_M → Option (Int32 × hm_M)) (hk_X6_readPart : ∀ {r : Int32} {μR : hm_M}  (hT : ν.1 = some 156) (μ : hm_M), hm_LL ν μ → k_X6_readPart μ = some (r, μR) → hm_CC (hm_LL ν) m_X6_readPart (fr - 1) 0 0 [.ref 150] μ (some (.int r)) μR) (k_X6_readSum : hm_M → Option (Int32 × hm_M)) (hk_X6_readSum : ∀ {r : Int32} {μR : hm_M}  (hT : ν.1 = some 156) (μ : hm_M), hm_LL ν μ → k_X6_readSum μ = some (r, μR) → hm_CC (hm_LL ν) m_X6_readSum (fr - 1) 0 0 [.ref 150] μ (some (.int r)) μR) (k_X6_readTerm : hm_M → Option (Int32 × hm_M)) (hk_X6_readTerm : ∀ {r : Int32} {μR : hm_M}  (hT : ν.1 = some 156) (μ : hm_M), hm_LL ν μ → k_X6_readTerm μ = some (r, μR) → hm_CC (hm_LL ν) m_X6_readTerm (fr - 1) 0 0 [.ref 150] μ (some (.int r)) μR)  (e102 : hm_M → Option (Int32 × hm_M))  (he102 : ∀   (μ1 : hm_M), hm_LL ν μ1 → e102 μ1 = some (r, μR) → hm_T (hm_LL ν) m_X6_readTerm fr 0 0 (some (.int r)) μR 102 [none, none, none] [] μ1) (hT : ν.1 = some 156) : ∀ (n : Nat) (y1 : Int32)  (μ1 : hm_M), hm_LL ν μ1 → f_X6_readTerm_L11 k_X6_readPart k_X6_readSum k_X6_readTerm e102 n y1 μ1 = some (r, μR) → hm_T (hm_LL ν) m_X6_readTerm fr 0 0 (some (.int r)) μR 11 [some (.ref 150), some (.int y1), none] [] μ1 := by
  intro n
  induction n with
  | zero =>
    intro y1 μ1 hL h
    unfold f_X6_readTerm_L11 at h
    cases h
  | succ n ih =>
    intro y1 μ1 hL h
    unfold f_X6_readTerm_L11 at h
    refine tr_iload_n (pc' := 12) (show decode cX6_readTerm 11 = .ok (.iload_n 1, 1) by decide +kernel) rfl rfl rfl ?_
    refine tr_sipush (pc' := 15) (v := (400 : Int32)) (show decode cX6_readTerm 12 = .ok (.sipush 400, 3) by decide +kernel) rfl (by decide) ?_
    rcases hm_is h with ⟨hc, h⟩ | ⟨hc, h⟩
    · refine tr_icmp_ge_t (tgt := 102) hc (show decode cX6_readTerm 15 = .ok (.if_icmp .ge 87, 3) by decide +kernel) (by decide) ?_
      refine hm_fgt [false, false, false] (lv' := [none, none, none]) rfl ?_
      exact he102 μ1 hL h
    · refine tr_icmp_ge_f (tgt := 102) (pc' := 18) hc (show decode cX6_readTerm 15 = .ok (.if_icmp .ge 87, 3) by decide +kernel) (by decide) rfl ?_
      refine tr_aload_n (pc' := 19) (show decode cX6_readTerm 18 = .ok (.aload_n 0, 1) by decide +kernel) rfl rfl rfl ?_
      refine tr_bipush (pc' := 21) (v := (42 : Int32)) (show decode cX6_readTerm 19 = .ok (.bipush 42, 2) by decide +kernel) rfl (by decide) ?_
      obtain ⟨x4, ex4, h⟩ := hm_bs h
      have cx4 := ok_X6_isSign (fr := fr - 1) (ν := ν) (by omega) (42 : Int32) hT μ1 hL ex4
      refine tp_callV (pc' := 24) (As := [.int (42 : Int32)]) (fr1 := fr - 1) (ci := 6) okm_X6_isSign lk_HandRing_Reader_63 (show decode cX6_readTerm 21 = .ok (.invokevirtual 63, 3) by decide +kernel) rfl rfl rfl (by decide) (la_o hL (by decide) rfl) rfl rfl (Nat.le_of_ble_eq_true rfl) (by omega) cx4 (st' := [.int x4]) rfl ?_
      rcases hm_is h with ⟨hc, h⟩ | ⟨hc, h⟩
      · refine tr_if_ne_f (tgt := 45) (pc' := 27) hc (show decode cX6_readTerm 24 = .ok (.ifCond .ne 21, 3) by decide +kernel) (by decide) rfl ?_
        refine tr_aload_n (pc' := 28) (show decode cX6_readTerm 27 = .ok (.aload_n 0, 1) by decide +kernel) rfl rfl rfl ?_
        refine tr_bipush (pc' := 30) (v := (47 : Int32)) (show decode cX6_readTerm 28 = .ok (.bipush 47, 2) by decide +kernel) rfl (by decide) ?_
        obtain ⟨x13, ex13, h⟩ := hm_bs h
        have cx13 := ok_X6_isSign (fr := fr - 1) (ν := ν) (by omega) (47 : Int32) hT μ1 hL ex13
        refine tp_callV (pc' := 33) (As := [.int (47 : Int32)]) (fr1 := fr - 1) (ci := 6) okm_X6_isSign lk_HandRing_Reader_63 (show decode cX6_readTerm 30 = .ok (.invokevirtual 63, 3) by decide +kernel) rfl rfl rfl (by decide) (la_o hL (by decide) rfl) rfl rfl (Nat.le_of_ble_eq_true rfl) (by omega) cx13 (st' := [.int x13]) rfl ?_
        rcases hm_is h with ⟨hc, h⟩ | ⟨hc, h⟩
        · refine tr_if_ne_f (tgt := 45) (pc' := 36) hc (show decode cX6_readTerm 33 = .ok (.ifCond .ne 12, 3) by decide +kernel) (by decide) rfl ?_
          refine tr_aload_n (pc' := 37) (show decode cX6_readTerm 36 = .ok (.aload_n 0, 1) by decide +kernel) rfl rfl rfl ?_
          refine tr_bipush (pc' := 39) (v := (37 : Int32)) (show decode cX6_readTerm 37 = .ok (.bipush 37, 2) by decide +kernel) rfl (by decide) ?_
          obtain ⟨x14, ex14, h⟩ := hm_bs h
          have cx14 := ok_X6_isSign (fr := fr - 1) (ν := ν) (by omega) (37 : Int32) hT μ1 hL ex14
          refine tp_callV (pc' := 42) (As := [.int (37 : Int32)]) (fr1 := fr - 1) (ci := 6) okm_X6_isSign lk_HandRing_Reader_63 (show decode cX6_readTerm 39 = .ok (.invokevirtual 63, 3) by decide +kernel) rfl rfl rfl (by decide) (la_o hL (by decide) rfl) rfl rfl (Nat.le_of_ble_eq_true rfl) (by omega) cx14 (st' := [.int x14]) rfl ?_
          rcases hm_is h with ⟨hc, h⟩ | ⟨hc, h⟩
          · refine tr_if_eq_t (tgt := 102) hc (show decode cX6_readTerm 42 = .ok (.ifCond .eq 60, 3) by decide +kernel) (by decide) ?_
            refine hm_fgt [false, false, false] (lv' := [none, none, none]) rfl ?_
            exact he102 μ1 hL h
          · refine tr_if_eq_f (tgt := 102) (pc' := 45) hc (show decode cX6_readTerm 42 = .ok (.ifCond .eq 60, 3) by decide +kernel) (by decide) rfl ?_
            exact ok_X6_readTerm_J45 hfr k_X6_readPart hk_X6_readPart k_X6_readSum hk_X6_readSum k_X6_readTerm hk_X6_readTerm (f_X6_readTerm_L11 k_X6_readPart k_X6_readSum k_X6_readTerm e102 n) e102 ih he102 hT y1 μ1 hL h
        · refine tr_if_ne_t (tgt := 45) hc (show decode cX6_readTerm 33 = .ok (.ifCond .ne 12, 3) by decide +kernel) (by decide) ?_
          exact ok_X6_readTerm_J45 hfr k_X6_readPart hk_X6_readPart k_X6_readSum hk_X6_readSum k_X6_readTerm hk_X6_readTerm (f_X6_readTerm_L11 k_X6_readPart k_X6_readSum k_X6_readTerm e102 n) e102 ih he102 hT y1 μ1 hL h
      · refine tr_if_ne_t (tgt := 45) hc (show decode cX6_readTerm 24 = .ok (.ifCond .ne 21, 3) by decide +kernel) (by decide) ?_
        exact ok_X6_readTerm_J45 hfr k_X6_readPart hk_X6_readPart k_X6_readSum hk_X6_readSum k_X6_readTerm hk_X6_readTerm (f_X6_readTerm_L11 k_X6_readPart k_X6_readSum k_X6_readTerm e102 n) e102 ih he102 hT y1 μ1 hL h
def f_X6_readTerm (k_X6_readPart : hm_M → Option (Int32 × hm_M)) (k_X6_readSum : hm_M → Option (Int32 × hm_M)) (k_X6_readTerm : hm_M → Option (Int32 × hm_M)) (μ : hm_M) : Option (Int32 × hm_M) :=
  hm_b2 (k_X6_readPart μ) fun x2 μ3 =>
  (if x2 = 0 then
  some ((0 : Int32), μ3)
  else
  f_X6_readTerm_L11 k_X6_readPart k_X6_readSum k_X6_readTerm (fun μz15 => some ((1 : Int32), μz15)) hm_fu (0 : Int32) μ3)
set_option maxRecDepth 100000 in
theorem ok_X6_readTerm {fr : Nat} (hfr : 3 ≤ fr) {ν : hm_N} {r : Int32} {μR : hm_M} (k_X6_readPart : hm_M → Option (Int32 × hm_M)) (hk_X6_readPart : ∀ {r : Int32} {μR : hm_M}  (hT : ν.1 = some 156) (μ : hm_M), hm_LL ν μ → k_X6_readPart μ = some (r, μR) → hm_CC (hm_LL ν) m_X6_readPart (fr - 1) 0 0 [.ref 150] μ (some (.int r)) μR) (k_X6_readSum : hm_M → Option (Int32 × hm_M)) (hk_X6_readSum : ∀ {r : Int32} {μR : hm_M}  (hT : ν.1 = some 156) (μ : hm_M), hm_LL ν μ → k_X6_readSum μ = some (r, μR) → hm_CC (hm_LL ν) m_X6_readSum (fr - 1) 0 0 [.ref 150] μ (some (.int r)) μR) (k_X6_readTerm : hm_M → Option (Int32 × hm_M)) (hk_X6_readTerm : ∀ {r : Int32} {μR : hm_M}  (hT : ν.1 = some 156) (μ : hm_M), hm_LL ν μ → k_X6_readTerm μ = some (r, μR) → hm_CC (hm_LL ν) m_X6_readTerm (fr - 1) 0 0 [.ref 150] μ (some (.int r)) μR)  (hT : ν.1 = some 156) (μ : hm_M) (hL : hm_LL ν μ) (h : f_X6_readTerm k_X6_readPart k_X6_readSum k_X6_readTerm μ = some (r, μR)) : hm_CC (hm_LL ν) m_X6_readTerm fr 0 0 [.ref 150] μ (some (.int r)) μR := by
  refine hm_enter (lv := [some (.ref 150), none, none]) (by decide) rfl (Nat.le_of_ble_eq_true rfl) ?_
  unfold f_X6_readTerm at h
  refine tr_aload_n (pc' := 1) (show decode cX6_readTerm 0 = .ok (.aload_n 0, 1) by decide +kernel) rfl rfl rfl ?_
  obtain ⟨x2, μ3, ex2, h⟩ := hm_b2s h
  have cx2 := hk_X6_readPart hT μ hL ex2
  refine tp_callV (pc' := 4) (As := []) (fr1 := fr - 1) (ci := 6) okm_X6_readPart lk_HandRing_Reader_146 (show decode cX6_readTerm 1 = .ok (.invokevirtual 146, 3) by decide +kernel) rfl rfl rfl (by decide) (la_o hL (by decide) rfl) rfl rfl (Nat.le_of_ble_eq_true rfl) (by omega) cx2 (st' := [.int x2]) rfl ?_
  replace hL := cx2.1
  rcases hm_is h with ⟨hc, h⟩ | ⟨hc, h⟩
  · refine tr_if_ne_f (tgt := 9) (pc' := 7) hc (show decode cX6_readTerm 4 = .ok (.ifCond .ne 5, 3) by decide +kernel) (by decide) rfl ?_
    refine tr_iconst (pc' := 8) (v := (0 : Int32)) (show decode cX6_readTerm 7 = .ok (.iconst 0, 1) by decide +kernel) rfl (by decide) ?_
    cases h
    exact tr_zret rfl (by decide) (show decode cX6_readTerm 8 = .ok (.ireturn, 1) by decide +kernel) hL
  · refine tr_if_ne_t (tgt := 9) hc (show decode cX6_readTerm 4 = .ok (.ifCond .ne 5, 3) by decide +kernel) (by decide) ?_
    refine tr_iconst (pc' := 10) (v := (0 : Int32)) (show decode cX6_readTerm 9 = .ok (.iconst 0, 1) by decide +kernel) rfl (by decide) ?_
    refine tr_istore_n (pc' := 11) (lv' := [some (.ref 150), some (.int (0 : Int32)), none]) (show decode cX6_readTerm 10 = .ok (.istore_n 1, 1) by decide +kernel) rfl rfl (Nat.le_of_ble_eq_true rfl) rfl rfl ?_
    refine ok_X6_readTerm_L11 hfr k_X6_readPart hk_X6_readPart k_X6_readSum hk_X6_readSum k_X6_readTerm hk_X6_readTerm _ ?_ hT _ (0 : Int32) μ3 hL h
    · intro μz15 hL h
      refine tr_iconst (pc' := 103) (v := (1 : Int32)) (show decode cX6_readTerm 102 = .ok (.iconst 1, 1) by decide +kernel) rfl (by decide) ?_
      cases h
      exact tr_zret rfl (by decide) (show decode cX6_readTerm 103 = .ok (.ireturn, 1) by decide +kernel) hL
def K_X6_readPart : Nat → (hm_M → Option (Int32 × hm_M)) × (hm_M → Option (Int32 × hm_M)) × (hm_M → Option (Int32 × hm_M))
  | 0 => (fun _ => none, fun _ => none, fun _ => none)
  | n + 1 => (f_X6_readPart (K_X6_readPart n).1 (K_X6_readPart n).2.1 (K_X6_readPart n).2.2, f_X6_readSum (K_X6_readPart n).1 (K_X6_readPart n).2.1 (K_X6_readPart n).2.2, f_X6_readTerm (K_X6_readPart n).1 (K_X6_readPart n).2.1 (K_X6_readPart n).2.2)
theorem KK_X6_readPart {ν : hm_N} : ∀ (n fr : Nat), n + 9 ≤ fr → (∀ {r : Int32} {μR : hm_M}  (hT : ν.1 = some 156) (μ : hm_M), hm_LL ν μ → (K_X6_readPart n).1 μ = some (r, μR) → hm_CC (hm_LL ν) m_X6_readPart (fr) 0 0 [.ref 150] μ (some (.int r)) μR) ∧ (∀ {r : Int32} {μR : hm_M}  (hT : ν.1 = some 156) (μ : hm_M), hm_LL ν μ → (K_X6_readPart n).2.1 μ = some (r, μR) → hm_CC (hm_LL ν) m_X6_readSum (fr) 0 0 [.ref 150] μ (some (.int r)) μR) ∧ (∀ {r : Int32} {μR : hm_M}  (hT : ν.1 = some 156) (μ : hm_M), hm_LL ν μ → (K_X6_readPart n).2.2 μ = some (r, μR) → hm_CC (hm_LL ν) m_X6_readTerm (fr) 0 0 [.ref 150] μ (some (.int r)) μR) := by
  intro n
  induction n with
  | zero =>
    intro fr _
    exact ⟨by intros; rename_i h; exact absurd (show none = some _ from h) (fun z => by cases z), by intros; rename_i h; exact absurd (show none = some _ from h) (fun z => by cases z), by intros; rename_i h; exact absurd (show none = some _ from h) (fun z => by cases z)⟩
  | succ n ih =>
    intro fr hf
    have I := @ih (fr - 1) (by omega)
    exact ⟨(fun {_} {_}  hT μ hL h => ok_X6_readPart (by omega) (K_X6_readPart n).1 I.1 (K_X6_readPart n).2.1 I.2.1 (K_X6_readPart n).2.2 I.2.2  hT μ hL h),
      (fun {_} {_}  hT μ hL h => ok_X6_readSum (by omega) (K_X6_readPart n).1 I.1 (K_X6_readPart n).2.1 I.2.1 (K_X6_readPart n).2.2 I.2.2  hT μ hL h),
      (fun {_} {_}  hT μ hL h => ok_X6_readTerm (by omega) (K_X6_readPart n).1 I.1 (K_X6_readPart n).2.1 I.2.1 (K_X6_readPart n).2.2 I.2.2  hT μ hL h)⟩
def F_X6_readPart (μ : hm_M) : Option (Int32 × hm_M) := (K_X6_readPart 40).1 μ
theorem OK_X6_readPart {fr : Nat} (hfr : 49 ≤ fr) {ν : hm_N} {r : Int32} {μR : hm_M}  (hT : ν.1 = some 156) (μ : hm_M) (hL : hm_LL ν μ) (h : F_X6_readPart μ = some (r, μR)) : hm_CC (hm_LL ν) m_X6_readPart fr 0 0 [.ref 150] μ (some (.int r)) μR := (KK_X6_readPart 40 fr (by omega)).1  hT μ hL h
def F_X6_readSum (μ : hm_M) : Option (Int32 × hm_M) := (K_X6_readPart 40).2.1 μ
theorem OK_X6_readSum {fr : Nat} (hfr : 49 ≤ fr) {ν : hm_N} {r : Int32} {μR : hm_M}  (hT : ν.1 = some 156) (μ : hm_M) (hL : hm_LL ν μ) (h : F_X6_readSum μ = some (r, μR)) : hm_CC (hm_LL ν) m_X6_readSum fr 0 0 [.ref 150] μ (some (.int r)) μR := (KK_X6_readPart 40 fr (by omega)).2.1  hT μ hL h
def F_X6_readTerm (μ : hm_M) : Option (Int32 × hm_M) := (K_X6_readPart 40).2.2 μ
theorem OK_X6_readTerm {fr : Nat} (hfr : 49 ≤ fr) {ν : hm_N} {r : Int32} {μR : hm_M}  (hT : ν.1 = some 156) (μ : hm_M) (hL : hm_LL ν μ) (h : F_X6_readTerm μ = some (r, μR)) : hm_CC (hm_LL ν) m_X6_readTerm fr 0 0 [.ref 150] μ (some (.int r)) μR := (KK_X6_readPart 40 fr (by omega)).2.2  hT μ hL h
