def f_X9_drawn (v1 : Int32) (v2 : Int32) (μ : hm_M) : Option Int32 :=
  (if (μ.1 64 4) = 0 then
  some (-1 : Int32)
  else
  Option.bind (f_X8_has 77 v1 μ) fun x2 =>
  (if x2 = 0 then
  some (-1 : Int32)
  else
  (if v2 < (0 : Int32) ∨ (2 : Int32) < v2 then
  some (-1 : Int32)
  else
  (if v2 = (0 : Int32) then
  Option.bind (hm_ld μ 78 8 v1) fun x5 =>
  some x5
  else
  (if v2 = (1 : Int32) then
  Option.bind (hm_ld μ 79 8 v1) fun x4 =>
  some x4
  else
  (if v2 = (2 : Int32) then
  Option.bind (hm_ld μ 81 8 v1) fun x3 =>
  some x3
  else
  none))))))
set_option maxRecDepth 100000 in
theorem ok_X9_drawn {fr : Nat} (hfr : 1 ≤ fr) {ν : hm_N} {r : Int32}  (v1 : Int32) (v2 : Int32)  (μ : hm_M) (hL : hm_LL ν μ) (h : f_X9_drawn v1 v2 μ = some r) : hm_CC (hm_LL ν) m_X9_drawn fr 0 0 [.ref 64, .int v1, .int v2] μ (some (.int r)) μ := by
  refine hm_enter (lv := [some (.ref 64), some (.int v1), some (.int v2)]) (by decide) rfl (Nat.le_of_ble_eq_true rfl) ?_
  unfold f_X9_drawn at h
  refine tr_aload_n (pc' := 1) (show decode cX9_drawn 0 = .ok (.aload_n 0, 1) by decide +kernel) rfl rfl rfl ?_
  refine tr_getI (pc' := 4) fl_HandRing_324 (show decode cX9_drawn 1 = .ok (.getfield 324, 3) by decide +kernel) rfl (la_o hL (by decide) rfl) ?_
  rcases hm_is h with ⟨hc, h⟩ | ⟨hc, h⟩
  · refine tr_if_eq_t (tgt := 18) hc (show decode cX9_drawn 4 = .ok (.ifCond .eq 14, 3) by decide +kernel) (by decide) ?_
    refine tr_iconst (pc' := 19) (v := (-1 : Int32)) (show decode cX9_drawn 18 = .ok (.iconst (-1), 1) by decide +kernel) rfl (by decide) ?_
    cases h
    exact tr_iret rfl (show decode cX9_drawn 19 = .ok (.ireturn, 1) by decide +kernel) hL
  · refine tr_if_eq_f (tgt := 18) (pc' := 7) hc (show decode cX9_drawn 4 = .ok (.ifCond .eq 14, 3) by decide +kernel) (by decide) rfl ?_
    refine tr_aload_n (pc' := 8) (show decode cX9_drawn 7 = .ok (.aload_n 0, 1) by decide +kernel) rfl rfl rfl ?_
    refine tr_getR (pc' := 11) fl_HandRing_24 (show decode cX9_drawn 8 = .ok (.getfield 24, 3) by decide +kernel) rfl (la_o hL (by decide) rfl) (la_r hL 3 rfl) ?_
    refine tr_iload_n (pc' := 12) (show decode cX9_drawn 11 = .ok (.iload_n 1, 1) by decide +kernel) rfl rfl rfl ?_
    obtain ⟨x2, ex2, h⟩ := hm_bs h
    have cx2 := ok_X8_has (fr := fr - 1) (ν := ν) (by omega) 77 v1 (by unfold hm_V; decide) μ hL ex2
    refine tp_callV (pc' := 15) (As := [.int v1]) (fr1 := fr - 1) (ci := 8) okm_X8_has lk_HandRing_113 (show decode cX9_drawn 12 = .ok (.invokevirtual 113, 3) by decide +kernel) rfl rfl rfl (by decide) (la_o hL (by decide) rfl) rfl rfl (Nat.le_of_ble_eq_true rfl) (by omega) cx2 (st' := [.int x2]) rfl ?_
    rcases hm_is h with ⟨hc, h⟩ | ⟨hc, h⟩
    · refine tr_if_ne_f (tgt := 20) (pc' := 18) hc (show decode cX9_drawn 15 = .ok (.ifCond .ne 5, 3) by decide +kernel) (by decide) rfl ?_
      refine tr_iconst (pc' := 19) (v := (-1 : Int32)) (show decode cX9_drawn 18 = .ok (.iconst (-1), 1) by decide +kernel) rfl (by decide) ?_
      cases h
      exact tr_iret rfl (show decode cX9_drawn 19 = .ok (.ireturn, 1) by decide +kernel) hL
    · refine tr_if_ne_t (tgt := 20) hc (show decode cX9_drawn 15 = .ok (.ifCond .ne 5, 3) by decide +kernel) (by decide) ?_
      refine tr_iload_n (pc' := 21) (show decode cX9_drawn 20 = .ok (.iload_n 2, 1) by decide +kernel) rfl rfl rfl ?_
      rcases hm_is h with ⟨hc, h⟩ | ⟨-, h⟩
      · refine tp_tout (tgt := 78) hc (by decide) (by decide) (show decode cX9_drawn 21 = .ok (.tableswitch 57 0 2 #[27, 37, 47], 27) by decide +kernel) (by decide) ?_
        refine tr_iconst (pc' := 79) (v := (-1 : Int32)) (show decode cX9_drawn 78 = .ok (.iconst (-1), 1) by decide +kernel) rfl (by decide) ?_
        cases h
        exact tr_iret rfl (show decode cX9_drawn 79 = .ok (.ireturn, 1) by decide +kernel) hL
      · rcases hm_is h with ⟨hc, h⟩ | ⟨-, h⟩
        · refine tp_tin (tgt := 48) (off := 27) hc (show decode cX9_drawn 21 = .ok (.tableswitch 57 0 2 #[27, 37, 47], 27) by decide +kernel) (by decide) (by decide) (by decide) (by decide) ?_
          refine tr_aload_n (pc' := 49) (show decode cX9_drawn 48 = .ok (.aload_n 0, 1) by decide +kernel) rfl rfl rfl ?_
          refine tr_getR (pc' := 52) fl_HandRing_24 (show decode cX9_drawn 49 = .ok (.getfield 24, 3) by decide +kernel) rfl (la_o hL (by decide) rfl) (la_r hL 3 rfl) ?_
          refine tr_getR (pc' := 55) fl_HandRing_117 (show decode cX9_drawn 52 = .ok (.getfield 117, 3) by decide +kernel) rfl (la_o hL (by decide) rfl) (la_r hL 24 rfl) ?_
          refine tr_iload_n (pc' := 56) (show decode cX9_drawn 55 = .ok (.iload_n 1, 1) by decide +kernel) rfl rfl rfl ?_
          obtain ⟨x5, ex5, h⟩ := hm_bs h
          refine tp_ldI (pc' := 57) (show decode cX9_drawn 56 = .ok (.iaload, 1) by decide +kernel) rfl (la_a hL (by decide) rfl) ex5 ?_
          cases h
          exact tr_iret rfl (show decode cX9_drawn 57 = .ok (.ireturn, 1) by decide +kernel) hL
        · rcases hm_is h with ⟨hc, h⟩ | ⟨-, h⟩
          · refine tp_tin (tgt := 58) (off := 37) hc (show decode cX9_drawn 21 = .ok (.tableswitch 57 0 2 #[27, 37, 47], 27) by decide +kernel) (by decide) (by decide) (by decide) (by decide) ?_
            refine tr_aload_n (pc' := 59) (show decode cX9_drawn 58 = .ok (.aload_n 0, 1) by decide +kernel) rfl rfl rfl ?_
            refine tr_getR (pc' := 62) fl_HandRing_24 (show decode cX9_drawn 59 = .ok (.getfield 24, 3) by decide +kernel) rfl (la_o hL (by decide) rfl) (la_r hL 3 rfl) ?_
            refine tr_getR (pc' := 65) fl_HandRing_120 (show decode cX9_drawn 62 = .ok (.getfield 120, 3) by decide +kernel) rfl (la_o hL (by decide) rfl) (la_r hL 25 rfl) ?_
            refine tr_iload_n (pc' := 66) (show decode cX9_drawn 65 = .ok (.iload_n 1, 1) by decide +kernel) rfl rfl rfl ?_
            obtain ⟨x4, ex4, h⟩ := hm_bs h
            refine tp_ldI (pc' := 67) (show decode cX9_drawn 66 = .ok (.iaload, 1) by decide +kernel) rfl (la_a hL (by decide) rfl) ex4 ?_
            cases h
            exact tr_iret rfl (show decode cX9_drawn 67 = .ok (.ireturn, 1) by decide +kernel) hL
          · rcases hm_is h with ⟨hc, h⟩ | ⟨-, h⟩
            · refine tp_tin (tgt := 68) (off := 47) hc (show decode cX9_drawn 21 = .ok (.tableswitch 57 0 2 #[27, 37, 47], 27) by decide +kernel) (by decide) (by decide) (by decide) (by decide) ?_
              refine tr_aload_n (pc' := 69) (show decode cX9_drawn 68 = .ok (.aload_n 0, 1) by decide +kernel) rfl rfl rfl ?_
              refine tr_getR (pc' := 72) fl_HandRing_24 (show decode cX9_drawn 69 = .ok (.getfield 24, 3) by decide +kernel) rfl (la_o hL (by decide) rfl) (la_r hL 3 rfl) ?_
              refine tr_getR (pc' := 75) fl_HandRing_126 (show decode cX9_drawn 72 = .ok (.getfield 126, 3) by decide +kernel) rfl (la_o hL (by decide) rfl) (la_r hL 27 rfl) ?_
              refine tr_iload_n (pc' := 76) (show decode cX9_drawn 75 = .ok (.iload_n 1, 1) by decide +kernel) rfl rfl rfl ?_
              obtain ⟨x3, ex3, h⟩ := hm_bs h
              refine tp_ldI (pc' := 77) (show decode cX9_drawn 76 = .ok (.iaload, 1) by decide +kernel) rfl (la_a hL (by decide) rfl) ex3 ?_
              cases h
              exact tr_iret rfl (show decode cX9_drawn 77 = .ok (.ireturn, 1) by decide +kernel) hL
            · cases h
def f_X9_image_J9 (v1 : Int32) (μ1 : hm_M) : Option (Int32 × hm_M) :=
  hm_b2 (f_X9_refused (-1 : Int32) μ1) fun x2 μ3 =>
  some (x2, μ3)
theorem ok_X9_image_J9 {fr : Nat} (hfr : 2 ≤ fr) {ν : hm_N} {r : Int32} {μR : hm_M}  (v1 : Int32)     (μ1 : hm_M) (hL : hm_LL ν μ1) (h : f_X9_image_J9 v1 μ1 = some (r, μR)) : hm_T (hm_LL ν) m_X9_image fr 0 0 (some (.int r)) μR 9 [some (.ref 64), none] [] μ1 := by
  unfold f_X9_image_J9 at h
  refine tr_aload_n (pc' := 10) (show decode cX9_image 9 = .ok (.aload_n 0, 1) by decide +kernel) rfl rfl rfl ?_
  refine tr_iconst (pc' := 11) (v := (-1 : Int32)) (show decode cX9_image 10 = .ok (.iconst (-1), 1) by decide +kernel) rfl (by decide) ?_
  obtain ⟨x2, μ3, ex2, h⟩ := hm_b2s h
  have cx2 := ok_X9_refused (fr := fr - 1) (ν := ν) (by omega) (-1 : Int32) μ1 hL ex2
  refine tp_callV (pc' := 14) (As := [.int (-1 : Int32)]) (fr1 := fr - 1) (ci := 9) okm_X9_refused lk_HandRing_96 (show decode cX9_image 11 = .ok (.invokevirtual 96, 3) by decide +kernel) rfl rfl rfl (by decide) (la_o hL (by decide) rfl) rfl rfl (Nat.le_of_ble_eq_true rfl) (by omega) cx2 (st' := [.int x2]) rfl ?_
  replace hL := cx2.1
  cases h
  exact tr_iret rfl (show decode cX9_image 14 = .ok (.ireturn, 1) by decide +kernel) hL
def f_X9_image (v1 : Int32) (μ : hm_M) : Option (Int32 × hm_M) :=
  (if v1 < 0 then
  f_X9_image_J9 v1 μ
  else
  (if v1 < (2 : Int32) then
  Option.bind (hm_ldR μ 75 2 v1) fun x4 =>
  Option.bind (f_X8_copyFrom (x4.getD 0) 65 μ) fun μ6 =>
  Option.bind (hm_sd μ6 76 2 v1 (vp_nar .boolean (1 : Int32))) fun μ7 =>
  hm_b2 (f_X9_granted (0 : Int32) μ7) fun x8 μ9 =>
  some (x8, μ9)
  else
  f_X9_image_J9 v1 μ))
set_option maxRecDepth 100000 in
theorem ok_X9_image {fr : Nat} (hfr : 2 ≤ fr) {ν : hm_N} {r : Int32} {μR : hm_M}  (v1 : Int32)  (μ : hm_M) (hL : hm_LL ν μ) (h : f_X9_image v1 μ = some (r, μR)) : hm_CC (hm_LL ν) m_X9_image fr 0 0 [.ref 64, .int v1] μ (some (.int r)) μR := by
  refine hm_enter (lv := [some (.ref 64), some (.int v1)]) (by decide) rfl (Nat.le_of_ble_eq_true rfl) ?_
  unfold f_X9_image at h
  refine tr_iload_n (pc' := 1) (show decode cX9_image 0 = .ok (.iload_n 1, 1) by decide +kernel) rfl rfl rfl ?_
  rcases hm_is h with ⟨hc, h⟩ | ⟨hc, h⟩
  · refine tr_if_lt_t (tgt := 9) hc (show decode cX9_image 1 = .ok (.ifCond .lt 8, 3) by decide +kernel) (by decide) ?_
    refine hm_fgt [true, false] (lv' := [some (.ref 64), none]) rfl ?_
    exact ok_X9_image_J9 hfr _ μ hL h
  · refine tr_if_lt_f (tgt := 9) (pc' := 4) hc (show decode cX9_image 1 = .ok (.ifCond .lt 8, 3) by decide +kernel) (by decide) rfl ?_
    refine tr_iload_n (pc' := 5) (show decode cX9_image 4 = .ok (.iload_n 1, 1) by decide +kernel) rfl rfl rfl ?_
    refine tr_iconst (pc' := 6) (v := (2 : Int32)) (show decode cX9_image 5 = .ok (.iconst 2, 1) by decide +kernel) rfl (by decide) ?_
    rcases hm_is h with ⟨hc, h⟩ | ⟨hc, h⟩
    · refine tr_icmp_lt_t (tgt := 15) hc (show decode cX9_image 6 = .ok (.if_icmp .lt 9, 3) by decide +kernel) (by decide) ?_
      refine tr_aload_n (pc' := 16) (show decode cX9_image 15 = .ok (.aload_n 0, 1) by decide +kernel) rfl rfl rfl ?_
      refine tr_getR (pc' := 19) fl_HandRing_16 (show decode cX9_image 16 = .ok (.getfield 16, 3) by decide +kernel) rfl (la_o hL (by decide) rfl) (la_r hL 1 rfl) ?_
      refine tr_iload_n (pc' := 20) (show decode cX9_image 19 = .ok (.iload_n 1, 1) by decide +kernel) rfl rfl rfl ?_
      obtain ⟨x4, ex4, h⟩ := hm_bs h
      have bx4 := la_img hL ex4
      refine tp_ldR (pc' := 21) (t0 := 6) (by decide) (fun _ => rfl) rfl (show decode cX9_image 20 = .ok (.aaload, 1) by decide +kernel) rfl (la_a hL (by decide) rfl) ex4 (congrArg va_rf bx4.1) ?_
      refine tr_aload_n (pc' := 22) (show decode cX9_image 21 = .ok (.aload_n 0, 1) by decide +kernel) rfl rfl rfl ?_
      refine tr_getR (pc' := 25) fl_HandRing_12 (show decode cX9_image 22 = .ok (.getfield 12, 3) by decide +kernel) rfl (la_o hL (by decide) rfl) (la_r hL 0 rfl) ?_
      obtain ⟨μ6, ex5, h⟩ := hm_bs h
      have cx5 := ok_X8_copyFrom (fr := fr - 1) (ν := ν) (by omega) (x4.getD 0) 65 bx4.2 (by unfold hm_V; decide) μ hL ex5
      refine tp_callV (pc' := 28) (As := [.ref 65]) (fr1 := fr - 1) (ci := 8) okm_X8_copyFrom lk_HandRing_320 (show decode cX9_image 25 = .ok (.invokevirtual 320, 3) by decide +kernel) rfl rfl rfl (by decide) (la_vo hL bx4.2) rfl rfl (Nat.le_of_ble_eq_true rfl) (by omega) cx5 (st' := []) rfl ?_
      replace hL := cx5.1
      refine tr_aload_n (pc' := 29) (show decode cX9_image 28 = .ok (.aload_n 0, 1) by decide +kernel) rfl rfl rfl ?_
      refine tr_getR (pc' := 32) fl_HandRing_20 (show decode cX9_image 29 = .ok (.getfield 20, 3) by decide +kernel) rfl (la_o hL (by decide) rfl) (la_r hL 2 rfl) ?_
      refine tr_iload_n (pc' := 33) (show decode cX9_image 32 = .ok (.iload_n 1, 1) by decide +kernel) rfl rfl rfl ?_
      refine tr_iconst (pc' := 34) (v := (1 : Int32)) (show decode cX9_image 33 = .ok (.iconst 1, 1) by decide +kernel) rfl (by decide) ?_
      obtain ⟨μ7, eμ7, h⟩ := hm_bs h
      refine tp_sdZ (pc' := 35) (show decode cX9_image 34 = .ok (.bastore, 1) by decide +kernel) rfl (la_a hL (by decide) rfl) eμ7 ?_
      replace hL := hL.same (hm_sd_s eμ7)
      refine tr_aload_n (pc' := 36) (show decode cX9_image 35 = .ok (.aload_n 0, 1) by decide +kernel) rfl rfl rfl ?_
      refine tr_iconst (pc' := 37) (v := (0 : Int32)) (show decode cX9_image 36 = .ok (.iconst 0, 1) by decide +kernel) rfl (by decide) ?_
      obtain ⟨x8, μ9, ex8, h⟩ := hm_b2s h
      have cx8 := ok_X9_granted (fr := fr - 1) (ν := ν) (by omega) (0 : Int32) μ7 hL ex8
      refine tp_callV (pc' := 40) (As := [.int (0 : Int32)]) (fr1 := fr - 1) (ci := 9) okm_X9_granted lk_HandRing_110 (show decode cX9_image 37 = .ok (.invokevirtual 110, 3) by decide +kernel) rfl rfl rfl (by decide) (la_o hL (by decide) rfl) rfl rfl (Nat.le_of_ble_eq_true rfl) (by omega) cx8 (st' := [.int x8]) rfl ?_
      replace hL := cx8.1
      cases h
      exact tr_iret rfl (show decode cX9_image 40 = .ok (.ireturn, 1) by decide +kernel) hL
    · refine tr_icmp_lt_f (tgt := 15) (pc' := 9) hc (show decode cX9_image 6 = .ok (.if_icmp .lt 9, 3) by decide +kernel) (by decide) rfl ?_
      refine hm_fgt [true, false] (lv' := [some (.ref 64), none]) rfl ?_
      exact ok_X9_image_J9 hfr _ μ hL h
def f_X9_back_J9 (v1 : Int32) (μ1 : hm_M) : Option (Int32 × hm_M) :=
  hm_b2 (f_X9_refused (-1 : Int32) μ1) fun x2 μ3 =>
  some (x2, μ3)
theorem ok_X9_back_J9 {fr : Nat} (hfr : 2 ≤ fr) {ν : hm_N} {r : Int32} {μR : hm_M}  (v1 : Int32)     (μ1 : hm_M) (hL : hm_LL ν μ1) (h : f_X9_back_J9 v1 μ1 = some (r, μR)) : hm_T (hm_LL ν) m_X9_back fr 0 0 (some (.int r)) μR 9 [some (.ref 64), none] [] μ1 := by
  unfold f_X9_back_J9 at h
  refine tr_aload_n (pc' := 10) (show decode cX9_back 9 = .ok (.aload_n 0, 1) by decide +kernel) rfl rfl rfl ?_
  refine tr_iconst (pc' := 11) (v := (-1 : Int32)) (show decode cX9_back 10 = .ok (.iconst (-1), 1) by decide +kernel) rfl (by decide) ?_
  obtain ⟨x2, μ3, ex2, h⟩ := hm_b2s h
  have cx2 := ok_X9_refused (fr := fr - 1) (ν := ν) (by omega) (-1 : Int32) μ1 hL ex2
  refine tp_callV (pc' := 14) (As := [.int (-1 : Int32)]) (fr1 := fr - 1) (ci := 9) okm_X9_refused lk_HandRing_96 (show decode cX9_back 11 = .ok (.invokevirtual 96, 3) by decide +kernel) rfl rfl rfl (by decide) (la_o hL (by decide) rfl) rfl rfl (Nat.le_of_ble_eq_true rfl) (by omega) cx2 (st' := [.int x2]) rfl ?_
  replace hL := cx2.1
  cases h
  exact tr_iret rfl (show decode cX9_back 14 = .ok (.ireturn, 1) by decide +kernel) hL
def f_X9_back (v1 : Int32) (μ : hm_M) : Option (Int32 × hm_M) :=
  (if v1 < 0 then
  f_X9_back_J9 v1 μ
  else
  (if v1 < (2 : Int32) then
  Option.bind (hm_ld μ 76 2 v1) fun x4 =>
  (if x4 = 0 then
  hm_b2 (f_X9_refused (-2 : Int32) μ) fun x12 μ13 =>
  some (x12, μ13)
  else
  Option.bind (hm_ldR μ 75 2 v1) fun x5 =>
  Option.bind (f_X8_copyFrom 65 (x5.getD 0) μ) fun μ7 =>
  Option.bind (f_X7_clear 87 μ7) fun μ9 =>
  hm_b2 (f_X9_granted (0 : Int32) μ9) fun x10 μ11 =>
  some (x10, μ11))
  else
  f_X9_back_J9 v1 μ))
set_option maxRecDepth 100000 in
theorem ok_X9_back {fr : Nat} (hfr : 2 ≤ fr) {ν : hm_N} {r : Int32} {μR : hm_M}  (v1 : Int32)  (μ : hm_M) (hL : hm_LL ν μ) (h : f_X9_back v1 μ = some (r, μR)) : hm_CC (hm_LL ν) m_X9_back fr 0 0 [.ref 64, .int v1] μ (some (.int r)) μR := by
  refine hm_enter (lv := [some (.ref 64), some (.int v1)]) (by decide) rfl (Nat.le_of_ble_eq_true rfl) ?_
  unfold f_X9_back at h
  refine tr_iload_n (pc' := 1) (show decode cX9_back 0 = .ok (.iload_n 1, 1) by decide +kernel) rfl rfl rfl ?_
  rcases hm_is h with ⟨hc, h⟩ | ⟨hc, h⟩
  · refine tr_if_lt_t (tgt := 9) hc (show decode cX9_back 1 = .ok (.ifCond .lt 8, 3) by decide +kernel) (by decide) ?_
    refine hm_fgt [true, false] (lv' := [some (.ref 64), none]) rfl ?_
    exact ok_X9_back_J9 hfr _ μ hL h
  · refine tr_if_lt_f (tgt := 9) (pc' := 4) hc (show decode cX9_back 1 = .ok (.ifCond .lt 8, 3) by decide +kernel) (by decide) rfl ?_
    refine tr_iload_n (pc' := 5) (show decode cX9_back 4 = .ok (.iload_n 1, 1) by decide +kernel) rfl rfl rfl ?_
    refine tr_iconst (pc' := 6) (v := (2 : Int32)) (show decode cX9_back 5 = .ok (.iconst 2, 1) by decide +kernel) rfl (by decide) ?_
    rcases hm_is h with ⟨hc, h⟩ | ⟨hc, h⟩
    · refine tr_icmp_lt_t (tgt := 15) hc (show decode cX9_back 6 = .ok (.if_icmp .lt 9, 3) by decide +kernel) (by decide) ?_
      refine tr_aload_n (pc' := 16) (show decode cX9_back 15 = .ok (.aload_n 0, 1) by decide +kernel) rfl rfl rfl ?_
      refine tr_getR (pc' := 19) fl_HandRing_20 (show decode cX9_back 16 = .ok (.getfield 20, 3) by decide +kernel) rfl (la_o hL (by decide) rfl) (la_r hL 2 rfl) ?_
      refine tr_iload_n (pc' := 20) (show decode cX9_back 19 = .ok (.iload_n 1, 1) by decide +kernel) rfl rfl rfl ?_
      obtain ⟨x4, ex4, h⟩ := hm_bs h
      refine tp_ldZ (pc' := 21) (show decode cX9_back 20 = .ok (.baload, 1) by decide +kernel) rfl (la_a hL (by decide) rfl) ex4 ?_
      rcases hm_is h with ⟨hc, h⟩ | ⟨hc, h⟩
      · refine tr_if_ne_f (tgt := 31) (pc' := 24) hc (show decode cX9_back 21 = .ok (.ifCond .ne 10, 3) by decide +kernel) (by decide) rfl ?_
        refine tr_aload_n (pc' := 25) (show decode cX9_back 24 = .ok (.aload_n 0, 1) by decide +kernel) rfl rfl rfl ?_
        refine tr_bipush (pc' := 27) (v := (-2 : Int32)) (show decode cX9_back 25 = .ok (.bipush (-2), 2) by decide +kernel) rfl (by decide) ?_
        obtain ⟨x12, μ13, ex12, h⟩ := hm_b2s h
        have cx12 := ok_X9_refused (fr := fr - 1) (ν := ν) (by omega) (-2 : Int32) μ hL ex12
        refine tp_callV (pc' := 30) (As := [.int (-2 : Int32)]) (fr1 := fr - 1) (ci := 9) okm_X9_refused lk_HandRing_96 (show decode cX9_back 27 = .ok (.invokevirtual 96, 3) by decide +kernel) rfl rfl rfl (by decide) (la_o hL (by decide) rfl) rfl rfl (Nat.le_of_ble_eq_true rfl) (by omega) cx12 (st' := [.int x12]) rfl ?_
        replace hL := cx12.1
        cases h
        exact tr_iret rfl (show decode cX9_back 30 = .ok (.ireturn, 1) by decide +kernel) hL
      · refine tr_if_ne_t (tgt := 31) hc (show decode cX9_back 21 = .ok (.ifCond .ne 10, 3) by decide +kernel) (by decide) ?_
        refine tr_aload_n (pc' := 32) (show decode cX9_back 31 = .ok (.aload_n 0, 1) by decide +kernel) rfl rfl rfl ?_
        refine tr_getR (pc' := 35) fl_HandRing_12 (show decode cX9_back 32 = .ok (.getfield 12, 3) by decide +kernel) rfl (la_o hL (by decide) rfl) (la_r hL 0 rfl) ?_
        refine tr_aload_n (pc' := 36) (show decode cX9_back 35 = .ok (.aload_n 0, 1) by decide +kernel) rfl rfl rfl ?_
        refine tr_getR (pc' := 39) fl_HandRing_16 (show decode cX9_back 36 = .ok (.getfield 16, 3) by decide +kernel) rfl (la_o hL (by decide) rfl) (la_r hL 1 rfl) ?_
        refine tr_iload_n (pc' := 40) (show decode cX9_back 39 = .ok (.iload_n 1, 1) by decide +kernel) rfl rfl rfl ?_
        obtain ⟨x5, ex5, h⟩ := hm_bs h
        have bx5 := la_img hL ex5
        refine tp_ldR (pc' := 41) (t0 := 6) (by decide) (fun _ => rfl) rfl (show decode cX9_back 40 = .ok (.aaload, 1) by decide +kernel) rfl (la_a hL (by decide) rfl) ex5 (congrArg va_rf bx5.1) ?_
        obtain ⟨μ7, ex6, h⟩ := hm_bs h
        have cx6 := ok_X8_copyFrom (fr := fr - 1) (ν := ν) (by omega) 65 (x5.getD 0) (by unfold hm_V; decide) bx5.2 μ hL ex6
        refine tp_callV (pc' := 44) (As := [.ref (x5.getD 0)]) (fr1 := fr - 1) (ci := 8) okm_X8_copyFrom lk_HandRing_320 (show decode cX9_back 41 = .ok (.invokevirtual 320, 3) by decide +kernel) rfl rfl rfl (by decide) (la_o hL (by decide) rfl) rfl rfl (Nat.le_of_ble_eq_true rfl) (by omega) cx6 (st' := []) rfl ?_
        replace hL := cx6.1
        refine tr_aload_n (pc' := 45) (show decode cX9_back 44 = .ok (.aload_n 0, 1) by decide +kernel) rfl rfl rfl ?_
        refine tr_getR (pc' := 48) fl_HandRing_30 (show decode cX9_back 45 = .ok (.getfield 30, 3) by decide +kernel) rfl (la_o hL (by decide) rfl) (la_r hL 4 rfl) ?_
        obtain ⟨μ9, ex8, h⟩ := hm_bs h
        have cx8 := ok_X7_clear (fr := fr - 1) (ν := ν) (by omega) 87 (by unfold hm_S; decide) μ7 hL ex8
        refine tp_callV (pc' := 51) (As := []) (fr1 := fr - 1) (ci := 7) okm_X7_clear lk_HandRing_103 (show decode cX9_back 48 = .ok (.invokevirtual 103, 3) by decide +kernel) rfl rfl rfl (by decide) (la_o hL (by decide) rfl) rfl rfl (Nat.le_of_ble_eq_true rfl) (by omega) cx8 (st' := []) rfl ?_
        replace hL := cx8.1
        refine tr_aload_n (pc' := 52) (show decode cX9_back 51 = .ok (.aload_n 0, 1) by decide +kernel) rfl rfl rfl ?_
        refine tr_iconst (pc' := 53) (v := (0 : Int32)) (show decode cX9_back 52 = .ok (.iconst 0, 1) by decide +kernel) rfl (by decide) ?_
        obtain ⟨x10, μ11, ex10, h⟩ := hm_b2s h
        have cx10 := ok_X9_granted (fr := fr - 1) (ν := ν) (by omega) (0 : Int32) μ9 hL ex10
        refine tp_callV (pc' := 56) (As := [.int (0 : Int32)]) (fr1 := fr - 1) (ci := 9) okm_X9_granted lk_HandRing_110 (show decode cX9_back 53 = .ok (.invokevirtual 110, 3) by decide +kernel) rfl rfl rfl (by decide) (la_o hL (by decide) rfl) rfl rfl (Nat.le_of_ble_eq_true rfl) (by omega) cx10 (st' := [.int x10]) rfl ?_
        replace hL := cx10.1
        cases h
        exact tr_iret rfl (show decode cX9_back 56 = .ok (.ireturn, 1) by decide +kernel) hL
    · refine tr_icmp_lt_f (tgt := 15) (pc' := 9) hc (show decode cX9_back 6 = .ok (.if_icmp .lt 9, 3) by decide +kernel) (by decide) rfl ?_
      refine hm_fgt [true, false] (lv' := [some (.ref 64), none]) rfl ?_
      exact ok_X9_back_J9 hfr _ μ hL h
def f_X9_count_J47 (v1 : Int32) (μ1 : hm_M) : Option Int32 :=
  (if v1 < (0 : Int32) ∨ (11 : Int32) < v1 then
  some (-1 : Int32)
  else
  (if v1 = (0 : Int32) then
  some (μ1.1 65 0)
  else
  (if v1 = (1 : Int32) then
  Option.bind (f_X8_countHolds 65 μ1) fun x2 =>
  some x2
  else
  (if v1 = (2 : Int32) then
  some (μ1.1 65 12)
  else
  (if v1 = (3 : Int32) then
  some (μ1.1 65 7)
  else
  (if v1 = (4 : Int32) then
  some (μ1.1 87 2)
  else
  (if v1 = (5 : Int32) then
  some (μ1.1 64 12)
  else
  (if v1 = (6 : Int32) then
  some (-1 : Int32)
  else
  (if v1 = (7 : Int32) then
  some (-1 : Int32)
  else
  (if v1 = (8 : Int32) then
  some (-1 : Int32)
  else
  (if v1 = (9 : Int32) then
  some (-1 : Int32)
  else
  (if v1 = (10 : Int32) then
  some (-1 : Int32)
  else
  (if v1 = (11 : Int32) then
  some (μ1.1 65 8)
  else
  none)))))))))))))
theorem ok_X9_count_J47 {fr : Nat} (hfr : 2 ≤ fr) {ν : hm_N} {r : Int32}  (v1 : Int32)     (μ1 : hm_M) (hL : hm_LL ν μ1) (h : f_X9_count_J47 v1 μ1 = some r) : hm_T (hm_LL ν) m_X9_count fr 0 0 (some (.int r)) μ1 47 [some (.ref 64), some (.int v1)] [] μ1 := by
  unfold f_X9_count_J47 at h
  refine tr_iload_n (pc' := 48) (show decode cX9_count 47 = .ok (.iload_n 1, 1) by decide +kernel) rfl rfl rfl ?_
  rcases hm_is h with ⟨hc, h⟩ | ⟨-, h⟩
  · refine tp_tout (tgt := 165) hc (by decide) (by decide) (show decode cX9_count 48 = .ok (.tableswitch 117 0 11 #[64, 72, 80, 88, 96, 104, 117, 117, 117, 117, 117, 109], 64) by decide +kernel) (by decide) ?_
    refine tr_iconst (pc' := 166) (v := (-1 : Int32)) (show decode cX9_count 165 = .ok (.iconst (-1), 1) by decide +kernel) rfl (by decide) ?_
    cases h
    exact tr_iret rfl (show decode cX9_count 166 = .ok (.ireturn, 1) by decide +kernel) hL
  · rcases hm_is h with ⟨hc, h⟩ | ⟨-, h⟩
    · refine tp_tin (tgt := 112) (off := 64) hc (show decode cX9_count 48 = .ok (.tableswitch 117 0 11 #[64, 72, 80, 88, 96, 104, 117, 117, 117, 117, 117, 109], 64) by decide +kernel) (by decide) (by decide) (by decide) (by decide) ?_
      refine tr_aload_n (pc' := 113) (show decode cX9_count 112 = .ok (.aload_n 0, 1) by decide +kernel) rfl rfl rfl ?_
      refine tr_getR (pc' := 116) fl_HandRing_12 (show decode cX9_count 113 = .ok (.getfield 12, 3) by decide +kernel) rfl (la_o hL (by decide) rfl) (la_r hL 0 rfl) ?_
      refine tr_getI (pc' := 119) fl_HandRing_100 (show decode cX9_count 116 = .ok (.getfield 100, 3) by decide +kernel) rfl (la_o hL (by decide) rfl) ?_
      cases h
      exact tr_iret rfl (show decode cX9_count 119 = .ok (.ireturn, 1) by decide +kernel) hL
    · rcases hm_is h with ⟨hc, h⟩ | ⟨-, h⟩
      · refine tp_tin (tgt := 120) (off := 72) hc (show decode cX9_count 48 = .ok (.tableswitch 117 0 11 #[64, 72, 80, 88, 96, 104, 117, 117, 117, 117, 117, 109], 64) by decide +kernel) (by decide) (by decide) (by decide) (by decide) ?_
        refine tr_aload_n (pc' := 121) (show decode cX9_count 120 = .ok (.aload_n 0, 1) by decide +kernel) rfl rfl rfl ?_
        refine tr_getR (pc' := 124) fl_HandRing_12 (show decode cX9_count 121 = .ok (.getfield 12, 3) by decide +kernel) rfl (la_o hL (by decide) rfl) (la_r hL 0 rfl) ?_
        obtain ⟨x2, ex2, h⟩ := hm_bs h
        have cx2 := ok_X8_countHolds (fr := fr - 1) (ν := ν) (by omega) 65 (by unfold hm_V; decide) μ1 hL ex2
        refine tp_callV (pc' := 127) (As := []) (fr1 := fr - 1) (ci := 8) okm_X8_countHolds lk_HandRing_335 (show decode cX9_count 124 = .ok (.invokevirtual 335, 3) by decide +kernel) rfl rfl rfl (by decide) (la_o hL (by decide) rfl) rfl rfl (Nat.le_of_ble_eq_true rfl) (by omega) cx2 (st' := [.int x2]) rfl ?_
        cases h
        exact tr_iret rfl (show decode cX9_count 127 = .ok (.ireturn, 1) by decide +kernel) hL
      · rcases hm_is h with ⟨hc, h⟩ | ⟨-, h⟩
        · refine tp_tin (tgt := 128) (off := 80) hc (show decode cX9_count 48 = .ok (.tableswitch 117 0 11 #[64, 72, 80, 88, 96, 104, 117, 117, 117, 117, 117, 109], 64) by decide +kernel) (by decide) (by decide) (by decide) (by decide) ?_
          refine tr_aload_n (pc' := 129) (show decode cX9_count 128 = .ok (.aload_n 0, 1) by decide +kernel) rfl rfl rfl ?_
          refine tr_getR (pc' := 132) fl_HandRing_12 (show decode cX9_count 129 = .ok (.getfield 12, 3) by decide +kernel) rfl (la_o hL (by decide) rfl) (la_r hL 0 rfl) ?_
          refine tr_getI (pc' := 135) fl_HandRing_281 (show decode cX9_count 132 = .ok (.getfield 281, 3) by decide +kernel) rfl (la_o hL (by decide) rfl) ?_
          cases h
          exact tr_iret rfl (show decode cX9_count 135 = .ok (.ireturn, 1) by decide +kernel) hL
        · rcases hm_is h with ⟨hc, h⟩ | ⟨-, h⟩
          · refine tp_tin (tgt := 136) (off := 88) hc (show decode cX9_count 48 = .ok (.tableswitch 117 0 11 #[64, 72, 80, 88, 96, 104, 117, 117, 117, 117, 117, 109], 64) by decide +kernel) (by decide) (by decide) (by decide) (by decide) ?_
            refine tr_aload_n (pc' := 137) (show decode cX9_count 136 = .ok (.aload_n 0, 1) by decide +kernel) rfl rfl rfl ?_
            refine tr_getR (pc' := 140) fl_HandRing_12 (show decode cX9_count 137 = .ok (.getfield 12, 3) by decide +kernel) rfl (la_o hL (by decide) rfl) (la_r hL 0 rfl) ?_
            refine tr_getI (pc' := 143) fl_HandRing_172 (show decode cX9_count 140 = .ok (.getfield 172, 3) by decide +kernel) rfl (la_o hL (by decide) rfl) ?_
            cases h
            exact tr_iret rfl (show decode cX9_count 143 = .ok (.ireturn, 1) by decide +kernel) hL
          · rcases hm_is h with ⟨hc, h⟩ | ⟨-, h⟩
            · refine tp_tin (tgt := 144) (off := 96) hc (show decode cX9_count 48 = .ok (.tableswitch 117 0 11 #[64, 72, 80, 88, 96, 104, 117, 117, 117, 117, 117, 109], 64) by decide +kernel) (by decide) (by decide) (by decide) (by decide) ?_
              refine tr_aload_n (pc' := 145) (show decode cX9_count 144 = .ok (.aload_n 0, 1) by decide +kernel) rfl rfl rfl ?_
              refine tr_getR (pc' := 148) fl_HandRing_30 (show decode cX9_count 145 = .ok (.getfield 30, 3) by decide +kernel) rfl (la_o hL (by decide) rfl) (la_r hL 4 rfl) ?_
              refine tr_getI (pc' := 151) fl_HandRing_338 (show decode cX9_count 148 = .ok (.getfield 338, 3) by decide +kernel) rfl (la_o hL (by decide) rfl) ?_
              cases h
              exact tr_iret rfl (show decode cX9_count 151 = .ok (.ireturn, 1) by decide +kernel) hL
            · rcases hm_is h with ⟨hc, h⟩ | ⟨-, h⟩
              · refine tp_tin (tgt := 152) (off := 104) hc (show decode cX9_count 48 = .ok (.tableswitch 117 0 11 #[64, 72, 80, 88, 96, 104, 117, 117, 117, 117, 117, 109], 64) by decide +kernel) (by decide) (by decide) (by decide) (by decide) ?_
                refine tr_aload_n (pc' := 153) (show decode cX9_count 152 = .ok (.aload_n 0, 1) by decide +kernel) rfl rfl rfl ?_
                refine tr_getI (pc' := 156) fl_HandRing_158 (show decode cX9_count 153 = .ok (.getfield 158, 3) by decide +kernel) rfl (la_o hL (by decide) rfl) ?_
                cases h
                exact tr_iret rfl (show decode cX9_count 156 = .ok (.ireturn, 1) by decide +kernel) hL
              · rcases hm_is h with ⟨hc, h⟩ | ⟨-, h⟩
                · refine tp_tin (tgt := 165) (off := 117) hc (show decode cX9_count 48 = .ok (.tableswitch 117 0 11 #[64, 72, 80, 88, 96, 104, 117, 117, 117, 117, 117, 109], 64) by decide +kernel) (by decide) (by decide) (by decide) (by decide) ?_
                  refine tr_iconst (pc' := 166) (v := (-1 : Int32)) (show decode cX9_count 165 = .ok (.iconst (-1), 1) by decide +kernel) rfl (by decide) ?_
                  cases h
                  exact tr_iret rfl (show decode cX9_count 166 = .ok (.ireturn, 1) by decide +kernel) hL
                · rcases hm_is h with ⟨hc, h⟩ | ⟨-, h⟩
                  · refine tp_tin (tgt := 165) (off := 117) hc (show decode cX9_count 48 = .ok (.tableswitch 117 0 11 #[64, 72, 80, 88, 96, 104, 117, 117, 117, 117, 117, 109], 64) by decide +kernel) (by decide) (by decide) (by decide) (by decide) ?_
                    refine tr_iconst (pc' := 166) (v := (-1 : Int32)) (show decode cX9_count 165 = .ok (.iconst (-1), 1) by decide +kernel) rfl (by decide) ?_
                    cases h
                    exact tr_iret rfl (show decode cX9_count 166 = .ok (.ireturn, 1) by decide +kernel) hL
                  · rcases hm_is h with ⟨hc, h⟩ | ⟨-, h⟩
                    · refine tp_tin (tgt := 165) (off := 117) hc (show decode cX9_count 48 = .ok (.tableswitch 117 0 11 #[64, 72, 80, 88, 96, 104, 117, 117, 117, 117, 117, 109], 64) by decide +kernel) (by decide) (by decide) (by decide) (by decide) ?_
                      refine tr_iconst (pc' := 166) (v := (-1 : Int32)) (show decode cX9_count 165 = .ok (.iconst (-1), 1) by decide +kernel) rfl (by decide) ?_
                      cases h
                      exact tr_iret rfl (show decode cX9_count 166 = .ok (.ireturn, 1) by decide +kernel) hL
                    · rcases hm_is h with ⟨hc, h⟩ | ⟨-, h⟩
                      · refine tp_tin (tgt := 165) (off := 117) hc (show decode cX9_count 48 = .ok (.tableswitch 117 0 11 #[64, 72, 80, 88, 96, 104, 117, 117, 117, 117, 117, 109], 64) by decide +kernel) (by decide) (by decide) (by decide) (by decide) ?_
                        refine tr_iconst (pc' := 166) (v := (-1 : Int32)) (show decode cX9_count 165 = .ok (.iconst (-1), 1) by decide +kernel) rfl (by decide) ?_
                        cases h
                        exact tr_iret rfl (show decode cX9_count 166 = .ok (.ireturn, 1) by decide +kernel) hL
                      · rcases hm_is h with ⟨hc, h⟩ | ⟨-, h⟩
                        · refine tp_tin (tgt := 165) (off := 117) hc (show decode cX9_count 48 = .ok (.tableswitch 117 0 11 #[64, 72, 80, 88, 96, 104, 117, 117, 117, 117, 117, 109], 64) by decide +kernel) (by decide) (by decide) (by decide) (by decide) ?_
                          refine tr_iconst (pc' := 166) (v := (-1 : Int32)) (show decode cX9_count 165 = .ok (.iconst (-1), 1) by decide +kernel) rfl (by decide) ?_
                          cases h
                          exact tr_iret rfl (show decode cX9_count 166 = .ok (.ireturn, 1) by decide +kernel) hL
                        · rcases hm_is h with ⟨hc, h⟩ | ⟨-, h⟩
                          · refine tp_tin (tgt := 157) (off := 109) hc (show decode cX9_count 48 = .ok (.tableswitch 117 0 11 #[64, 72, 80, 88, 96, 104, 117, 117, 117, 117, 117, 109], 64) by decide +kernel) (by decide) (by decide) (by decide) (by decide) ?_
                            refine tr_aload_n (pc' := 158) (show decode cX9_count 157 = .ok (.aload_n 0, 1) by decide +kernel) rfl rfl rfl ?_
                            refine tr_getR (pc' := 161) fl_HandRing_12 (show decode cX9_count 158 = .ok (.getfield 12, 3) by decide +kernel) rfl (la_o hL (by decide) rfl) (la_r hL 0 rfl) ?_
                            refine tr_getI (pc' := 164) fl_HandRing_215 (show decode cX9_count 161 = .ok (.getfield 215, 3) by decide +kernel) rfl (la_o hL (by decide) rfl) ?_
                            cases h
                            exact tr_iret rfl (show decode cX9_count 164 = .ok (.ireturn, 1) by decide +kernel) hL
                          · cases h
def f_X9_count_J22 (v1 : Int32) (μ1 : hm_M) : Option Int32 :=
  (if v1 < (12 : Int32) then
  f_X9_count_J47 v1 μ1
  else
  (if (15 : Int32) < v1 then
  f_X9_count_J47 v1 μ1
  else
  Option.bind (hm_ld μ1 70 4 (v1 - (12 : Int32))) fun x3 =>
  some x3))
theorem ok_X9_count_J22 {fr : Nat} (hfr : 2 ≤ fr) {ν : hm_N} {r : Int32}  (v1 : Int32)     (μ1 : hm_M) (hL : hm_LL ν μ1) (h : f_X9_count_J22 v1 μ1 = some r) : hm_T (hm_LL ν) m_X9_count fr 0 0 (some (.int r)) μ1 22 [some (.ref 64), some (.int v1)] [] μ1 := by
  unfold f_X9_count_J22 at h
  refine tr_iload_n (pc' := 23) (show decode cX9_count 22 = .ok (.iload_n 1, 1) by decide +kernel) rfl rfl rfl ?_
  refine tr_bipush (pc' := 25) (v := (12 : Int32)) (show decode cX9_count 23 = .ok (.bipush 12, 2) by decide +kernel) rfl (by decide) ?_
  rcases hm_is h with ⟨hc, h⟩ | ⟨hc, h⟩
  · refine tr_icmp_lt_t (tgt := 47) hc (show decode cX9_count 25 = .ok (.if_icmp .lt 22, 3) by decide +kernel) (by decide) ?_
    exact ok_X9_count_J47 hfr _ μ1 hL h
  · refine tr_icmp_lt_f (tgt := 47) (pc' := 28) hc (show decode cX9_count 25 = .ok (.if_icmp .lt 22, 3) by decide +kernel) (by decide) rfl ?_
    refine tr_iload_n (pc' := 29) (show decode cX9_count 28 = .ok (.iload_n 1, 1) by decide +kernel) rfl rfl rfl ?_
    refine tr_bipush (pc' := 31) (v := (15 : Int32)) (show decode cX9_count 29 = .ok (.bipush 15, 2) by decide +kernel) rfl (by decide) ?_
    rcases hm_is h with ⟨hc, h⟩ | ⟨hc, h⟩
    · refine tr_icmp_gt_t (tgt := 47) hc (show decode cX9_count 31 = .ok (.if_icmp .gt 16, 3) by decide +kernel) (by decide) ?_
      exact ok_X9_count_J47 hfr _ μ1 hL h
    · refine tr_icmp_gt_f (tgt := 47) (pc' := 34) hc (show decode cX9_count 31 = .ok (.if_icmp .gt 16, 3) by decide +kernel) (by decide) rfl ?_
      refine tr_aload_n (pc' := 35) (show decode cX9_count 34 = .ok (.aload_n 0, 1) by decide +kernel) rfl rfl rfl ?_
      refine tr_getR (pc' := 38) fl_HandRing_12 (show decode cX9_count 35 = .ok (.getfield 12, 3) by decide +kernel) rfl (la_o hL (by decide) rfl) (la_r hL 0 rfl) ?_
      refine tr_getR (pc' := 41) fl_HandRing_155 (show decode cX9_count 38 = .ok (.getfield 155, 3) by decide +kernel) rfl (la_o hL (by decide) rfl) (la_r hL 17 rfl) ?_
      refine tr_iload_n (pc' := 42) (show decode cX9_count 41 = .ok (.iload_n 1, 1) by decide +kernel) rfl rfl rfl ?_
      refine tr_bipush (pc' := 44) (v := (12 : Int32)) (show decode cX9_count 42 = .ok (.bipush 12, 2) by decide +kernel) rfl (by decide) ?_
      refine tr_isub (pc' := 45) (show decode cX9_count 44 = .ok (.isub, 1) by decide +kernel) rfl ?_
      obtain ⟨x3, ex3, h⟩ := hm_bs h
      refine tp_ldI (pc' := 46) (show decode cX9_count 45 = .ok (.iaload, 1) by decide +kernel) rfl (la_a hL (by decide) rfl) ex3 ?_
      cases h
      exact tr_iret rfl (show decode cX9_count 46 = .ok (.ireturn, 1) by decide +kernel) hL
def f_X9_count (v1 : Int32) (μ : hm_M) : Option Int32 :=
  (if v1 < (6 : Int32) then
  f_X9_count_J22 v1 μ
  else
  (if (10 : Int32) < v1 then
  f_X9_count_J22 v1 μ
  else
  Option.bind (hm_ld μ 157 5 (v1 - (6 : Int32))) fun x4 =>
  some x4))
set_option maxRecDepth 100000 in
theorem ok_X9_count {fr : Nat} (hfr : 2 ≤ fr) {ν : hm_N} {r : Int32}  (v1 : Int32)  (μ : hm_M) (hL : hm_LL ν μ) (h : f_X9_count v1 μ = some r) : hm_CC (hm_LL ν) m_X9_count fr 0 0 [.ref 64, .int v1] μ (some (.int r)) μ := by
  refine hm_enter (lv := [some (.ref 64), some (.int v1)]) (by decide) rfl (Nat.le_of_ble_eq_true rfl) ?_
  unfold f_X9_count at h
  refine tr_iload_n (pc' := 1) (show decode cX9_count 0 = .ok (.iload_n 1, 1) by decide +kernel) rfl rfl rfl ?_
  refine tr_bipush (pc' := 3) (v := (6 : Int32)) (show decode cX9_count 1 = .ok (.bipush 6, 2) by decide +kernel) rfl (by decide) ?_
  rcases hm_is h with ⟨hc, h⟩ | ⟨hc, h⟩
  · refine tr_icmp_lt_t (tgt := 22) hc (show decode cX9_count 3 = .ok (.if_icmp .lt 19, 3) by decide +kernel) (by decide) ?_
    exact ok_X9_count_J22 hfr _ μ hL h
  · refine tr_icmp_lt_f (tgt := 22) (pc' := 6) hc (show decode cX9_count 3 = .ok (.if_icmp .lt 19, 3) by decide +kernel) (by decide) rfl ?_
    refine tr_iload_n (pc' := 7) (show decode cX9_count 6 = .ok (.iload_n 1, 1) by decide +kernel) rfl rfl rfl ?_
    refine tr_bipush (pc' := 9) (v := (10 : Int32)) (show decode cX9_count 7 = .ok (.bipush 10, 2) by decide +kernel) rfl (by decide) ?_
    rcases hm_is h with ⟨hc, h⟩ | ⟨hc, h⟩
    · refine tr_icmp_gt_t (tgt := 22) hc (show decode cX9_count 9 = .ok (.if_icmp .gt 13, 3) by decide +kernel) (by decide) ?_
      exact ok_X9_count_J22 hfr _ μ hL h
    · refine tr_icmp_gt_f (tgt := 22) (pc' := 12) hc (show decode cX9_count 9 = .ok (.if_icmp .gt 13, 3) by decide +kernel) (by decide) rfl ?_
      refine tr_aload_n (pc' := 13) (show decode cX9_count 12 = .ok (.aload_n 0, 1) by decide +kernel) rfl rfl rfl ?_
      refine tr_getR (pc' := 16) fl_HandRing_84 (show decode cX9_count 13 = .ok (.getfield 84, 3) by decide +kernel) rfl (la_o hL (by decide) rfl) (la_r hL 11 rfl) ?_
      refine tr_iload_n (pc' := 17) (show decode cX9_count 16 = .ok (.iload_n 1, 1) by decide +kernel) rfl rfl rfl ?_
      refine tr_bipush (pc' := 19) (v := (6 : Int32)) (show decode cX9_count 17 = .ok (.bipush 6, 2) by decide +kernel) rfl (by decide) ?_
      refine tr_isub (pc' := 20) (show decode cX9_count 19 = .ok (.isub, 1) by decide +kernel) rfl ?_
      obtain ⟨x4, ex4, h⟩ := hm_bs h
      refine tp_ldI (pc' := 21) (show decode cX9_count 20 = .ok (.iaload, 1) by decide +kernel) rfl (la_a hL (by decide) rfl) ex4 ?_
      cases h
      exact tr_iret rfl (show decode cX9_count 21 = .ok (.ireturn, 1) by decide +kernel) hL
def f_X9_status (μ : hm_M) : Option Int32 :=
  some (μ.1 64 16)
set_option maxRecDepth 100000 in
theorem ok_X9_status {fr : Nat} (hfr : 0 ≤ fr) {ν : hm_N} {r : Int32}    (μ : hm_M) (hL : hm_LL ν μ) (h : f_X9_status μ = some r) : hm_CC (hm_LL ν) m_X9_status fr 0 0 [.ref 64] μ (some (.int r)) μ := by
  refine hm_enter (lv := [some (.ref 64)]) (by decide) rfl (Nat.le_of_ble_eq_true rfl) ?_
  unfold f_X9_status at h
  refine tr_aload_n (pc' := 1) (show decode cX9_status 0 = .ok (.aload_n 0, 1) by decide +kernel) rfl rfl rfl ?_
  refine tr_getI (pc' := 4) fl_HandRing_339 (show decode cX9_status 1 = .ok (.getfield 339, 3) by decide +kernel) rfl (la_o hL (by decide) rfl) ?_
  cases h
  exact tr_iret rfl (show decode cX9_status 4 = .ok (.ireturn, 1) by decide +kernel) hL
