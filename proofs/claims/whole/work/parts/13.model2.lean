def f_X10_bounded_J25 (v1 : Int64) (v3 : Int32) (μ1 : hm_M) : Option (Int64 × hm_M) :=
  (if (μ1.1 179 24) = 0 then
  some (v1, μ1)
  else
  some ((0 : Int64), μ1))
theorem ok_X10_bounded_J25 {fr : Nat} (hfr : 0 ≤ fr) {ν : hm_N} {r : Int64} {μR : hm_M}  (v1 : Int64) (v3 : Int32)     (μ1 : hm_M) (hL : hm_LL ν μ1) (h : f_X10_bounded_J25 v1 v3 μ1 = some (r, μR)) : hm_T (hm_LL ν) m_X10_bounded fr 0 0 (some (.long r)) μR 25 [some (.ref 179), some (.long v1), none, none] [] μ1 := by
  unfold f_X10_bounded_J25 at h
  refine tr_aload_n (pc' := 26) (show decode cX10_bounded 25 = .ok (.aload_n 0, 1) by decide +kernel) rfl rfl rfl ?_
  refine tr_getI (pc' := 29) fl_HandRingModel_284 (show decode cX10_bounded 26 = .ok (.getfield 284, 3) by decide +kernel) rfl (la_o hL (by decide) rfl) ?_
  rcases hm_is h with ⟨hc, h⟩ | ⟨hc, h⟩
  · refine tr_if_eq_t (tgt := 36) hc (show decode cX10_bounded 29 = .ok (.ifCond .eq 7, 3) by decide +kernel) (by decide) ?_
    refine tr_lload_n (pc' := 37) (show decode cX10_bounded 36 = .ok (.lload_n 1, 1) by decide +kernel) rfl rfl rfl ?_
    cases h
    exact tr_lret rfl (show decode cX10_bounded 37 = .ok (.lreturn, 1) by decide +kernel) hL
  · refine tr_if_eq_f (tgt := 36) (pc' := 32) hc (show decode cX10_bounded 29 = .ok (.ifCond .eq 7, 3) by decide +kernel) (by decide) rfl ?_
    refine tr_lconst (pc' := 33) (v := (0 : Int64)) (show decode cX10_bounded 32 = .ok (.lconst 0, 1) by decide +kernel) rfl (by decide) ?_
    refine tr_goto (tgt := 37) (show decode cX10_bounded 33 = .ok (.goto 4, 3) by decide +kernel) rfl ?_
    cases h
    exact tr_lret rfl (show decode cX10_bounded 37 = .ok (.lreturn, 1) by decide +kernel) hL
def f_X10_bounded_J20 (v1 : Int64) (v3 : Int32) (μ1 : hm_M) : Option (Int64 × hm_M) :=
  Option.bind (hm_pZ μ1 179 24 (1 : Int32)) fun μ2 =>
  f_X10_bounded_J25 v1 v3 μ2
theorem ok_X10_bounded_J20 {fr : Nat} (hfr : 0 ≤ fr) {ν : hm_N} {r : Int64} {μR : hm_M}  (v1 : Int64) (v3 : Int32)     (μ1 : hm_M) (hL : hm_LL ν μ1) (h : f_X10_bounded_J20 v1 v3 μ1 = some (r, μR)) : hm_T (hm_LL ν) m_X10_bounded fr 0 0 (some (.long r)) μR 20 [some (.ref 179), some (.long v1), none, none] [] μ1 := by
  unfold f_X10_bounded_J20 at h
  refine tr_aload_n (pc' := 21) (show decode cX10_bounded 20 = .ok (.aload_n 0, 1) by decide +kernel) rfl rfl rfl ?_
  refine tr_iconst (pc' := 22) (v := (1 : Int32)) (show decode cX10_bounded 21 = .ok (.iconst 1, 1) by decide +kernel) rfl (by decide) ?_
  obtain ⟨μ2, eμ2, h⟩ := hm_bs h
  refine tp_pZ (pc' := 25) fl_HandRingModel_284 (show decode cX10_bounded 22 = .ok (.putfield 284, 3) by decide +kernel) rfl (la_o hL (by decide) rfl) eμ2 ?_
  replace hL := hL.same (hm_pZ_s eμ2)
  exact ok_X10_bounded_J25 hfr _ _ μ2 hL h
def f_X10_bounded (v1 : Int64) (v3 : Int32) (μ : hm_M) : Option (Int64 × hm_M) :=
  (if v3 = 0 then
  f_X10_bounded_J25 v1 v3 μ
  else
  (if 0 < (lg_cmp v1 (1000000000 : Int64)) then
  f_X10_bounded_J20 v1 v3 μ
  else
  (if 0 ≤ (lg_cmp v1 (-1000000000 : Int64)) then
  f_X10_bounded_J25 v1 v3 μ
  else
  f_X10_bounded_J20 v1 v3 μ)))
set_option maxRecDepth 100000 in
theorem ok_X10_bounded {fr : Nat} (hfr : 0 ≤ fr) {ν : hm_N} {r : Int64} {μR : hm_M}  (v1 : Int64) (v3 : Int32)  (μ : hm_M) (hL : hm_LL ν μ) (h : f_X10_bounded v1 v3 μ = some (r, μR)) : hm_CC (hm_LL ν) m_X10_bounded fr 0 0 [.ref 179, .long v1, .int v3] μ (some (.long r)) μR := by
  refine hm_enter (lv := [some (.ref 179), some (.long v1), none, some (.int v3)]) (by decide) rfl (Nat.le_of_ble_eq_true rfl) ?_
  unfold f_X10_bounded at h
  refine tr_iload_n (pc' := 1) (show decode cX10_bounded 0 = .ok (.iload_n 3, 1) by decide +kernel) rfl rfl rfl ?_
  rcases hm_is h with ⟨hc, h⟩ | ⟨hc, h⟩
  · refine tr_if_eq_t (tgt := 25) hc (show decode cX10_bounded 1 = .ok (.ifCond .eq 24, 3) by decide +kernel) (by decide) ?_
    refine hm_fgt [true, true, false, false] (lv' := [some (.ref 179), some (.long v1), none, none]) rfl ?_
    exact ok_X10_bounded_J25 hfr _ _ μ hL h
  · refine tr_if_eq_f (tgt := 25) (pc' := 4) hc (show decode cX10_bounded 1 = .ok (.ifCond .eq 24, 3) by decide +kernel) (by decide) rfl ?_
    refine tr_lload_n (pc' := 5) (show decode cX10_bounded 4 = .ok (.lload_n 1, 1) by decide +kernel) rfl rfl rfl ?_
    refine tr_ldc2 (pc' := 8) (v := (1000000000 : Int64)) (show decode cX10_bounded 5 = .ok (.ldc2_w 280, 3) by decide +kernel) rfl kd_HandRingModel_280 ?_
    refine tr_lcmp (pc' := 9) (show decode cX10_bounded 8 = .ok (.lcmp, 1) by decide +kernel) rfl ?_
    rcases hm_is h with ⟨hc, h⟩ | ⟨hc, h⟩
    · refine tr_if_gt_t (tgt := 20) hc (show decode cX10_bounded 9 = .ok (.ifCond .gt 11, 3) by decide +kernel) (by decide) ?_
      refine hm_fgt [true, true, false, false] (lv' := [some (.ref 179), some (.long v1), none, none]) rfl ?_
      exact ok_X10_bounded_J20 hfr _ _ μ hL h
    · refine tr_if_gt_f (tgt := 20) (pc' := 12) hc (show decode cX10_bounded 9 = .ok (.ifCond .gt 11, 3) by decide +kernel) (by decide) rfl ?_
      refine tr_lload_n (pc' := 13) (show decode cX10_bounded 12 = .ok (.lload_n 1, 1) by decide +kernel) rfl rfl rfl ?_
      refine tr_ldc2 (pc' := 16) (v := (-1000000000 : Int64)) (show decode cX10_bounded 13 = .ok (.ldc2_w 282, 3) by decide +kernel) rfl kd_HandRingModel_282 ?_
      refine tr_lcmp (pc' := 17) (show decode cX10_bounded 16 = .ok (.lcmp, 1) by decide +kernel) rfl ?_
      rcases hm_is h with ⟨hc, h⟩ | ⟨hc, h⟩
      · refine tr_if_ge_t (tgt := 25) hc (show decode cX10_bounded 17 = .ok (.ifCond .ge 8, 3) by decide +kernel) (by decide) ?_
        refine hm_fgt [true, true, false, false] (lv' := [some (.ref 179), some (.long v1), none, none]) rfl ?_
        exact ok_X10_bounded_J25 hfr _ _ μ hL h
      · refine tr_if_ge_f (tgt := 25) (pc' := 20) hc (show decode cX10_bounded 17 = .ok (.ifCond .ge 8, 3) by decide +kernel) (by decide) rfl ?_
        refine hm_fgt [true, true, false, false] (lv' := [some (.ref 179), some (.long v1), none, none]) rfl ?_
        exact ok_X10_bounded_J20 hfr _ _ μ hL h
def f_X10_partOf_J94 (k_X10_partOf : Int32 → hm_M → Option (Int64 × hm_M)) (k_X10_sumOf : Int32 → hm_M → Option (Int64 × hm_M)) (k_X10_termOf : Int32 → hm_M → Option (Int64 × hm_M)) (v1 : Int32) (y2 : Int32) (y3 : Int32) (μ1 : hm_M) : Option (Int64 × hm_M) :=
  (if v1 = 0 then
  some ((0 : Int64), μ1)
  else
  (if (μ1.1 179 24) = 0 then
  (if y2 = (50 : Int32) then
  Option.bind (hm_ld μ1 181 5665 (((2865 : Int32) + (μ1.1 179 22)) - (1 : Int32))) fun x9 =>
  some (x9.toInt64, μ1)
  else
  (if (μ1.1 179 25) = 0 then
  Option.bind (hm_ld μ1 191 8 (y2 - (8 : Int32))) fun x7 =>
  some (x7.toInt64, μ1)
  else
  Option.bind (f_X10_orderValue y2 y3 μ1) fun x8 =>
  some (x8.toInt64, μ1)))
  else
  some ((0 : Int64), μ1)))
theorem ok_X10_partOf_J94 {fr : Nat} (hfr : 4 ≤ fr) {ν : hm_N} {r : Int64} {μR : hm_M} (k_X10_partOf : Int32 → hm_M → Option (Int64 × hm_M)) (hk_X10_partOf : ∀ {r : Int64} {μR : hm_M} (v1 : Int32)  (μ : hm_M), hm_LL ν μ → k_X10_partOf v1 μ = some (r, μR) → hm_CC (hm_LL ν) m_X10_partOf (fr - 1) 0 0 [.ref 179, .int v1] μ (some (.long r)) μR) (k_X10_sumOf : Int32 → hm_M → Option (Int64 × hm_M)) (hk_X10_sumOf : ∀ {r : Int64} {μR : hm_M} (v1 : Int32)  (μ : hm_M), hm_LL ν μ → k_X10_sumOf v1 μ = some (r, μR) → hm_CC (hm_LL ν) m_X10_sumOf (fr - 1) 0 0 [.ref 179, .int v1] μ (some (.long r)) μR) (k_X10_termOf : Int32 → hm_M → Option (Int64 × hm_M)) (hk_X10_termOf : ∀ {r : Int64} {μR : hm_M} (v1 : Int32)  (μ : hm_M), hm_LL ν μ → k_X10_termOf v1 μ = some (r, μR) → hm_CC (hm_LL ν) m_X10_termOf (fr - 1) 0 0 [.ref 179, .int v1] μ (some (.long r)) μR) (v1 : Int32)    (y2 : Int32) (y3 : Int32) (μ1 : hm_M) (hL : hm_LL ν μ1) (h : f_X10_partOf_J94 k_X10_partOf k_X10_sumOf k_X10_termOf v1 y2 y3 μ1 = some (r, μR)) : hm_T (hm_LL ν) m_X10_partOf fr 0 0 (some (.long r)) μR 94 [some (.ref 179), some (.int v1), some (.int y2), some (.int y3)] [] μ1 := by
  unfold f_X10_partOf_J94 at h
  refine tr_iload_n (pc' := 95) (show decode cX10_partOf 94 = .ok (.iload_n 1, 1) by decide +kernel) rfl rfl rfl ?_
  rcases hm_is h with ⟨hc, h⟩ | ⟨hc, h⟩
  · refine tr_if_eq_t (tgt := 105) hc (show decode cX10_partOf 95 = .ok (.ifCond .eq 10, 3) by decide +kernel) (by decide) ?_
    refine tr_lconst (pc' := 106) (v := (0 : Int64)) (show decode cX10_partOf 105 = .ok (.lconst 0, 1) by decide +kernel) rfl (by decide) ?_
    cases h
    exact tr_lret rfl (show decode cX10_partOf 106 = .ok (.lreturn, 1) by decide +kernel) hL
  · refine tr_if_eq_f (tgt := 105) (pc' := 98) hc (show decode cX10_partOf 95 = .ok (.ifCond .eq 10, 3) by decide +kernel) (by decide) rfl ?_
    refine tr_aload_n (pc' := 99) (show decode cX10_partOf 98 = .ok (.aload_n 0, 1) by decide +kernel) rfl rfl rfl ?_
    refine tr_getI (pc' := 102) fl_HandRingModel_284 (show decode cX10_partOf 99 = .ok (.getfield 284, 3) by decide +kernel) rfl (la_o hL (by decide) rfl) ?_
    rcases hm_is h with ⟨hc, h⟩ | ⟨hc, h⟩
    · refine tr_if_eq_t (tgt := 107) hc (show decode cX10_partOf 102 = .ok (.ifCond .eq 5, 3) by decide +kernel) (by decide) ?_
      refine tr_iload_n (pc' := 108) (show decode cX10_partOf 107 = .ok (.iload_n 2, 1) by decide +kernel) rfl rfl rfl ?_
      refine tr_bipush (pc' := 110) (v := (50 : Int32)) (show decode cX10_partOf 108 = .ok (.bipush 50, 2) by decide +kernel) rfl (by decide) ?_
      rcases hm_is h with ⟨hc, h⟩ | ⟨hc, h⟩
      · refine tr_icmp_ne_f (tgt := 130) (pc' := 113) hc (show decode cX10_partOf 110 = .ok (.if_icmp .ne 20, 3) by decide +kernel) (by decide) rfl ?_
        refine tr_aload_n (pc' := 114) (show decode cX10_partOf 113 = .ok (.aload_n 0, 1) by decide +kernel) rfl rfl rfl ?_
        refine tr_getR (pc' := 117) fl_HandRingModel_24 (show decode cX10_partOf 114 = .ok (.getfield 24, 3) by decide +kernel) rfl (la_o hL (by decide) rfl) (la_r hL 118 rfl) ?_
        refine tr_sipush (pc' := 120) (v := (2865 : Int32)) (show decode cX10_partOf 117 = .ok (.sipush 2865, 3) by decide +kernel) rfl (by decide) ?_
        refine tr_aload_n (pc' := 121) (show decode cX10_partOf 120 = .ok (.aload_n 0, 1) by decide +kernel) rfl rfl rfl ?_
        refine tr_getI (pc' := 124) fl_HandRingModel_274 (show decode cX10_partOf 121 = .ok (.getfield 274, 3) by decide +kernel) rfl (la_o hL (by decide) rfl) ?_
        refine tr_iadd (pc' := 125) (show decode cX10_partOf 124 = .ok (.iadd, 1) by decide +kernel) rfl ?_
        refine tr_iconst (pc' := 126) (v := (1 : Int32)) (show decode cX10_partOf 125 = .ok (.iconst 1, 1) by decide +kernel) rfl (by decide) ?_
        refine tr_isub (pc' := 127) (show decode cX10_partOf 126 = .ok (.isub, 1) by decide +kernel) rfl ?_
        obtain ⟨x9, ex9, h⟩ := hm_bs h
        refine tp_ldI (pc' := 128) (show decode cX10_partOf 127 = .ok (.iaload, 1) by decide +kernel) rfl (la_a hL (by decide) rfl) ex9 ?_
        refine tr_i2l (pc' := 129) (show decode cX10_partOf 128 = .ok (.i2l, 1) by decide +kernel) rfl ?_
        cases h
        exact tr_lret rfl (show decode cX10_partOf 129 = .ok (.lreturn, 1) by decide +kernel) hL
      · refine tr_icmp_ne_t (tgt := 130) hc (show decode cX10_partOf 110 = .ok (.if_icmp .ne 20, 3) by decide +kernel) (by decide) ?_
        refine tr_aload_n (pc' := 131) (show decode cX10_partOf 130 = .ok (.aload_n 0, 1) by decide +kernel) rfl rfl rfl ?_
        refine tr_getI (pc' := 134) fl_HandRingModel_304 (show decode cX10_partOf 131 = .ok (.getfield 304, 3) by decide +kernel) rfl (la_o hL (by decide) rfl) ?_
        rcases hm_is h with ⟨hc, h⟩ | ⟨hc, h⟩
        · refine tr_if_eq_t (tgt := 147) hc (show decode cX10_partOf 134 = .ok (.ifCond .eq 13, 3) by decide +kernel) (by decide) ?_
          refine tr_aload_n (pc' := 148) (show decode cX10_partOf 147 = .ok (.aload_n 0, 1) by decide +kernel) rfl rfl rfl ?_
          refine tr_getR (pc' := 151) fl_HandRingModel_59 (show decode cX10_partOf 148 = .ok (.getfield 59, 3) by decide +kernel) rfl (la_o hL (by decide) rfl) (la_r hL 128 rfl) ?_
          refine tr_iload_n (pc' := 152) (show decode cX10_partOf 151 = .ok (.iload_n 2, 1) by decide +kernel) rfl rfl rfl ?_
          refine tr_bipush (pc' := 154) (v := (8 : Int32)) (show decode cX10_partOf 152 = .ok (.bipush 8, 2) by decide +kernel) rfl (by decide) ?_
          refine tr_isub (pc' := 155) (show decode cX10_partOf 154 = .ok (.isub, 1) by decide +kernel) rfl ?_
          obtain ⟨x7, ex7, h⟩ := hm_bs h
          refine tp_ldI (pc' := 156) (show decode cX10_partOf 155 = .ok (.iaload, 1) by decide +kernel) rfl (la_a hL (by decide) rfl) ex7 ?_
          refine tr_i2l (pc' := 157) (show decode cX10_partOf 156 = .ok (.i2l, 1) by decide +kernel) rfl ?_
          cases h
          exact tr_lret rfl (show decode cX10_partOf 157 = .ok (.lreturn, 1) by decide +kernel) hL
        · refine tr_if_eq_f (tgt := 147) (pc' := 137) hc (show decode cX10_partOf 134 = .ok (.ifCond .eq 13, 3) by decide +kernel) (by decide) rfl ?_
          refine tr_aload_n (pc' := 138) (show decode cX10_partOf 137 = .ok (.aload_n 0, 1) by decide +kernel) rfl rfl rfl ?_
          refine tr_iload_n (pc' := 139) (show decode cX10_partOf 138 = .ok (.iload_n 2, 1) by decide +kernel) rfl rfl rfl ?_
          refine tr_iload_n (pc' := 140) (show decode cX10_partOf 139 = .ok (.iload_n 3, 1) by decide +kernel) rfl rfl rfl ?_
          obtain ⟨x8, ex8, h⟩ := hm_bs h
          have cx8 := ok_X10_orderValue (fr := fr - 1) (ν := ν) (by omega) y2 y3 μ1 hL ex8
          refine tp_callV (pc' := 143) (As := [.int y2, .int y3]) (fr1 := fr - 1) (ci := 10) okm_X10_orderValue lk_HandRingModel_307 (show decode cX10_partOf 140 = .ok (.invokevirtual 307, 3) by decide +kernel) rfl rfl rfl (by decide) (la_o hL (by decide) rfl) rfl rfl (Nat.le_of_ble_eq_true rfl) (by omega) cx8 (st' := [.int x8]) rfl ?_
          refine tr_i2l (pc' := 144) (show decode cX10_partOf 143 = .ok (.i2l, 1) by decide +kernel) rfl ?_
          refine tr_goto (tgt := 157) (show decode cX10_partOf 144 = .ok (.goto 13, 3) by decide +kernel) rfl ?_
          cases h
          exact tr_lret rfl (show decode cX10_partOf 157 = .ok (.lreturn, 1) by decide +kernel) hL
    · refine tr_if_eq_f (tgt := 107) (pc' := 105) hc (show decode cX10_partOf 102 = .ok (.ifCond .eq 5, 3) by decide +kernel) (by decide) rfl ?_
      refine tr_lconst (pc' := 106) (v := (0 : Int64)) (show decode cX10_partOf 105 = .ok (.lconst 0, 1) by decide +kernel) rfl (by decide) ?_
      cases h
      exact tr_lret rfl (show decode cX10_partOf 106 = .ok (.lreturn, 1) by decide +kernel) hL
def f_X10_partOf_J70 (k_X10_partOf : Int32 → hm_M → Option (Int64 × hm_M)) (k_X10_sumOf : Int32 → hm_M → Option (Int64 × hm_M)) (k_X10_termOf : Int32 → hm_M → Option (Int64 × hm_M)) (v1 : Int32) (y2 : Int32) (μ1 : hm_M) : Option (Int64 × hm_M) :=
  Option.bind (hm_ld μ1 181 5665 ((2865 : Int32) + (μ1.1 179 22))) fun x10 =>
  Option.bind (hm_pI μ1 179 22 ((μ1.1 179 22) + (1 : Int32))) fun μ11 =>
  f_X10_partOf_J94 k_X10_partOf k_X10_sumOf k_X10_termOf v1 y2 x10 μ11
theorem ok_X10_partOf_J70 {fr : Nat} (hfr : 4 ≤ fr) {ν : hm_N} {r : Int64} {μR : hm_M} (k_X10_partOf : Int32 → hm_M → Option (Int64 × hm_M)) (hk_X10_partOf : ∀ {r : Int64} {μR : hm_M} (v1 : Int32)  (μ : hm_M), hm_LL ν μ → k_X10_partOf v1 μ = some (r, μR) → hm_CC (hm_LL ν) m_X10_partOf (fr - 1) 0 0 [.ref 179, .int v1] μ (some (.long r)) μR) (k_X10_sumOf : Int32 → hm_M → Option (Int64 × hm_M)) (hk_X10_sumOf : ∀ {r : Int64} {μR : hm_M} (v1 : Int32)  (μ : hm_M), hm_LL ν μ → k_X10_sumOf v1 μ = some (r, μR) → hm_CC (hm_LL ν) m_X10_sumOf (fr - 1) 0 0 [.ref 179, .int v1] μ (some (.long r)) μR) (k_X10_termOf : Int32 → hm_M → Option (Int64 × hm_M)) (hk_X10_termOf : ∀ {r : Int64} {μR : hm_M} (v1 : Int32)  (μ : hm_M), hm_LL ν μ → k_X10_termOf v1 μ = some (r, μR) → hm_CC (hm_LL ν) m_X10_termOf (fr - 1) 0 0 [.ref 179, .int v1] μ (some (.long r)) μR) (v1 : Int32)    (y2 : Int32) (μ1 : hm_M) (hL : hm_LL ν μ1) (h : f_X10_partOf_J70 k_X10_partOf k_X10_sumOf k_X10_termOf v1 y2 μ1 = some (r, μR)) : hm_T (hm_LL ν) m_X10_partOf fr 0 0 (some (.long r)) μR 70 [some (.ref 179), some (.int v1), some (.int y2), none] [] μ1 := by
  unfold f_X10_partOf_J70 at h
  refine tr_aload_n (pc' := 71) (show decode cX10_partOf 70 = .ok (.aload_n 0, 1) by decide +kernel) rfl rfl rfl ?_
  refine tr_getR (pc' := 74) fl_HandRingModel_24 (show decode cX10_partOf 71 = .ok (.getfield 24, 3) by decide +kernel) rfl (la_o hL (by decide) rfl) (la_r hL 118 rfl) ?_
  refine tr_sipush (pc' := 77) (v := (2865 : Int32)) (show decode cX10_partOf 74 = .ok (.sipush 2865, 3) by decide +kernel) rfl (by decide) ?_
  refine tr_aload_n (pc' := 78) (show decode cX10_partOf 77 = .ok (.aload_n 0, 1) by decide +kernel) rfl rfl rfl ?_
  refine tr_getI (pc' := 81) fl_HandRingModel_274 (show decode cX10_partOf 78 = .ok (.getfield 274, 3) by decide +kernel) rfl (la_o hL (by decide) rfl) ?_
  refine tr_iadd (pc' := 82) (show decode cX10_partOf 81 = .ok (.iadd, 1) by decide +kernel) rfl ?_
  obtain ⟨x10, ex10, h⟩ := hm_bs h
  refine tp_ldI (pc' := 83) (show decode cX10_partOf 82 = .ok (.iaload, 1) by decide +kernel) rfl (la_a hL (by decide) rfl) ex10 ?_
  refine tr_istore_n (pc' := 84) (lv' := [some (.ref 179), some (.int v1), some (.int y2), some (.int x10)]) (show decode cX10_partOf 83 = .ok (.istore_n 3, 1) by decide +kernel) rfl rfl (Nat.le_of_ble_eq_true rfl) rfl rfl ?_
  refine tr_aload_n (pc' := 85) (show decode cX10_partOf 84 = .ok (.aload_n 0, 1) by decide +kernel) rfl rfl rfl ?_
  refine tr_dup (pc' := 86) (show decode cX10_partOf 85 = .ok (.dup, 1) by decide +kernel) rfl rfl ?_
  refine tr_getI (pc' := 89) fl_HandRingModel_274 (show decode cX10_partOf 86 = .ok (.getfield 274, 3) by decide +kernel) rfl (la_o hL (by decide) rfl) ?_
  refine tr_iconst (pc' := 90) (v := (1 : Int32)) (show decode cX10_partOf 89 = .ok (.iconst 1, 1) by decide +kernel) rfl (by decide) ?_
  refine tr_iadd (pc' := 91) (show decode cX10_partOf 90 = .ok (.iadd, 1) by decide +kernel) rfl ?_
  obtain ⟨μ11, eμ11, h⟩ := hm_bs h
  refine tp_pI (pc' := 94) fl_HandRingModel_274 (show decode cX10_partOf 91 = .ok (.putfield 274, 3) by decide +kernel) rfl (la_o hL (by decide) rfl) eμ11 ?_
  replace hL := hL.same (hm_pI_s eμ11)
  exact ok_X10_partOf_J94 hfr k_X10_partOf hk_X10_partOf k_X10_sumOf hk_X10_sumOf k_X10_termOf hk_X10_termOf _ y2 x10 μ11 hL h
def f_X10_partOf (k_X10_partOf : Int32 → hm_M → Option (Int64 × hm_M)) (k_X10_sumOf : Int32 → hm_M → Option (Int64 × hm_M)) (k_X10_termOf : Int32 → hm_M → Option (Int64 × hm_M)) (v1 : Int32) (μ : hm_M) : Option (Int64 × hm_M) :=
  Option.bind (f_X10_sign (91 : Int32)) fun x2 =>
  hm_b2 (f_X10_passes0 x2 μ) fun x3 μ4 =>
  (if x3 = 0 then
  Option.bind (f_X10_codeAt (μ4.1 179 22) μ4) fun x5 =>
  Option.bind (hm_pI μ4 179 22 ((μ4.1 179 22) + (1 : Int32))) fun μ6 =>
  (if (μ6.1 179 25) = 0 then
  f_X10_partOf_J94 k_X10_partOf k_X10_sumOf k_X10_termOf v1 x5 (0 : Int32) μ6
  else
  (if x5 = (20 : Int32) then
  f_X10_partOf_J70 k_X10_partOf k_X10_sumOf k_X10_termOf v1 x5 μ6
  else
  (if x5 = (21 : Int32) then
  f_X10_partOf_J70 k_X10_partOf k_X10_sumOf k_X10_termOf v1 x5 μ6
  else
  f_X10_partOf_J94 k_X10_partOf k_X10_sumOf k_X10_termOf v1 x5 (0 : Int32) μ6)))
  else
  hm_b2 (k_X10_sumOf v1 μ4) fun x12 μ13 =>
  Option.bind (hm_pI μ13 179 22 ((μ13.1 179 22) + (1 : Int32))) fun μ14 =>
  some (x12, μ14))
set_option maxRecDepth 100000 in
theorem ok_X10_partOf {fr : Nat} (hfr : 4 ≤ fr) {ν : hm_N} {r : Int64} {μR : hm_M} (k_X10_partOf : Int32 → hm_M → Option (Int64 × hm_M)) (hk_X10_partOf : ∀ {r : Int64} {μR : hm_M} (v1 : Int32)  (μ : hm_M), hm_LL ν μ → k_X10_partOf v1 μ = some (r, μR) → hm_CC (hm_LL ν) m_X10_partOf (fr - 1) 0 0 [.ref 179, .int v1] μ (some (.long r)) μR) (k_X10_sumOf : Int32 → hm_M → Option (Int64 × hm_M)) (hk_X10_sumOf : ∀ {r : Int64} {μR : hm_M} (v1 : Int32)  (μ : hm_M), hm_LL ν μ → k_X10_sumOf v1 μ = some (r, μR) → hm_CC (hm_LL ν) m_X10_sumOf (fr - 1) 0 0 [.ref 179, .int v1] μ (some (.long r)) μR) (k_X10_termOf : Int32 → hm_M → Option (Int64 × hm_M)) (hk_X10_termOf : ∀ {r : Int64} {μR : hm_M} (v1 : Int32)  (μ : hm_M), hm_LL ν μ → k_X10_termOf v1 μ = some (r, μR) → hm_CC (hm_LL ν) m_X10_termOf (fr - 1) 0 0 [.ref 179, .int v1] μ (some (.long r)) μR) (v1 : Int32)  (μ : hm_M) (hL : hm_LL ν μ) (h : f_X10_partOf k_X10_partOf k_X10_sumOf k_X10_termOf v1 μ = some (r, μR)) : hm_CC (hm_LL ν) m_X10_partOf fr 0 0 [.ref 179, .int v1] μ (some (.long r)) μR := by
  refine hm_enter (lv := [some (.ref 179), some (.int v1), none, none]) (by decide) rfl (Nat.le_of_ble_eq_true rfl) ?_
  unfold f_X10_partOf at h
  refine tr_aload_n (pc' := 1) (show decode cX10_partOf 0 = .ok (.aload_n 0, 1) by decide +kernel) rfl rfl rfl ?_
  refine tr_bipush (pc' := 3) (v := (91 : Int32)) (show decode cX10_partOf 1 = .ok (.bipush 91, 2) by decide +kernel) rfl (by decide) ?_
  obtain ⟨x2, ex2, h⟩ := hm_bs h
  have cx2 := ok_X10_sign (fr := fr - 1) (ν := ν) (by omega) (91 : Int32) μ hL ex2
  refine tp_callS (pc' := 6) (As := [.int (91 : Int32)]) (fr1 := fr - 1) okm_X10_sign lk_HandRingModel_233 (show decode cX10_partOf 3 = .ok (.invokestatic 233, 3) by decide +kernel) rfl rfl rfl (Nat.le_of_ble_eq_true rfl) (by omega) cx2 (st' := [.int x2, .ref 179]) rfl ?_
  obtain ⟨x3, μ4, ex3, h⟩ := hm_b2s h
  have cx3 := ok_X10_passes0 (fr := fr - 1) (ν := ν) (by omega) x2 μ hL ex3
  refine tp_callV (pc' := 9) (As := [.int x2]) (fr1 := fr - 1) (ci := 10) okm_X10_passes0 lk_HandRingModel_298 (show decode cX10_partOf 6 = .ok (.invokevirtual 298, 3) by decide +kernel) rfl rfl rfl (by decide) (la_o hL (by decide) rfl) rfl rfl (Nat.le_of_ble_eq_true rfl) (by omega) cx3 (st' := [.int x3]) rfl ?_
  replace hL := cx3.1
  rcases hm_is h with ⟨hc, h⟩ | ⟨hc, h⟩
  · refine tr_if_eq_t (tgt := 30) hc (show decode cX10_partOf 9 = .ok (.ifCond .eq 21, 3) by decide +kernel) (by decide) ?_
    refine tr_aload_n (pc' := 31) (show decode cX10_partOf 30 = .ok (.aload_n 0, 1) by decide +kernel) rfl rfl rfl ?_
    refine tr_aload_n (pc' := 32) (show decode cX10_partOf 31 = .ok (.aload_n 0, 1) by decide +kernel) rfl rfl rfl ?_
    refine tr_getI (pc' := 35) fl_HandRingModel_274 (show decode cX10_partOf 32 = .ok (.getfield 274, 3) by decide +kernel) rfl (la_o hL (by decide) rfl) ?_
    obtain ⟨x5, ex5, h⟩ := hm_bs h
    have cx5 := ok_X10_codeAt (fr := fr - 1) (ν := ν) (by omega) (μ4.1 179 22) μ4 hL ex5
    refine tp_callV (pc' := 38) (As := [.int (μ4.1 179 22)]) (fr1 := fr - 1) (ci := 10) okm_X10_codeAt lk_HandRingModel_277 (show decode cX10_partOf 35 = .ok (.invokevirtual 277, 3) by decide +kernel) rfl rfl rfl (by decide) (la_o hL (by decide) rfl) rfl rfl (Nat.le_of_ble_eq_true rfl) (by omega) cx5 (st' := [.int x5]) rfl ?_
    refine tr_istore_n (pc' := 39) (lv' := [some (.ref 179), some (.int v1), some (.int x5), none]) (show decode cX10_partOf 38 = .ok (.istore_n 2, 1) by decide +kernel) rfl rfl (Nat.le_of_ble_eq_true rfl) rfl rfl ?_
    refine tr_iconst (pc' := 40) (v := (0 : Int32)) (show decode cX10_partOf 39 = .ok (.iconst 0, 1) by decide +kernel) rfl (by decide) ?_
    refine tr_istore_n (pc' := 41) (lv' := [some (.ref 179), some (.int v1), some (.int x5), some (.int (0 : Int32))]) (show decode cX10_partOf 40 = .ok (.istore_n 3, 1) by decide +kernel) rfl rfl (Nat.le_of_ble_eq_true rfl) rfl rfl ?_
    refine tr_aload_n (pc' := 42) (show decode cX10_partOf 41 = .ok (.aload_n 0, 1) by decide +kernel) rfl rfl rfl ?_
    refine tr_dup (pc' := 43) (show decode cX10_partOf 42 = .ok (.dup, 1) by decide +kernel) rfl rfl ?_
    refine tr_getI (pc' := 46) fl_HandRingModel_274 (show decode cX10_partOf 43 = .ok (.getfield 274, 3) by decide +kernel) rfl (la_o hL (by decide) rfl) ?_
    refine tr_iconst (pc' := 47) (v := (1 : Int32)) (show decode cX10_partOf 46 = .ok (.iconst 1, 1) by decide +kernel) rfl (by decide) ?_
    refine tr_iadd (pc' := 48) (show decode cX10_partOf 47 = .ok (.iadd, 1) by decide +kernel) rfl ?_
    obtain ⟨μ6, eμ6, h⟩ := hm_bs h
    refine tp_pI (pc' := 51) fl_HandRingModel_274 (show decode cX10_partOf 48 = .ok (.putfield 274, 3) by decide +kernel) rfl (la_o hL (by decide) rfl) eμ6 ?_
    replace hL := hL.same (hm_pI_s eμ6)
    refine tr_aload_n (pc' := 52) (show decode cX10_partOf 51 = .ok (.aload_n 0, 1) by decide +kernel) rfl rfl rfl ?_
    refine tr_getI (pc' := 55) fl_HandRingModel_304 (show decode cX10_partOf 52 = .ok (.getfield 304, 3) by decide +kernel) rfl (la_o hL (by decide) rfl) ?_
    rcases hm_is h with ⟨hc, h⟩ | ⟨hc, h⟩
    · refine tr_if_eq_t (tgt := 94) hc (show decode cX10_partOf 55 = .ok (.ifCond .eq 39, 3) by decide +kernel) (by decide) ?_
      exact ok_X10_partOf_J94 hfr k_X10_partOf hk_X10_partOf k_X10_sumOf hk_X10_sumOf k_X10_termOf hk_X10_termOf _ x5 (0 : Int32) μ6 hL h
    · refine tr_if_eq_f (tgt := 94) (pc' := 58) hc (show decode cX10_partOf 55 = .ok (.ifCond .eq 39, 3) by decide +kernel) (by decide) rfl ?_
      refine tr_iload_n (pc' := 59) (show decode cX10_partOf 58 = .ok (.iload_n 2, 1) by decide +kernel) rfl rfl rfl ?_
      refine tr_bipush (pc' := 61) (v := (20 : Int32)) (show decode cX10_partOf 59 = .ok (.bipush 20, 2) by decide +kernel) rfl (by decide) ?_
      rcases hm_is h with ⟨hc, h⟩ | ⟨hc, h⟩
      · refine tr_icmp_eq_t (tgt := 70) hc (show decode cX10_partOf 61 = .ok (.if_icmp .eq 9, 3) by decide +kernel) (by decide) ?_
        refine hm_fgt [true, true, true, false] (lv' := [some (.ref 179), some (.int v1), some (.int x5), none]) rfl ?_
        exact ok_X10_partOf_J70 hfr k_X10_partOf hk_X10_partOf k_X10_sumOf hk_X10_sumOf k_X10_termOf hk_X10_termOf _ x5 μ6 hL h
      · refine tr_icmp_eq_f (tgt := 70) (pc' := 64) hc (show decode cX10_partOf 61 = .ok (.if_icmp .eq 9, 3) by decide +kernel) (by decide) rfl ?_
        refine tr_iload_n (pc' := 65) (show decode cX10_partOf 64 = .ok (.iload_n 2, 1) by decide +kernel) rfl rfl rfl ?_
        refine tr_bipush (pc' := 67) (v := (21 : Int32)) (show decode cX10_partOf 65 = .ok (.bipush 21, 2) by decide +kernel) rfl (by decide) ?_
        rcases hm_is h with ⟨hc, h⟩ | ⟨hc, h⟩
        · refine tr_icmp_ne_f (tgt := 94) (pc' := 70) hc (show decode cX10_partOf 67 = .ok (.if_icmp .ne 27, 3) by decide +kernel) (by decide) rfl ?_
          refine hm_fgt [true, true, true, false] (lv' := [some (.ref 179), some (.int v1), some (.int x5), none]) rfl ?_
          exact ok_X10_partOf_J70 hfr k_X10_partOf hk_X10_partOf k_X10_sumOf hk_X10_sumOf k_X10_termOf hk_X10_termOf _ x5 μ6 hL h
        · refine tr_icmp_ne_t (tgt := 94) hc (show decode cX10_partOf 67 = .ok (.if_icmp .ne 27, 3) by decide +kernel) (by decide) ?_
          exact ok_X10_partOf_J94 hfr k_X10_partOf hk_X10_partOf k_X10_sumOf hk_X10_sumOf k_X10_termOf hk_X10_termOf _ x5 (0 : Int32) μ6 hL h
  · refine tr_if_eq_f (tgt := 30) (pc' := 12) hc (show decode cX10_partOf 9 = .ok (.ifCond .eq 21, 3) by decide +kernel) (by decide) rfl ?_
    refine tr_aload_n (pc' := 13) (show decode cX10_partOf 12 = .ok (.aload_n 0, 1) by decide +kernel) rfl rfl rfl ?_
    refine tr_iload_n (pc' := 14) (show decode cX10_partOf 13 = .ok (.iload_n 1, 1) by decide +kernel) rfl rfl rfl ?_
    obtain ⟨x12, μ13, ex12, h⟩ := hm_b2s h
    have cx12 := hk_X10_sumOf v1 μ4 hL ex12
    refine tp_callV (pc' := 17) (As := [.int v1]) (fr1 := fr - 1) (ci := 10) okm_X10_sumOf lk_HandRingModel_301 (show decode cX10_partOf 14 = .ok (.invokevirtual 301, 3) by decide +kernel) rfl rfl rfl (by decide) (la_o hL (by decide) rfl) rfl rfl (Nat.le_of_ble_eq_true rfl) (by omega) cx12 (st' := [.long x12]) rfl ?_
    replace hL := cx12.1
    refine tr_lstore_n (pc' := 18) (lv' := [some (.ref 179), some (.int v1), some (.long x12), none]) (show decode cX10_partOf 17 = .ok (.lstore_n 2, 1) by decide +kernel) rfl rfl (Nat.le_of_ble_eq_true rfl) rfl rfl ?_
    refine tr_aload_n (pc' := 19) (show decode cX10_partOf 18 = .ok (.aload_n 0, 1) by decide +kernel) rfl rfl rfl ?_
    refine tr_dup (pc' := 20) (show decode cX10_partOf 19 = .ok (.dup, 1) by decide +kernel) rfl rfl ?_
    refine tr_getI (pc' := 23) fl_HandRingModel_274 (show decode cX10_partOf 20 = .ok (.getfield 274, 3) by decide +kernel) rfl (la_o hL (by decide) rfl) ?_
    refine tr_iconst (pc' := 24) (v := (1 : Int32)) (show decode cX10_partOf 23 = .ok (.iconst 1, 1) by decide +kernel) rfl (by decide) ?_
    refine tr_iadd (pc' := 25) (show decode cX10_partOf 24 = .ok (.iadd, 1) by decide +kernel) rfl ?_
    obtain ⟨μ14, eμ14, h⟩ := hm_bs h
    refine tp_pI (pc' := 28) fl_HandRingModel_274 (show decode cX10_partOf 25 = .ok (.putfield 274, 3) by decide +kernel) rfl (la_o hL (by decide) rfl) eμ14 ?_
    replace hL := hL.same (hm_pI_s eμ14)
    refine tr_lload_n (pc' := 29) (show decode cX10_partOf 28 = .ok (.lload_n 2, 1) by decide +kernel) rfl rfl rfl ?_
    cases h
    exact tr_lret rfl (show decode cX10_partOf 29 = .ok (.lreturn, 1) by decide +kernel) hL
def f_X10_sumOf_J95 (k_X10_partOf : Int32 → hm_M → Option (Int64 × hm_M)) (k_X10_sumOf : Int32 → hm_M → Option (Int64 × hm_M)) (k_X10_termOf : Int32 → hm_M → Option (Int64 × hm_M)) (v1 : Int32) (c6 : Int64 → hm_M → Option (Int64 × hm_M)) (e103 : Int64 → hm_M → Option (Int64 × hm_M)) (s0 : Int64) (μ1 : hm_M) : Option (Int64 × hm_M) :=
  hm_b2 (f_X10_bounded s0 v1 μ1) fun x11 μ12 =>
  c6 x11 μ12
theorem ok_X10_sumOf_J95 {fr : Nat} (hfr : 2 ≤ fr) {ν : hm_N} {r : Int64} {μR : hm_M} (k_X10_partOf : Int32 → hm_M → Option (Int64 × hm_M)) (hk_X10_partOf : ∀ {r : Int64} {μR : hm_M} (v1 : Int32)  (μ : hm_M), hm_LL ν μ → k_X10_partOf v1 μ = some (r, μR) → hm_CC (hm_LL ν) m_X10_partOf (fr - 1) 0 0 [.ref 179, .int v1] μ (some (.long r)) μR) (k_X10_sumOf : Int32 → hm_M → Option (Int64 × hm_M)) (hk_X10_sumOf : ∀ {r : Int64} {μR : hm_M} (v1 : Int32)  (μ : hm_M), hm_LL ν μ → k_X10_sumOf v1 μ = some (r, μR) → hm_CC (hm_LL ν) m_X10_sumOf (fr - 1) 0 0 [.ref 179, .int v1] μ (some (.long r)) μR) (k_X10_termOf : Int32 → hm_M → Option (Int64 × hm_M)) (hk_X10_termOf : ∀ {r : Int64} {μR : hm_M} (v1 : Int32)  (μ : hm_M), hm_LL ν μ → k_X10_termOf v1 μ = some (r, μR) → hm_CC (hm_LL ν) m_X10_termOf (fr - 1) 0 0 [.ref 179, .int v1] μ (some (.long r)) μR) (v1 : Int32) (c6 : Int64 → hm_M → Option (Int64 × hm_M)) (e103 : Int64 → hm_M → Option (Int64 × hm_M)) (hc6 : ∀ (y2 : Int64)  (μ1 : hm_M), hm_LL ν μ1 → c6 y2 μ1 = some (r, μR) → hm_T (hm_LL ν) m_X10_sumOf fr 0 0 (some (.long r)) μR 6 [some (.ref 179), some (.int v1), some (.long y2), none, none, none, none] [] μ1) (he103 : ∀ (y2 : Int64)  (μ1 : hm_M), hm_LL ν μ1 → e103 y2 μ1 = some (r, μR) → hm_T (hm_LL ν) m_X10_sumOf fr 0 0 (some (.long r)) μR 103 [none, none, some (.long y2), none, none, none, none] [] μ1)  (s0 : Int64) (μ1 : hm_M) (hL : hm_LL ν μ1) (h : f_X10_sumOf_J95 k_X10_partOf k_X10_sumOf k_X10_termOf v1 c6 e103 s0 μ1 = some (r, μR)) : hm_T (hm_LL ν) m_X10_sumOf fr 0 0 (some (.long r)) μR 95 [some (.ref 179), some (.int v1), none, none, none, none, none] [.long s0, .ref 179] μ1 := by
  unfold f_X10_sumOf_J95 at h
  refine tr_iload_n (pc' := 96) (show decode cX10_sumOf 95 = .ok (.iload_n 1, 1) by decide +kernel) rfl rfl rfl ?_
  obtain ⟨x11, μ12, ex11, h⟩ := hm_b2s h
  have cx11 := ok_X10_bounded (fr := fr - 1) (ν := ν) (by omega) s0 v1 μ1 hL ex11
  refine tp_callV (pc' := 99) (As := [.long s0, .int v1]) (fr1 := fr - 1) (ci := 10) okm_X10_bounded lk_HandRingModel_291 (show decode cX10_sumOf 96 = .ok (.invokevirtual 291, 3) by decide +kernel) rfl rfl rfl (by decide) (la_o hL (by decide) rfl) rfl rfl (Nat.le_of_ble_eq_true rfl) (by omega) cx11 (st' := [.long x11]) rfl ?_
  replace hL := cx11.1
  refine tr_lstore_n (pc' := 100) (lv' := [some (.ref 179), some (.int v1), some (.long x11), none, none, none, none]) (show decode cX10_sumOf 99 = .ok (.lstore_n 2, 1) by decide +kernel) rfl rfl (Nat.le_of_ble_eq_true rfl) rfl rfl ?_
  refine tr_goto (tgt := 6) (show decode cX10_sumOf 100 = .ok (.goto (-94), 3) by decide +kernel) rfl ?_
  exact hc6 x11 μ12 hL h
def f_X10_sumOf_J59 (k_X10_partOf : Int32 → hm_M → Option (Int64 × hm_M)) (k_X10_sumOf : Int32 → hm_M → Option (Int64 × hm_M)) (k_X10_termOf : Int32 → hm_M → Option (Int64 × hm_M)) (v1 : Int32) (c6 : Int64 → hm_M → Option (Int64 × hm_M)) (e103 : Int64 → hm_M → Option (Int64 × hm_M)) (s0 : Int32) (y2 : Int64) (μ1 : hm_M) : Option (Int64 × hm_M) :=
  Option.bind (hm_pI μ1 179 22 ((μ1.1 179 22) + (1 : Int32))) fun μ8 =>
  hm_b2 (k_X10_termOf v1 μ8) fun x9 μ10 =>
  (if s0 = 0 then
  f_X10_sumOf_J95 k_X10_partOf k_X10_sumOf k_X10_termOf v1 c6 e103 (y2 - x9) μ10
  else
  f_X10_sumOf_J95 k_X10_partOf k_X10_sumOf k_X10_termOf v1 c6 e103 (y2 + x9) μ10)
theorem ok_X10_sumOf_J59 {fr : Nat} (hfr : 2 ≤ fr) {ν : hm_N} {r : Int64} {μR : hm_M} (k_X10_partOf : Int32 → hm_M → Option (Int64 × hm_M)) (hk_X10_partOf : ∀ {r : Int64} {μR : hm_M} (v1 : Int32)  (μ : hm_M), hm_LL ν μ → k_X10_partOf v1 μ = some (r, μR) → hm_CC (hm_LL ν) m_X10_partOf (fr - 1) 0 0 [.ref 179, .int v1] μ (some (.long r)) μR) (k_X10_sumOf : Int32 → hm_M → Option (Int64 × hm_M)) (hk_X10_sumOf : ∀ {r : Int64} {μR : hm_M} (v1 : Int32)  (μ : hm_M), hm_LL ν μ → k_X10_sumOf v1 μ = some (r, μR) → hm_CC (hm_LL ν) m_X10_sumOf (fr - 1) 0 0 [.ref 179, .int v1] μ (some (.long r)) μR) (k_X10_termOf : Int32 → hm_M → Option (Int64 × hm_M)) (hk_X10_termOf : ∀ {r : Int64} {μR : hm_M} (v1 : Int32)  (μ : hm_M), hm_LL ν μ → k_X10_termOf v1 μ = some (r, μR) → hm_CC (hm_LL ν) m_X10_termOf (fr - 1) 0 0 [.ref 179, .int v1] μ (some (.long r)) μR) (v1 : Int32) (c6 : Int64 → hm_M → Option (Int64 × hm_M)) (e103 : Int64 → hm_M → Option (Int64 × hm_M)) (hc6 : ∀ (y2 : Int64)  (μ1 : hm_M), hm_LL ν μ1 → c6 y2 μ1 = some (r, μR) → hm_T (hm_LL ν) m_X10_sumOf fr 0 0 (some (.long r)) μR 6 [some (.ref 179), some (.int v1), some (.long y2), none, none, none, none] [] μ1) (he103 : ∀ (y2 : Int64)  (μ1 : hm_M), hm_LL ν μ1 → e103 y2 μ1 = some (r, μR) → hm_T (hm_LL ν) m_X10_sumOf fr 0 0 (some (.long r)) μR 103 [none, none, some (.long y2), none, none, none, none] [] μ1)  (s0 : Int32) (y2 : Int64) (μ1 : hm_M) (hL : hm_LL ν μ1) (h : f_X10_sumOf_J59 k_X10_partOf k_X10_sumOf k_X10_termOf v1 c6 e103 s0 y2 μ1 = some (r, μR)) : hm_T (hm_LL ν) m_X10_sumOf fr 0 0 (some (.long r)) μR 59 [some (.ref 179), some (.int v1), some (.long y2), none, none, none, none] [.int s0] μ1 := by
  unfold f_X10_sumOf_J59 at h
  refine tr_istore (pc' := 61) (lv' := [some (.ref 179), some (.int v1), some (.long y2), none, some (.int s0), none, none]) (show decode cX10_sumOf 59 = .ok (.istore 4, 2) by decide +kernel) rfl (Nat.le_of_ble_eq_true rfl) rfl rfl ?_
  refine tr_aload_n (pc' := 62) (show decode cX10_sumOf 61 = .ok (.aload_n 0, 1) by decide +kernel) rfl rfl rfl ?_
  refine tr_dup (pc' := 63) (show decode cX10_sumOf 62 = .ok (.dup, 1) by decide +kernel) rfl rfl ?_
  refine tr_getI (pc' := 66) fl_HandRingModel_274 (show decode cX10_sumOf 63 = .ok (.getfield 274, 3) by decide +kernel) rfl (la_o hL (by decide) rfl) ?_
  refine tr_iconst (pc' := 67) (v := (1 : Int32)) (show decode cX10_sumOf 66 = .ok (.iconst 1, 1) by decide +kernel) rfl (by decide) ?_
  refine tr_iadd (pc' := 68) (show decode cX10_sumOf 67 = .ok (.iadd, 1) by decide +kernel) rfl ?_
  obtain ⟨μ8, eμ8, h⟩ := hm_bs h
  refine tp_pI (pc' := 71) fl_HandRingModel_274 (show decode cX10_sumOf 68 = .ok (.putfield 274, 3) by decide +kernel) rfl (la_o hL (by decide) rfl) eμ8 ?_
  replace hL := hL.same (hm_pI_s eμ8)
  refine tr_aload_n (pc' := 72) (show decode cX10_sumOf 71 = .ok (.aload_n 0, 1) by decide +kernel) rfl rfl rfl ?_
  refine tr_iload_n (pc' := 73) (show decode cX10_sumOf 72 = .ok (.iload_n 1, 1) by decide +kernel) rfl rfl rfl ?_
  obtain ⟨x9, μ10, ex9, h⟩ := hm_b2s h
  have cx9 := hk_X10_termOf v1 μ8 hL ex9
  refine tp_callV (pc' := 76) (As := [.int v1]) (fr1 := fr - 1) (ci := 10) okm_X10_termOf lk_HandRingModel_287 (show decode cX10_sumOf 73 = .ok (.invokevirtual 287, 3) by decide +kernel) rfl rfl rfl (by decide) (la_o hL (by decide) rfl) rfl rfl (Nat.le_of_ble_eq_true rfl) (by omega) cx9 (st' := [.long x9]) rfl ?_
  replace hL := cx9.1
  refine tr_lstore (pc' := 78) (lv' := [some (.ref 179), some (.int v1), some (.long y2), none, some (.int s0), some (.long x9), none]) (show decode cX10_sumOf 76 = .ok (.lstore 5, 2) by decide +kernel) rfl (Nat.le_of_ble_eq_true rfl) rfl rfl ?_
  refine tr_aload_n (pc' := 79) (show decode cX10_sumOf 78 = .ok (.aload_n 0, 1) by decide +kernel) rfl rfl rfl ?_
  refine tr_iload (pc' := 81) (show decode cX10_sumOf 79 = .ok (.iload 4, 2) by decide +kernel) rfl rfl ?_
  rcases hm_is h with ⟨hc, h⟩ | ⟨hc, h⟩
  · refine tr_if_eq_t (tgt := 91) hc (show decode cX10_sumOf 81 = .ok (.ifCond .eq 10, 3) by decide +kernel) (by decide) ?_
    refine tr_lload_n (pc' := 92) (show decode cX10_sumOf 91 = .ok (.lload_n 2, 1) by decide +kernel) rfl rfl rfl ?_
    refine tr_lload (pc' := 94) (show decode cX10_sumOf 92 = .ok (.lload 5, 2) by decide +kernel) rfl rfl ?_
    refine tr_lsub (pc' := 95) (show decode cX10_sumOf 94 = .ok (.lsub, 1) by decide +kernel) rfl ?_
    refine hm_fgt [true, true, false, false, false, false, false] (lv' := [some (.ref 179), some (.int v1), none, none, none, none, none]) rfl ?_
    exact ok_X10_sumOf_J95 hfr k_X10_partOf hk_X10_partOf k_X10_sumOf hk_X10_sumOf k_X10_termOf hk_X10_termOf _ c6 e103 hc6 he103 (y2 - x9) μ10 hL h
  · refine tr_if_eq_f (tgt := 91) (pc' := 84) hc (show decode cX10_sumOf 81 = .ok (.ifCond .eq 10, 3) by decide +kernel) (by decide) rfl ?_
    refine tr_lload_n (pc' := 85) (show decode cX10_sumOf 84 = .ok (.lload_n 2, 1) by decide +kernel) rfl rfl rfl ?_
    refine tr_lload (pc' := 87) (show decode cX10_sumOf 85 = .ok (.lload 5, 2) by decide +kernel) rfl rfl ?_
    refine tr_ladd (pc' := 88) (show decode cX10_sumOf 87 = .ok (.ladd, 1) by decide +kernel) rfl ?_
    refine tr_goto (tgt := 95) (show decode cX10_sumOf 88 = .ok (.goto 7, 3) by decide +kernel) rfl ?_
    refine hm_fgt [true, true, false, false, false, false, false] (lv' := [some (.ref 179), some (.int v1), none, none, none, none, none]) rfl ?_
    exact ok_X10_sumOf_J95 hfr k_X10_partOf hk_X10_partOf k_X10_sumOf hk_X10_sumOf k_X10_termOf hk_X10_termOf _ c6 e103 hc6 he103 (y2 + x9) μ10 hL h
def f_X10_sumOf_J38 (k_X10_partOf : Int32 → hm_M → Option (Int64 × hm_M)) (k_X10_sumOf : Int32 → hm_M → Option (Int64 × hm_M)) (k_X10_termOf : Int32 → hm_M → Option (Int64 × hm_M)) (v1 : Int32) (c6 : Int64 → hm_M → Option (Int64 × hm_M)) (e103 : Int64 → hm_M → Option (Int64 × hm_M)) (y2 : Int64) (μ1 : hm_M) : Option (Int64 × hm_M) :=
  Option.bind (f_X10_codeAt (μ1.1 179 22) μ1) fun x6 =>
  Option.bind (f_X10_sign (43 : Int32)) fun x7 =>
  (if x6 = x7 then
  f_X10_sumOf_J59 k_X10_partOf k_X10_sumOf k_X10_termOf v1 c6 e103 (1 : Int32) y2 μ1
  else
  f_X10_sumOf_J59 k_X10_partOf k_X10_sumOf k_X10_termOf v1 c6 e103 (0 : Int32) y2 μ1)
theorem ok_X10_sumOf_J38 {fr : Nat} (hfr : 2 ≤ fr) {ν : hm_N} {r : Int64} {μR : hm_M} (k_X10_partOf : Int32 → hm_M → Option (Int64 × hm_M)) (hk_X10_partOf : ∀ {r : Int64} {μR : hm_M} (v1 : Int32)  (μ : hm_M), hm_LL ν μ → k_X10_partOf v1 μ = some (r, μR) → hm_CC (hm_LL ν) m_X10_partOf (fr - 1) 0 0 [.ref 179, .int v1] μ (some (.long r)) μR) (k_X10_sumOf : Int32 → hm_M → Option (Int64 × hm_M)) (hk_X10_sumOf : ∀ {r : Int64} {μR : hm_M} (v1 : Int32)  (μ : hm_M), hm_LL ν μ → k_X10_sumOf v1 μ = some (r, μR) → hm_CC (hm_LL ν) m_X10_sumOf (fr - 1) 0 0 [.ref 179, .int v1] μ (some (.long r)) μR) (k_X10_termOf : Int32 → hm_M → Option (Int64 × hm_M)) (hk_X10_termOf : ∀ {r : Int64} {μR : hm_M} (v1 : Int32)  (μ : hm_M), hm_LL ν μ → k_X10_termOf v1 μ = some (r, μR) → hm_CC (hm_LL ν) m_X10_termOf (fr - 1) 0 0 [.ref 179, .int v1] μ (some (.long r)) μR) (v1 : Int32) (c6 : Int64 → hm_M → Option (Int64 × hm_M)) (e103 : Int64 → hm_M → Option (Int64 × hm_M)) (hc6 : ∀ (y2 : Int64)  (μ1 : hm_M), hm_LL ν μ1 → c6 y2 μ1 = some (r, μR) → hm_T (hm_LL ν) m_X10_sumOf fr 0 0 (some (.long r)) μR 6 [some (.ref 179), some (.int v1), some (.long y2), none, none, none, none] [] μ1) (he103 : ∀ (y2 : Int64)  (μ1 : hm_M), hm_LL ν μ1 → e103 y2 μ1 = some (r, μR) → hm_T (hm_LL ν) m_X10_sumOf fr 0 0 (some (.long r)) μR 103 [none, none, some (.long y2), none, none, none, none] [] μ1)  (y2 : Int64) (μ1 : hm_M) (hL : hm_LL ν μ1) (h : f_X10_sumOf_J38 k_X10_partOf k_X10_sumOf k_X10_termOf v1 c6 e103 y2 μ1 = some (r, μR)) : hm_T (hm_LL ν) m_X10_sumOf fr 0 0 (some (.long r)) μR 38 [some (.ref 179), some (.int v1), some (.long y2), none, none, none, none] [] μ1 := by
  unfold f_X10_sumOf_J38 at h
  refine tr_aload_n (pc' := 39) (show decode cX10_sumOf 38 = .ok (.aload_n 0, 1) by decide +kernel) rfl rfl rfl ?_
  refine tr_aload_n (pc' := 40) (show decode cX10_sumOf 39 = .ok (.aload_n 0, 1) by decide +kernel) rfl rfl rfl ?_
  refine tr_getI (pc' := 43) fl_HandRingModel_274 (show decode cX10_sumOf 40 = .ok (.getfield 274, 3) by decide +kernel) rfl (la_o hL (by decide) rfl) ?_
  obtain ⟨x6, ex6, h⟩ := hm_bs h
  have cx6 := ok_X10_codeAt (fr := fr - 1) (ν := ν) (by omega) (μ1.1 179 22) μ1 hL ex6
  refine tp_callV (pc' := 46) (As := [.int (μ1.1 179 22)]) (fr1 := fr - 1) (ci := 10) okm_X10_codeAt lk_HandRingModel_277 (show decode cX10_sumOf 43 = .ok (.invokevirtual 277, 3) by decide +kernel) rfl rfl rfl (by decide) (la_o hL (by decide) rfl) rfl rfl (Nat.le_of_ble_eq_true rfl) (by omega) cx6 (st' := [.int x6]) rfl ?_
  refine tr_bipush (pc' := 48) (v := (43 : Int32)) (show decode cX10_sumOf 46 = .ok (.bipush 43, 2) by decide +kernel) rfl (by decide) ?_
  obtain ⟨x7, ex7, h⟩ := hm_bs h
  have cx7 := ok_X10_sign (fr := fr - 1) (ν := ν) (by omega) (43 : Int32) μ1 hL ex7
  refine tp_callS (pc' := 51) (As := [.int (43 : Int32)]) (fr1 := fr - 1) okm_X10_sign lk_HandRingModel_233 (show decode cX10_sumOf 48 = .ok (.invokestatic 233, 3) by decide +kernel) rfl rfl rfl (Nat.le_of_ble_eq_true rfl) (by omega) cx7 (st' := [.int x7, .int x6]) rfl ?_
  rcases hm_is h with ⟨hc, h⟩ | ⟨hc, h⟩
  · refine tr_icmp_ne_f (tgt := 58) (pc' := 54) hc (show decode cX10_sumOf 51 = .ok (.if_icmp .ne 7, 3) by decide +kernel) (by decide) rfl ?_
    refine tr_iconst (pc' := 55) (v := (1 : Int32)) (show decode cX10_sumOf 54 = .ok (.iconst 1, 1) by decide +kernel) rfl (by decide) ?_
    refine tr_goto (tgt := 59) (show decode cX10_sumOf 55 = .ok (.goto 4, 3) by decide +kernel) rfl ?_
    exact ok_X10_sumOf_J59 hfr k_X10_partOf hk_X10_partOf k_X10_sumOf hk_X10_sumOf k_X10_termOf hk_X10_termOf _ c6 e103 hc6 he103 (1 : Int32) y2 μ1 hL h
  · refine tr_icmp_ne_t (tgt := 58) hc (show decode cX10_sumOf 51 = .ok (.if_icmp .ne 7, 3) by decide +kernel) (by decide) ?_
    refine tr_iconst (pc' := 59) (v := (0 : Int32)) (show decode cX10_sumOf 58 = .ok (.iconst 0, 1) by decide +kernel) rfl (by decide) ?_
    exact ok_X10_sumOf_J59 hfr k_X10_partOf hk_X10_partOf k_X10_sumOf hk_X10_sumOf k_X10_termOf hk_X10_termOf _ c6 e103 hc6 he103 (0 : Int32) y2 μ1 hL h
def f_X10_sumOf_L6 (k_X10_partOf : Int32 → hm_M → Option (Int64 × hm_M)) (k_X10_sumOf : Int32 → hm_M → Option (Int64 × hm_M)) (k_X10_termOf : Int32 → hm_M → Option (Int64 × hm_M)) (v1 : Int32) (e103 : Int64 → hm_M → Option (Int64 × hm_M)) : Nat → Int64 → hm_M → Option (Int64 × hm_M)
  | 0, _, _ => none
  | n + 1, y2, μ1 => Option.bind (f_X10_codeAt (μ1.1 179 22) μ1) fun x4 =>
  Option.bind (f_X10_sign (43 : Int32)) fun x5 =>
  (if x4 = x5 then
  f_X10_sumOf_J38 k_X10_partOf k_X10_sumOf k_X10_termOf v1 (f_X10_sumOf_L6 k_X10_partOf k_X10_sumOf k_X10_termOf v1 e103 n) e103 y2 μ1
  else
  Option.bind (f_X10_codeAt (μ1.1 179 22) μ1) fun x13 =>
  Option.bind (f_X10_sign (45 : Int32)) fun x14 =>
  (if x13 = x14 then
  f_X10_sumOf_J38 k_X10_partOf k_X10_sumOf k_X10_termOf v1 (f_X10_sumOf_L6 k_X10_partOf k_X10_sumOf k_X10_termOf v1 e103 n) e103 y2 μ1
  else
  e103 y2 μ1))
theorem ok_X10_sumOf_L6 {fr : Nat} (hfr : 2 ≤ fr) {ν : hm_N} {r : Int64} {μR : hm_M} (k_X10_partOf : Int32 → hm_M → Option (Int64 × hm_M)) (hk_X10_partOf : ∀ {r : Int64} {μR : hm_M} (v1 : Int32)  (μ : hm_M), hm_LL ν μ → k_X10_partOf v1 μ = some (r, μR) → hm_CC (hm_LL ν) m_X10_partOf (fr - 1) 0 0 [.ref 179, .int v1] μ (some (.long r)) μR) (k_X10_sumOf : Int32 → hm_M → Option (Int64 × hm_M)) (hk_X10_sumOf : ∀ {r : Int64} {μR : hm_M} (v1 : Int32)  (μ : hm_M), hm_LL ν μ → k_X10_sumOf v1 μ = some (r, μR) → hm_CC (hm_LL ν) m_X10_sumOf (fr - 1) 0 0 [.ref 179, .int v1] μ (some (.long r)) μR) (k_X10_termOf : Int32 → hm_M → Option (Int64 × hm_M)) (hk_X10_termOf : ∀ {r : Int64} {μR : hm_M} (v1 : Int32)  (μ : hm_M), hm_LL ν μ → k_X10_termOf v1 μ = some (r, μR) → hm_CC (hm_LL ν) m_X10_termOf (fr - 1) 0 0 [.ref 179, .int v1] μ (some (.long r)) μR) (v1 : Int32) (e103 : Int64 → hm_M → Option (Int64 × hm_M))  (he103 : ∀ (y2 : Int64)  (μ1 : hm_M), hm_LL ν μ1 → e103 y2 μ1 = some (r, μR) → hm_T (hm_LL ν) m_X10_sumOf fr 0 0 (some (.long r)) μR 103 [none, none, some (.long y2), none, none, none, none] [] μ1)  : ∀ (n : Nat) (y2 : Int64)  (μ1 : hm_M), hm_LL ν μ1 → f_X10_sumOf_L6 k_X10_partOf k_X10_sumOf k_X10_termOf v1 e103 n y2 μ1 = some (r, μR) → hm_T (hm_LL ν) m_X10_sumOf fr 0 0 (some (.long r)) μR 6 [some (.ref 179), some (.int v1), some (.long y2), none, none, none, none] [] μ1 := by
  intro n
  induction n with
  | zero =>
    intro y2 μ1 hL h
    unfold f_X10_sumOf_L6 at h
    cases h
  | succ n ih =>
    intro y2 μ1 hL h
    unfold f_X10_sumOf_L6 at h
    refine tr_aload_n (pc' := 7) (show decode cX10_sumOf 6 = .ok (.aload_n 0, 1) by decide +kernel) rfl rfl rfl ?_
    refine tr_aload_n (pc' := 8) (show decode cX10_sumOf 7 = .ok (.aload_n 0, 1) by decide +kernel) rfl rfl rfl ?_
    refine tr_getI (pc' := 11) fl_HandRingModel_274 (show decode cX10_sumOf 8 = .ok (.getfield 274, 3) by decide +kernel) rfl (la_o hL (by decide) rfl) ?_
    obtain ⟨x4, ex4, h⟩ := hm_bs h
    have cx4 := ok_X10_codeAt (fr := fr - 1) (ν := ν) (by omega) (μ1.1 179 22) μ1 hL ex4
    refine tp_callV (pc' := 14) (As := [.int (μ1.1 179 22)]) (fr1 := fr - 1) (ci := 10) okm_X10_codeAt lk_HandRingModel_277 (show decode cX10_sumOf 11 = .ok (.invokevirtual 277, 3) by decide +kernel) rfl rfl rfl (by decide) (la_o hL (by decide) rfl) rfl rfl (Nat.le_of_ble_eq_true rfl) (by omega) cx4 (st' := [.int x4]) rfl ?_
    refine tr_bipush (pc' := 16) (v := (43 : Int32)) (show decode cX10_sumOf 14 = .ok (.bipush 43, 2) by decide +kernel) rfl (by decide) ?_
    obtain ⟨x5, ex5, h⟩ := hm_bs h
    have cx5 := ok_X10_sign (fr := fr - 1) (ν := ν) (by omega) (43 : Int32) μ1 hL ex5
    refine tp_callS (pc' := 19) (As := [.int (43 : Int32)]) (fr1 := fr - 1) okm_X10_sign lk_HandRingModel_233 (show decode cX10_sumOf 16 = .ok (.invokestatic 233, 3) by decide +kernel) rfl rfl rfl (Nat.le_of_ble_eq_true rfl) (by omega) cx5 (st' := [.int x5, .int x4]) rfl ?_
    rcases hm_is h with ⟨hc, h⟩ | ⟨hc, h⟩
    · refine tr_icmp_eq_t (tgt := 38) hc (show decode cX10_sumOf 19 = .ok (.if_icmp .eq 19, 3) by decide +kernel) (by decide) ?_
      exact ok_X10_sumOf_J38 hfr k_X10_partOf hk_X10_partOf k_X10_sumOf hk_X10_sumOf k_X10_termOf hk_X10_termOf _ (f_X10_sumOf_L6 k_X10_partOf k_X10_sumOf k_X10_termOf v1 e103 n) e103 ih he103 y2 μ1 hL h
    · refine tr_icmp_eq_f (tgt := 38) (pc' := 22) hc (show decode cX10_sumOf 19 = .ok (.if_icmp .eq 19, 3) by decide +kernel) (by decide) rfl ?_
      refine tr_aload_n (pc' := 23) (show decode cX10_sumOf 22 = .ok (.aload_n 0, 1) by decide +kernel) rfl rfl rfl ?_
      refine tr_aload_n (pc' := 24) (show decode cX10_sumOf 23 = .ok (.aload_n 0, 1) by decide +kernel) rfl rfl rfl ?_
      refine tr_getI (pc' := 27) fl_HandRingModel_274 (show decode cX10_sumOf 24 = .ok (.getfield 274, 3) by decide +kernel) rfl (la_o hL (by decide) rfl) ?_
      obtain ⟨x13, ex13, h⟩ := hm_bs h
      have cx13 := ok_X10_codeAt (fr := fr - 1) (ν := ν) (by omega) (μ1.1 179 22) μ1 hL ex13
      refine tp_callV (pc' := 30) (As := [.int (μ1.1 179 22)]) (fr1 := fr - 1) (ci := 10) okm_X10_codeAt lk_HandRingModel_277 (show decode cX10_sumOf 27 = .ok (.invokevirtual 277, 3) by decide +kernel) rfl rfl rfl (by decide) (la_o hL (by decide) rfl) rfl rfl (Nat.le_of_ble_eq_true rfl) (by omega) cx13 (st' := [.int x13]) rfl ?_
      refine tr_bipush (pc' := 32) (v := (45 : Int32)) (show decode cX10_sumOf 30 = .ok (.bipush 45, 2) by decide +kernel) rfl (by decide) ?_
      obtain ⟨x14, ex14, h⟩ := hm_bs h
      have cx14 := ok_X10_sign (fr := fr - 1) (ν := ν) (by omega) (45 : Int32) μ1 hL ex14
      refine tp_callS (pc' := 35) (As := [.int (45 : Int32)]) (fr1 := fr - 1) okm_X10_sign lk_HandRingModel_233 (show decode cX10_sumOf 32 = .ok (.invokestatic 233, 3) by decide +kernel) rfl rfl rfl (Nat.le_of_ble_eq_true rfl) (by omega) cx14 (st' := [.int x14, .int x13]) rfl ?_
      rcases hm_is h with ⟨hc, h⟩ | ⟨hc, h⟩
      · refine tr_icmp_ne_f (tgt := 103) (pc' := 38) hc (show decode cX10_sumOf 35 = .ok (.if_icmp .ne 68, 3) by decide +kernel) (by decide) rfl ?_
        exact ok_X10_sumOf_J38 hfr k_X10_partOf hk_X10_partOf k_X10_sumOf hk_X10_sumOf k_X10_termOf hk_X10_termOf _ (f_X10_sumOf_L6 k_X10_partOf k_X10_sumOf k_X10_termOf v1 e103 n) e103 ih he103 y2 μ1 hL h
      · refine tr_icmp_ne_t (tgt := 103) hc (show decode cX10_sumOf 35 = .ok (.if_icmp .ne 68, 3) by decide +kernel) (by decide) ?_
        refine hm_fgt [false, false, true, false, false, false, false] (lv' := [none, none, some (.long y2), none, none, none, none]) rfl ?_
        exact he103 y2 μ1 hL h
def f_X10_sumOf (k_X10_partOf : Int32 → hm_M → Option (Int64 × hm_M)) (k_X10_sumOf : Int32 → hm_M → Option (Int64 × hm_M)) (k_X10_termOf : Int32 → hm_M → Option (Int64 × hm_M)) (v1 : Int32) (μ : hm_M) : Option (Int64 × hm_M) :=
  hm_b2 (k_X10_termOf v1 μ) fun x2 μ3 =>
  f_X10_sumOf_L6 k_X10_partOf k_X10_sumOf k_X10_termOf v1 (fun z15_2 μz15 => some (z15_2, μz15)) hm_fu x2 μ3
set_option maxRecDepth 100000 in
theorem ok_X10_sumOf {fr : Nat} (hfr : 2 ≤ fr) {ν : hm_N} {r : Int64} {μR : hm_M} (k_X10_partOf : Int32 → hm_M → Option (Int64 × hm_M)) (hk_X10_partOf : ∀ {r : Int64} {μR : hm_M} (v1 : Int32)  (μ : hm_M), hm_LL ν μ → k_X10_partOf v1 μ = some (r, μR) → hm_CC (hm_LL ν) m_X10_partOf (fr - 1) 0 0 [.ref 179, .int v1] μ (some (.long r)) μR) (k_X10_sumOf : Int32 → hm_M → Option (Int64 × hm_M)) (hk_X10_sumOf : ∀ {r : Int64} {μR : hm_M} (v1 : Int32)  (μ : hm_M), hm_LL ν μ → k_X10_sumOf v1 μ = some (r, μR) → hm_CC (hm_LL ν) m_X10_sumOf (fr - 1) 0 0 [.ref 179, .int v1] μ (some (.long r)) μR) (k_X10_termOf : Int32 → hm_M → Option (Int64 × hm_M)) (hk_X10_termOf : ∀ {r : Int64} {μR : hm_M} (v1 : Int32)  (μ : hm_M), hm_LL ν μ → k_X10_termOf v1 μ = some (r, μR) → hm_CC (hm_LL ν) m_X10_termOf (fr - 1) 0 0 [.ref 179, .int v1] μ (some (.long r)) μR) (v1 : Int32)  (μ : hm_M) (hL : hm_LL ν μ) (h : f_X10_sumOf k_X10_partOf k_X10_sumOf k_X10_termOf v1 μ = some (r, μR)) : hm_CC (hm_LL ν) m_X10_sumOf fr 0 0 [.ref 179, .int v1] μ (some (.long r)) μR := by
  refine hm_enter (lv := [some (.ref 179), some (.int v1), none, none, none, none, none]) (by decide) rfl (Nat.le_of_ble_eq_true rfl) ?_
  unfold f_X10_sumOf at h
  refine tr_aload_n (pc' := 1) (show decode cX10_sumOf 0 = .ok (.aload_n 0, 1) by decide +kernel) rfl rfl rfl ?_
  refine tr_iload_n (pc' := 2) (show decode cX10_sumOf 1 = .ok (.iload_n 1, 1) by decide +kernel) rfl rfl rfl ?_
  obtain ⟨x2, μ3, ex2, h⟩ := hm_b2s h
  have cx2 := hk_X10_termOf v1 μ hL ex2
  refine tp_callV (pc' := 5) (As := [.int v1]) (fr1 := fr - 1) (ci := 10) okm_X10_termOf lk_HandRingModel_287 (show decode cX10_sumOf 2 = .ok (.invokevirtual 287, 3) by decide +kernel) rfl rfl rfl (by decide) (la_o hL (by decide) rfl) rfl rfl (Nat.le_of_ble_eq_true rfl) (by omega) cx2 (st' := [.long x2]) rfl ?_
  replace hL := cx2.1
  refine tr_lstore_n (pc' := 6) (lv' := [some (.ref 179), some (.int v1), some (.long x2), none, none, none, none]) (show decode cX10_sumOf 5 = .ok (.lstore_n 2, 1) by decide +kernel) rfl rfl (Nat.le_of_ble_eq_true rfl) rfl rfl ?_
  refine ok_X10_sumOf_L6 hfr k_X10_partOf hk_X10_partOf k_X10_sumOf hk_X10_sumOf k_X10_termOf hk_X10_termOf _ _ ?_ _ x2 μ3 hL h
  · intro z15_2 μz15 hL h
    refine tr_lload_n (pc' := 104) (show decode cX10_sumOf 103 = .ok (.lload_n 2, 1) by decide +kernel) rfl rfl rfl ?_
    cases h
    exact tr_lret rfl (show decode cX10_sumOf 104 = .ok (.lreturn, 1) by decide +kernel) hL
def f_X10_termOf_J160 (k_X10_partOf : Int32 → hm_M → Option (Int64 × hm_M)) (k_X10_sumOf : Int32 → hm_M → Option (Int64 × hm_M)) (k_X10_termOf : Int32 → hm_M → Option (Int64 × hm_M)) (v1 : Int32) (c6 : Int64 → hm_M → Option (Int64 × hm_M)) (e168 : Int64 → hm_M → Option (Int64 × hm_M)) (s0 : Int64) (μ1 : hm_M) : Option (Int64 × hm_M) :=
  hm_b2 (f_X10_bounded s0 v1 μ1) fun x14 μ15 =>
  c6 x14 μ15
theorem ok_X10_termOf_J160 {fr : Nat} (hfr : 2 ≤ fr) {ν : hm_N} {r : Int64} {μR : hm_M} (k_X10_partOf : Int32 → hm_M → Option (Int64 × hm_M)) (hk_X10_partOf : ∀ {r : Int64} {μR : hm_M} (v1 : Int32)  (μ : hm_M), hm_LL ν μ → k_X10_partOf v1 μ = some (r, μR) → hm_CC (hm_LL ν) m_X10_partOf (fr - 1) 0 0 [.ref 179, .int v1] μ (some (.long r)) μR) (k_X10_sumOf : Int32 → hm_M → Option (Int64 × hm_M)) (hk_X10_sumOf : ∀ {r : Int64} {μR : hm_M} (v1 : Int32)  (μ : hm_M), hm_LL ν μ → k_X10_sumOf v1 μ = some (r, μR) → hm_CC (hm_LL ν) m_X10_sumOf (fr - 1) 0 0 [.ref 179, .int v1] μ (some (.long r)) μR) (k_X10_termOf : Int32 → hm_M → Option (Int64 × hm_M)) (hk_X10_termOf : ∀ {r : Int64} {μR : hm_M} (v1 : Int32)  (μ : hm_M), hm_LL ν μ → k_X10_termOf v1 μ = some (r, μR) → hm_CC (hm_LL ν) m_X10_termOf (fr - 1) 0 0 [.ref 179, .int v1] μ (some (.long r)) μR) (v1 : Int32) (c6 : Int64 → hm_M → Option (Int64 × hm_M)) (e168 : Int64 → hm_M → Option (Int64 × hm_M)) (hc6 : ∀ (y2 : Int64)  (μ1 : hm_M), hm_LL ν μ1 → c6 y2 μ1 = some (r, μR) → hm_T (hm_LL ν) m_X10_termOf fr 0 0 (some (.long r)) μR 6 [some (.ref 179), some (.int v1), some (.long y2), none, none, none, none] [] μ1) (he168 : ∀ (y2 : Int64)  (μ1 : hm_M), hm_LL ν μ1 → e168 y2 μ1 = some (r, μR) → hm_T (hm_LL ν) m_X10_termOf fr 0 0 (some (.long r)) μR 168 [none, none, some (.long y2), none, none, none, none] [] μ1)  (s0 : Int64) (μ1 : hm_M) (hL : hm_LL ν μ1) (h : f_X10_termOf_J160 k_X10_partOf k_X10_sumOf k_X10_termOf v1 c6 e168 s0 μ1 = some (r, μR)) : hm_T (hm_LL ν) m_X10_termOf fr 0 0 (some (.long r)) μR 160 [some (.ref 179), some (.int v1), none, none, none, none, none] [.long s0, .ref 179] μ1 := by
  unfold f_X10_termOf_J160 at h
  refine tr_iload_n (pc' := 161) (show decode cX10_termOf 160 = .ok (.iload_n 1, 1) by decide +kernel) rfl rfl rfl ?_
  obtain ⟨x14, μ15, ex14, h⟩ := hm_b2s h
  have cx14 := ok_X10_bounded (fr := fr - 1) (ν := ν) (by omega) s0 v1 μ1 hL ex14
  refine tp_callV (pc' := 164) (As := [.long s0, .int v1]) (fr1 := fr - 1) (ci := 10) okm_X10_bounded lk_HandRingModel_291 (show decode cX10_termOf 161 = .ok (.invokevirtual 291, 3) by decide +kernel) rfl rfl rfl (by decide) (la_o hL (by decide) rfl) rfl rfl (Nat.le_of_ble_eq_true rfl) (by omega) cx14 (st' := [.long x14]) rfl ?_
  replace hL := cx14.1
  refine tr_lstore_n (pc' := 165) (lv' := [some (.ref 179), some (.int v1), some (.long x14), none, none, none, none]) (show decode cX10_termOf 164 = .ok (.lstore_n 2, 1) by decide +kernel) rfl rfl (Nat.le_of_ble_eq_true rfl) rfl rfl ?_
  refine tr_goto (tgt := 6) (show decode cX10_termOf 165 = .ok (.goto (-159), 3) by decide +kernel) rfl ?_
  exact hc6 x14 μ15 hL h
def f_X10_termOf_J121 (k_X10_partOf : Int32 → hm_M → Option (Int64 × hm_M)) (k_X10_sumOf : Int32 → hm_M → Option (Int64 × hm_M)) (k_X10_termOf : Int32 → hm_M → Option (Int64 × hm_M)) (v1 : Int32) (c6 : Int64 → hm_M → Option (Int64 × hm_M)) (e168 : Int64 → hm_M → Option (Int64 × hm_M)) (y2 : Int64) (y4 : Int32) (y5 : Int64) (μ1 : hm_M) : Option (Int64 × hm_M) :=
  Option.bind (f_X10_sign (42 : Int32)) fun x11 =>
  (if y4 = x11 then
  f_X10_termOf_J160 k_X10_partOf k_X10_sumOf k_X10_termOf v1 c6 e168 (y2 * y5) μ1
  else
  Option.bind (f_X10_sign (47 : Int32)) fun x12 =>
  (if y4 = x12 then
  Option.bind (hm_dvJ y2 y5) fun x16 =>
  f_X10_termOf_J160 k_X10_partOf k_X10_sumOf k_X10_termOf v1 c6 e168 x16 μ1
  else
  Option.bind (hm_rmJ y2 y5) fun x13 =>
  f_X10_termOf_J160 k_X10_partOf k_X10_sumOf k_X10_termOf v1 c6 e168 x13 μ1))
theorem ok_X10_termOf_J121 {fr : Nat} (hfr : 2 ≤ fr) {ν : hm_N} {r : Int64} {μR : hm_M} (k_X10_partOf : Int32 → hm_M → Option (Int64 × hm_M)) (hk_X10_partOf : ∀ {r : Int64} {μR : hm_M} (v1 : Int32)  (μ : hm_M), hm_LL ν μ → k_X10_partOf v1 μ = some (r, μR) → hm_CC (hm_LL ν) m_X10_partOf (fr - 1) 0 0 [.ref 179, .int v1] μ (some (.long r)) μR) (k_X10_sumOf : Int32 → hm_M → Option (Int64 × hm_M)) (hk_X10_sumOf : ∀ {r : Int64} {μR : hm_M} (v1 : Int32)  (μ : hm_M), hm_LL ν μ → k_X10_sumOf v1 μ = some (r, μR) → hm_CC (hm_LL ν) m_X10_sumOf (fr - 1) 0 0 [.ref 179, .int v1] μ (some (.long r)) μR) (k_X10_termOf : Int32 → hm_M → Option (Int64 × hm_M)) (hk_X10_termOf : ∀ {r : Int64} {μR : hm_M} (v1 : Int32)  (μ : hm_M), hm_LL ν μ → k_X10_termOf v1 μ = some (r, μR) → hm_CC (hm_LL ν) m_X10_termOf (fr - 1) 0 0 [.ref 179, .int v1] μ (some (.long r)) μR) (v1 : Int32) (c6 : Int64 → hm_M → Option (Int64 × hm_M)) (e168 : Int64 → hm_M → Option (Int64 × hm_M)) (hc6 : ∀ (y2 : Int64)  (μ1 : hm_M), hm_LL ν μ1 → c6 y2 μ1 = some (r, μR) → hm_T (hm_LL ν) m_X10_termOf fr 0 0 (some (.long r)) μR 6 [some (.ref 179), some (.int v1), some (.long y2), none, none, none, none] [] μ1) (he168 : ∀ (y2 : Int64)  (μ1 : hm_M), hm_LL ν μ1 → e168 y2 μ1 = some (r, μR) → hm_T (hm_LL ν) m_X10_termOf fr 0 0 (some (.long r)) μR 168 [none, none, some (.long y2), none, none, none, none] [] μ1)  (y2 : Int64) (y4 : Int32) (y5 : Int64) (μ1 : hm_M) (hL : hm_LL ν μ1) (h : f_X10_termOf_J121 k_X10_partOf k_X10_sumOf k_X10_termOf v1 c6 e168 y2 y4 y5 μ1 = some (r, μR)) : hm_T (hm_LL ν) m_X10_termOf fr 0 0 (some (.long r)) μR 121 [some (.ref 179), some (.int v1), some (.long y2), none, some (.int y4), some (.long y5), none] [] μ1 := by
  unfold f_X10_termOf_J121 at h
  refine tr_aload_n (pc' := 122) (show decode cX10_termOf 121 = .ok (.aload_n 0, 1) by decide +kernel) rfl rfl rfl ?_
  refine tr_iload (pc' := 124) (show decode cX10_termOf 122 = .ok (.iload 4, 2) by decide +kernel) rfl rfl ?_
  refine tr_bipush (pc' := 126) (v := (42 : Int32)) (show decode cX10_termOf 124 = .ok (.bipush 42, 2) by decide +kernel) rfl (by decide) ?_
  obtain ⟨x11, ex11, h⟩ := hm_bs h
  have cx11 := ok_X10_sign (fr := fr - 1) (ν := ν) (by omega) (42 : Int32) μ1 hL ex11
  refine tp_callS (pc' := 129) (As := [.int (42 : Int32)]) (fr1 := fr - 1) okm_X10_sign lk_HandRingModel_233 (show decode cX10_termOf 126 = .ok (.invokestatic 233, 3) by decide +kernel) rfl rfl rfl (Nat.le_of_ble_eq_true rfl) (by omega) cx11 (st' := [.int x11, .int y4, .ref 179]) rfl ?_
  rcases hm_is h with ⟨hc, h⟩ | ⟨hc, h⟩
  · refine tr_icmp_ne_f (tgt := 139) (pc' := 132) hc (show decode cX10_termOf 129 = .ok (.if_icmp .ne 10, 3) by decide +kernel) (by decide) rfl ?_
    refine tr_lload_n (pc' := 133) (show decode cX10_termOf 132 = .ok (.lload_n 2, 1) by decide +kernel) rfl rfl rfl ?_
    refine tr_lload (pc' := 135) (show decode cX10_termOf 133 = .ok (.lload 5, 2) by decide +kernel) rfl rfl ?_
    refine tr_lmul (pc' := 136) (show decode cX10_termOf 135 = .ok (.lmul, 1) by decide +kernel) rfl ?_
    refine tr_goto (tgt := 160) (show decode cX10_termOf 136 = .ok (.goto 24, 3) by decide +kernel) rfl ?_
    refine hm_fgt [true, true, false, false, false, false, false] (lv' := [some (.ref 179), some (.int v1), none, none, none, none, none]) rfl ?_
    exact ok_X10_termOf_J160 hfr k_X10_partOf hk_X10_partOf k_X10_sumOf hk_X10_sumOf k_X10_termOf hk_X10_termOf _ c6 e168 hc6 he168 (y2 * y5) μ1 hL h
  · refine tr_icmp_ne_t (tgt := 139) hc (show decode cX10_termOf 129 = .ok (.if_icmp .ne 10, 3) by decide +kernel) (by decide) ?_
    refine tr_iload (pc' := 141) (show decode cX10_termOf 139 = .ok (.iload 4, 2) by decide +kernel) rfl rfl ?_
    refine tr_bipush (pc' := 143) (v := (47 : Int32)) (show decode cX10_termOf 141 = .ok (.bipush 47, 2) by decide +kernel) rfl (by decide) ?_
    obtain ⟨x12, ex12, h⟩ := hm_bs h
    have cx12 := ok_X10_sign (fr := fr - 1) (ν := ν) (by omega) (47 : Int32) μ1 hL ex12
    refine tp_callS (pc' := 146) (As := [.int (47 : Int32)]) (fr1 := fr - 1) okm_X10_sign lk_HandRingModel_233 (show decode cX10_termOf 143 = .ok (.invokestatic 233, 3) by decide +kernel) rfl rfl rfl (Nat.le_of_ble_eq_true rfl) (by omega) cx12 (st' := [.int x12, .int y4, .ref 179]) rfl ?_
    rcases hm_is h with ⟨hc, h⟩ | ⟨hc, h⟩
    · refine tr_icmp_ne_f (tgt := 156) (pc' := 149) hc (show decode cX10_termOf 146 = .ok (.if_icmp .ne 10, 3) by decide +kernel) (by decide) rfl ?_
      refine tr_lload_n (pc' := 150) (show decode cX10_termOf 149 = .ok (.lload_n 2, 1) by decide +kernel) rfl rfl rfl ?_
      refine tr_lload (pc' := 152) (show decode cX10_termOf 150 = .ok (.lload 5, 2) by decide +kernel) rfl rfl ?_
      obtain ⟨x16, ex16, h⟩ := hm_bs h
      refine tp_dvJ (pc' := 153) (show decode cX10_termOf 152 = .ok (.ldiv, 1) by decide +kernel) rfl ex16 ?_
      refine tr_goto (tgt := 160) (show decode cX10_termOf 153 = .ok (.goto 7, 3) by decide +kernel) rfl ?_
      refine hm_fgt [true, true, false, false, false, false, false] (lv' := [some (.ref 179), some (.int v1), none, none, none, none, none]) rfl ?_
      exact ok_X10_termOf_J160 hfr k_X10_partOf hk_X10_partOf k_X10_sumOf hk_X10_sumOf k_X10_termOf hk_X10_termOf _ c6 e168 hc6 he168 x16 μ1 hL h
    · refine tr_icmp_ne_t (tgt := 156) hc (show decode cX10_termOf 146 = .ok (.if_icmp .ne 10, 3) by decide +kernel) (by decide) ?_
      refine tr_lload_n (pc' := 157) (show decode cX10_termOf 156 = .ok (.lload_n 2, 1) by decide +kernel) rfl rfl rfl ?_
      refine tr_lload (pc' := 159) (show decode cX10_termOf 157 = .ok (.lload 5, 2) by decide +kernel) rfl rfl ?_
      obtain ⟨x13, ex13, h⟩ := hm_bs h
      refine tp_rmJ (pc' := 160) (show decode cX10_termOf 159 = .ok (.lrem, 1) by decide +kernel) rfl ex13 ?_
      refine hm_fgt [true, true, false, false, false, false, false] (lv' := [some (.ref 179), some (.int v1), none, none, none, none, none]) rfl ?_
      exact ok_X10_termOf_J160 hfr k_X10_partOf hk_X10_partOf k_X10_sumOf hk_X10_sumOf k_X10_termOf hk_X10_termOf _ c6 e168 hc6 he168 x13 μ1 hL h
def f_X10_termOf_J115 (k_X10_partOf : Int32 → hm_M → Option (Int64 × hm_M)) (k_X10_sumOf : Int32 → hm_M → Option (Int64 × hm_M)) (k_X10_termOf : Int32 → hm_M → Option (Int64 × hm_M)) (v1 : Int32) (c6 : Int64 → hm_M → Option (Int64 × hm_M)) (e168 : Int64 → hm_M → Option (Int64 × hm_M)) (s0 : Int32) (y2 : Int64) (y4 : Int32) (μ1 : hm_M) : Option (Int64 × hm_M) :=
  Option.bind (hm_pZ μ1 179 24 s0) fun μ17 =>
  f_X10_termOf_J121 k_X10_partOf k_X10_sumOf k_X10_termOf v1 c6 e168 y2 y4 (1 : Int64) μ17
theorem ok_X10_termOf_J115 {fr : Nat} (hfr : 2 ≤ fr) {ν : hm_N} {r : Int64} {μR : hm_M} (k_X10_partOf : Int32 → hm_M → Option (Int64 × hm_M)) (hk_X10_partOf : ∀ {r : Int64} {μR : hm_M} (v1 : Int32)  (μ : hm_M), hm_LL ν μ → k_X10_partOf v1 μ = some (r, μR) → hm_CC (hm_LL ν) m_X10_partOf (fr - 1) 0 0 [.ref 179, .int v1] μ (some (.long r)) μR) (k_X10_sumOf : Int32 → hm_M → Option (Int64 × hm_M)) (hk_X10_sumOf : ∀ {r : Int64} {μR : hm_M} (v1 : Int32)  (μ : hm_M), hm_LL ν μ → k_X10_sumOf v1 μ = some (r, μR) → hm_CC (hm_LL ν) m_X10_sumOf (fr - 1) 0 0 [.ref 179, .int v1] μ (some (.long r)) μR) (k_X10_termOf : Int32 → hm_M → Option (Int64 × hm_M)) (hk_X10_termOf : ∀ {r : Int64} {μR : hm_M} (v1 : Int32)  (μ : hm_M), hm_LL ν μ → k_X10_termOf v1 μ = some (r, μR) → hm_CC (hm_LL ν) m_X10_termOf (fr - 1) 0 0 [.ref 179, .int v1] μ (some (.long r)) μR) (v1 : Int32) (c6 : Int64 → hm_M → Option (Int64 × hm_M)) (e168 : Int64 → hm_M → Option (Int64 × hm_M)) (hc6 : ∀ (y2 : Int64)  (μ1 : hm_M), hm_LL ν μ1 → c6 y2 μ1 = some (r, μR) → hm_T (hm_LL ν) m_X10_termOf fr 0 0 (some (.long r)) μR 6 [some (.ref 179), some (.int v1), some (.long y2), none, none, none, none] [] μ1) (he168 : ∀ (y2 : Int64)  (μ1 : hm_M), hm_LL ν μ1 → e168 y2 μ1 = some (r, μR) → hm_T (hm_LL ν) m_X10_termOf fr 0 0 (some (.long r)) μR 168 [none, none, some (.long y2), none, none, none, none] [] μ1)  (s0 : Int32) (y2 : Int64) (y4 : Int32) (μ1 : hm_M) (hL : hm_LL ν μ1) (h : f_X10_termOf_J115 k_X10_partOf k_X10_sumOf k_X10_termOf v1 c6 e168 s0 y2 y4 μ1 = some (r, μR)) : hm_T (hm_LL ν) m_X10_termOf fr 0 0 (some (.long r)) μR 115 [some (.ref 179), some (.int v1), some (.long y2), none, some (.int y4), none, none] [.int s0, .ref 179] μ1 := by
  unfold f_X10_termOf_J115 at h
  obtain ⟨μ17, eμ17, h⟩ := hm_bs h
  refine tp_pZ (pc' := 118) fl_HandRingModel_284 (show decode cX10_termOf 115 = .ok (.putfield 284, 3) by decide +kernel) rfl (la_o hL (by decide) rfl) eμ17 ?_
  replace hL := hL.same (hm_pZ_s eμ17)
  refine tr_lconst (pc' := 119) (v := (1 : Int64)) (show decode cX10_termOf 118 = .ok (.lconst 1, 1) by decide +kernel) rfl (by decide) ?_
  refine tr_lstore (pc' := 121) (lv' := [some (.ref 179), some (.int v1), some (.long y2), none, some (.int y4), some (.long (1 : Int64)), none]) (show decode cX10_termOf 119 = .ok (.lstore 5, 2) by decide +kernel) rfl (Nat.le_of_ble_eq_true rfl) rfl rfl ?_
  exact ok_X10_termOf_J121 hfr k_X10_partOf hk_X10_partOf k_X10_sumOf hk_X10_sumOf k_X10_termOf hk_X10_termOf _ c6 e168 hc6 he168 y2 y4 (1 : Int64) μ17 hL h
def f_X10_termOf_J110 (k_X10_partOf : Int32 → hm_M → Option (Int64 × hm_M)) (k_X10_sumOf : Int32 → hm_M → Option (Int64 × hm_M)) (k_X10_termOf : Int32 → hm_M → Option (Int64 × hm_M)) (v1 : Int32) (c6 : Int64 → hm_M → Option (Int64 × hm_M)) (e168 : Int64 → hm_M → Option (Int64 × hm_M)) (y2 : Int64) (y4 : Int32) (μ1 : hm_M) : Option (Int64 × hm_M) :=
  f_X10_termOf_J115 k_X10_partOf k_X10_sumOf k_X10_termOf v1 c6 e168 (1 : Int32) y2 y4 μ1
theorem ok_X10_termOf_J110 {fr : Nat} (hfr : 2 ≤ fr) {ν : hm_N} {r : Int64} {μR : hm_M} (k_X10_partOf : Int32 → hm_M → Option (Int64 × hm_M)) (hk_X10_partOf : ∀ {r : Int64} {μR : hm_M} (v1 : Int32)  (μ : hm_M), hm_LL ν μ → k_X10_partOf v1 μ = some (r, μR) → hm_CC (hm_LL ν) m_X10_partOf (fr - 1) 0 0 [.ref 179, .int v1] μ (some (.long r)) μR) (k_X10_sumOf : Int32 → hm_M → Option (Int64 × hm_M)) (hk_X10_sumOf : ∀ {r : Int64} {μR : hm_M} (v1 : Int32)  (μ : hm_M), hm_LL ν μ → k_X10_sumOf v1 μ = some (r, μR) → hm_CC (hm_LL ν) m_X10_sumOf (fr - 1) 0 0 [.ref 179, .int v1] μ (some (.long r)) μR) (k_X10_termOf : Int32 → hm_M → Option (Int64 × hm_M)) (hk_X10_termOf : ∀ {r : Int64} {μR : hm_M} (v1 : Int32)  (μ : hm_M), hm_LL ν μ → k_X10_termOf v1 μ = some (r, μR) → hm_CC (hm_LL ν) m_X10_termOf (fr - 1) 0 0 [.ref 179, .int v1] μ (some (.long r)) μR) (v1 : Int32) (c6 : Int64 → hm_M → Option (Int64 × hm_M)) (e168 : Int64 → hm_M → Option (Int64 × hm_M)) (hc6 : ∀ (y2 : Int64)  (μ1 : hm_M), hm_LL ν μ1 → c6 y2 μ1 = some (r, μR) → hm_T (hm_LL ν) m_X10_termOf fr 0 0 (some (.long r)) μR 6 [some (.ref 179), some (.int v1), some (.long y2), none, none, none, none] [] μ1) (he168 : ∀ (y2 : Int64)  (μ1 : hm_M), hm_LL ν μ1 → e168 y2 μ1 = some (r, μR) → hm_T (hm_LL ν) m_X10_termOf fr 0 0 (some (.long r)) μR 168 [none, none, some (.long y2), none, none, none, none] [] μ1)  (y2 : Int64) (y4 : Int32) (μ1 : hm_M) (hL : hm_LL ν μ1) (h : f_X10_termOf_J110 k_X10_partOf k_X10_sumOf k_X10_termOf v1 c6 e168 y2 y4 μ1 = some (r, μR)) : hm_T (hm_LL ν) m_X10_termOf fr 0 0 (some (.long r)) μR 110 [some (.ref 179), some (.int v1), some (.long y2), none, some (.int y4), none, none] [.ref 179] μ1 := by
  unfold f_X10_termOf_J110 at h
  refine tr_iconst (pc' := 111) (v := (1 : Int32)) (show decode cX10_termOf 110 = .ok (.iconst 1, 1) by decide +kernel) rfl (by decide) ?_
  refine tr_goto (tgt := 115) (show decode cX10_termOf 111 = .ok (.goto 4, 3) by decide +kernel) rfl ?_
  exact ok_X10_termOf_J115 hfr k_X10_partOf hk_X10_partOf k_X10_sumOf hk_X10_sumOf k_X10_termOf hk_X10_termOf _ c6 e168 hc6 he168 (1 : Int32) y2 y4 μ1 hL h
def f_X10_termOf_J54 (k_X10_partOf : Int32 → hm_M → Option (Int64 × hm_M)) (k_X10_sumOf : Int32 → hm_M → Option (Int64 × hm_M)) (k_X10_termOf : Int32 → hm_M → Option (Int64 × hm_M)) (v1 : Int32) (c6 : Int64 → hm_M → Option (Int64 × hm_M)) (e168 : Int64 → hm_M → Option (Int64 × hm_M)) (y2 : Int64) (μ1 : hm_M) : Option (Int64 × hm_M) :=
  Option.bind (f_X10_codeAt (μ1.1 179 22) μ1) fun x6 =>
  Option.bind (hm_pI μ1 179 22 ((μ1.1 179 22) + (1 : Int32))) fun μ7 =>
  hm_b2 (k_X10_partOf v1 μ7) fun x8 μ9 =>
  Option.bind (f_X10_sign (42 : Int32)) fun x10 =>
  (if x6 = x10 then
  f_X10_termOf_J121 k_X10_partOf k_X10_sumOf k_X10_termOf v1 c6 e168 y2 x6 x8 μ9
  else
  (if (lg_cmp x8 (0 : Int64)) = 0 then
  (if (μ9.1 179 24) = 0 then
  (if v1 = 0 then
  f_X10_termOf_J115 k_X10_partOf k_X10_sumOf k_X10_termOf v1 c6 e168 (0 : Int32) y2 x6 μ9
  else
  f_X10_termOf_J110 k_X10_partOf k_X10_sumOf k_X10_termOf v1 c6 e168 y2 x6 μ9)
  else
  f_X10_termOf_J110 k_X10_partOf k_X10_sumOf k_X10_termOf v1 c6 e168 y2 x6 μ9)
  else
  f_X10_termOf_J121 k_X10_partOf k_X10_sumOf k_X10_termOf v1 c6 e168 y2 x6 x8 μ9))
theorem ok_X10_termOf_J54 {fr : Nat} (hfr : 2 ≤ fr) {ν : hm_N} {r : Int64} {μR : hm_M} (k_X10_partOf : Int32 → hm_M → Option (Int64 × hm_M)) (hk_X10_partOf : ∀ {r : Int64} {μR : hm_M} (v1 : Int32)  (μ : hm_M), hm_LL ν μ → k_X10_partOf v1 μ = some (r, μR) → hm_CC (hm_LL ν) m_X10_partOf (fr - 1) 0 0 [.ref 179, .int v1] μ (some (.long r)) μR) (k_X10_sumOf : Int32 → hm_M → Option (Int64 × hm_M)) (hk_X10_sumOf : ∀ {r : Int64} {μR : hm_M} (v1 : Int32)  (μ : hm_M), hm_LL ν μ → k_X10_sumOf v1 μ = some (r, μR) → hm_CC (hm_LL ν) m_X10_sumOf (fr - 1) 0 0 [.ref 179, .int v1] μ (some (.long r)) μR) (k_X10_termOf : Int32 → hm_M → Option (Int64 × hm_M)) (hk_X10_termOf : ∀ {r : Int64} {μR : hm_M} (v1 : Int32)  (μ : hm_M), hm_LL ν μ → k_X10_termOf v1 μ = some (r, μR) → hm_CC (hm_LL ν) m_X10_termOf (fr - 1) 0 0 [.ref 179, .int v1] μ (some (.long r)) μR) (v1 : Int32) (c6 : Int64 → hm_M → Option (Int64 × hm_M)) (e168 : Int64 → hm_M → Option (Int64 × hm_M)) (hc6 : ∀ (y2 : Int64)  (μ1 : hm_M), hm_LL ν μ1 → c6 y2 μ1 = some (r, μR) → hm_T (hm_LL ν) m_X10_termOf fr 0 0 (some (.long r)) μR 6 [some (.ref 179), some (.int v1), some (.long y2), none, none, none, none] [] μ1) (he168 : ∀ (y2 : Int64)  (μ1 : hm_M), hm_LL ν μ1 → e168 y2 μ1 = some (r, μR) → hm_T (hm_LL ν) m_X10_termOf fr 0 0 (some (.long r)) μR 168 [none, none, some (.long y2), none, none, none, none] [] μ1)  (y2 : Int64) (μ1 : hm_M) (hL : hm_LL ν μ1) (h : f_X10_termOf_J54 k_X10_partOf k_X10_sumOf k_X10_termOf v1 c6 e168 y2 μ1 = some (r, μR)) : hm_T (hm_LL ν) m_X10_termOf fr 0 0 (some (.long r)) μR 54 [some (.ref 179), some (.int v1), some (.long y2), none, none, none, none] [] μ1 := by
  unfold f_X10_termOf_J54 at h
  refine tr_aload_n (pc' := 55) (show decode cX10_termOf 54 = .ok (.aload_n 0, 1) by decide +kernel) rfl rfl rfl ?_
  refine tr_aload_n (pc' := 56) (show decode cX10_termOf 55 = .ok (.aload_n 0, 1) by decide +kernel) rfl rfl rfl ?_
  refine tr_getI (pc' := 59) fl_HandRingModel_274 (show decode cX10_termOf 56 = .ok (.getfield 274, 3) by decide +kernel) rfl (la_o hL (by decide) rfl) ?_
  obtain ⟨x6, ex6, h⟩ := hm_bs h
  have cx6 := ok_X10_codeAt (fr := fr - 1) (ν := ν) (by omega) (μ1.1 179 22) μ1 hL ex6
  refine tp_callV (pc' := 62) (As := [.int (μ1.1 179 22)]) (fr1 := fr - 1) (ci := 10) okm_X10_codeAt lk_HandRingModel_277 (show decode cX10_termOf 59 = .ok (.invokevirtual 277, 3) by decide +kernel) rfl rfl rfl (by decide) (la_o hL (by decide) rfl) rfl rfl (Nat.le_of_ble_eq_true rfl) (by omega) cx6 (st' := [.int x6]) rfl ?_
  refine tr_istore (pc' := 64) (lv' := [some (.ref 179), some (.int v1), some (.long y2), none, some (.int x6), none, none]) (show decode cX10_termOf 62 = .ok (.istore 4, 2) by decide +kernel) rfl (Nat.le_of_ble_eq_true rfl) rfl rfl ?_
  refine tr_aload_n (pc' := 65) (show decode cX10_termOf 64 = .ok (.aload_n 0, 1) by decide +kernel) rfl rfl rfl ?_
  refine tr_dup (pc' := 66) (show decode cX10_termOf 65 = .ok (.dup, 1) by decide +kernel) rfl rfl ?_
  refine tr_getI (pc' := 69) fl_HandRingModel_274 (show decode cX10_termOf 66 = .ok (.getfield 274, 3) by decide +kernel) rfl (la_o hL (by decide) rfl) ?_
  refine tr_iconst (pc' := 70) (v := (1 : Int32)) (show decode cX10_termOf 69 = .ok (.iconst 1, 1) by decide +kernel) rfl (by decide) ?_
  refine tr_iadd (pc' := 71) (show decode cX10_termOf 70 = .ok (.iadd, 1) by decide +kernel) rfl ?_
  obtain ⟨μ7, eμ7, h⟩ := hm_bs h
  refine tp_pI (pc' := 74) fl_HandRingModel_274 (show decode cX10_termOf 71 = .ok (.putfield 274, 3) by decide +kernel) rfl (la_o hL (by decide) rfl) eμ7 ?_
  replace hL := hL.same (hm_pI_s eμ7)
  refine tr_aload_n (pc' := 75) (show decode cX10_termOf 74 = .ok (.aload_n 0, 1) by decide +kernel) rfl rfl rfl ?_
  refine tr_iload_n (pc' := 76) (show decode cX10_termOf 75 = .ok (.iload_n 1, 1) by decide +kernel) rfl rfl rfl ?_
  obtain ⟨x8, μ9, ex8, h⟩ := hm_b2s h
  have cx8 := hk_X10_partOf v1 μ7 hL ex8
  refine tp_callV (pc' := 79) (As := [.int v1]) (fr1 := fr - 1) (ci := 10) okm_X10_partOf lk_HandRingModel_295 (show decode cX10_termOf 76 = .ok (.invokevirtual 295, 3) by decide +kernel) rfl rfl rfl (by decide) (la_o hL (by decide) rfl) rfl rfl (Nat.le_of_ble_eq_true rfl) (by omega) cx8 (st' := [.long x8]) rfl ?_
  replace hL := cx8.1
  refine tr_lstore (pc' := 81) (lv' := [some (.ref 179), some (.int v1), some (.long y2), none, some (.int x6), some (.long x8), none]) (show decode cX10_termOf 79 = .ok (.lstore 5, 2) by decide +kernel) rfl (Nat.le_of_ble_eq_true rfl) rfl rfl ?_
  refine tr_iload (pc' := 83) (show decode cX10_termOf 81 = .ok (.iload 4, 2) by decide +kernel) rfl rfl ?_
  refine tr_bipush (pc' := 85) (v := (42 : Int32)) (show decode cX10_termOf 83 = .ok (.bipush 42, 2) by decide +kernel) rfl (by decide) ?_
  obtain ⟨x10, ex10, h⟩ := hm_bs h
  have cx10 := ok_X10_sign (fr := fr - 1) (ν := ν) (by omega) (42 : Int32) μ9 hL ex10
  refine tp_callS (pc' := 88) (As := [.int (42 : Int32)]) (fr1 := fr - 1) okm_X10_sign lk_HandRingModel_233 (show decode cX10_termOf 85 = .ok (.invokestatic 233, 3) by decide +kernel) rfl rfl rfl (Nat.le_of_ble_eq_true rfl) (by omega) cx10 (st' := [.int x10, .int x6]) rfl ?_
  rcases hm_is h with ⟨hc, h⟩ | ⟨hc, h⟩
  · refine tr_icmp_eq_t (tgt := 121) hc (show decode cX10_termOf 88 = .ok (.if_icmp .eq 33, 3) by decide +kernel) (by decide) ?_
    exact ok_X10_termOf_J121 hfr k_X10_partOf hk_X10_partOf k_X10_sumOf hk_X10_sumOf k_X10_termOf hk_X10_termOf _ c6 e168 hc6 he168 y2 x6 x8 μ9 hL h
  · refine tr_icmp_eq_f (tgt := 121) (pc' := 91) hc (show decode cX10_termOf 88 = .ok (.if_icmp .eq 33, 3) by decide +kernel) (by decide) rfl ?_
    refine tr_lload (pc' := 93) (show decode cX10_termOf 91 = .ok (.lload 5, 2) by decide +kernel) rfl rfl ?_
    refine tr_lconst (pc' := 94) (v := (0 : Int64)) (show decode cX10_termOf 93 = .ok (.lconst 0, 1) by decide +kernel) rfl (by decide) ?_
    refine tr_lcmp (pc' := 95) (show decode cX10_termOf 94 = .ok (.lcmp, 1) by decide +kernel) rfl ?_
    rcases hm_is h with ⟨hc, h⟩ | ⟨hc, h⟩
    · refine tr_if_ne_f (tgt := 121) (pc' := 98) hc (show decode cX10_termOf 95 = .ok (.ifCond .ne 26, 3) by decide +kernel) (by decide) rfl ?_
      refine tr_aload_n (pc' := 99) (show decode cX10_termOf 98 = .ok (.aload_n 0, 1) by decide +kernel) rfl rfl rfl ?_
      refine tr_aload_n (pc' := 100) (show decode cX10_termOf 99 = .ok (.aload_n 0, 1) by decide +kernel) rfl rfl rfl ?_
      refine tr_getI (pc' := 103) fl_HandRingModel_284 (show decode cX10_termOf 100 = .ok (.getfield 284, 3) by decide +kernel) rfl (la_o hL (by decide) rfl) ?_
      rcases hm_is h with ⟨hc, h⟩ | ⟨hc, h⟩
      · refine tr_if_ne_f (tgt := 110) (pc' := 106) hc (show decode cX10_termOf 103 = .ok (.ifCond .ne 7, 3) by decide +kernel) (by decide) rfl ?_
        refine tr_iload_n (pc' := 107) (show decode cX10_termOf 106 = .ok (.iload_n 1, 1) by decide +kernel) rfl rfl rfl ?_
        rcases hm_is h with ⟨hc, h⟩ | ⟨hc, h⟩
        · refine tr_if_eq_t (tgt := 114) hc (show decode cX10_termOf 107 = .ok (.ifCond .eq 7, 3) by decide +kernel) (by decide) ?_
          refine tr_iconst (pc' := 115) (v := (0 : Int32)) (show decode cX10_termOf 114 = .ok (.iconst 0, 1) by decide +kernel) rfl (by decide) ?_
          refine hm_fgt [true, true, true, false, true, false, false] (lv' := [some (.ref 179), some (.int v1), some (.long y2), none, some (.int x6), none, none]) rfl ?_
          exact ok_X10_termOf_J115 hfr k_X10_partOf hk_X10_partOf k_X10_sumOf hk_X10_sumOf k_X10_termOf hk_X10_termOf _ c6 e168 hc6 he168 (0 : Int32) y2 x6 μ9 hL h
        · refine tr_if_eq_f (tgt := 114) (pc' := 110) hc (show decode cX10_termOf 107 = .ok (.ifCond .eq 7, 3) by decide +kernel) (by decide) rfl ?_
          refine hm_fgt [true, true, true, false, true, false, false] (lv' := [some (.ref 179), some (.int v1), some (.long y2), none, some (.int x6), none, none]) rfl ?_
          exact ok_X10_termOf_J110 hfr k_X10_partOf hk_X10_partOf k_X10_sumOf hk_X10_sumOf k_X10_termOf hk_X10_termOf _ c6 e168 hc6 he168 y2 x6 μ9 hL h
      · refine tr_if_ne_t (tgt := 110) hc (show decode cX10_termOf 103 = .ok (.ifCond .ne 7, 3) by decide +kernel) (by decide) ?_
        refine hm_fgt [true, true, true, false, true, false, false] (lv' := [some (.ref 179), some (.int v1), some (.long y2), none, some (.int x6), none, none]) rfl ?_
        exact ok_X10_termOf_J110 hfr k_X10_partOf hk_X10_partOf k_X10_sumOf hk_X10_sumOf k_X10_termOf hk_X10_termOf _ c6 e168 hc6 he168 y2 x6 μ9 hL h
    · refine tr_if_ne_t (tgt := 121) hc (show decode cX10_termOf 95 = .ok (.ifCond .ne 26, 3) by decide +kernel) (by decide) ?_
      exact ok_X10_termOf_J121 hfr k_X10_partOf hk_X10_partOf k_X10_sumOf hk_X10_sumOf k_X10_termOf hk_X10_termOf _ c6 e168 hc6 he168 y2 x6 x8 μ9 hL h
def f_X10_termOf_L6 (k_X10_partOf : Int32 → hm_M → Option (Int64 × hm_M)) (k_X10_sumOf : Int32 → hm_M → Option (Int64 × hm_M)) (k_X10_termOf : Int32 → hm_M → Option (Int64 × hm_M)) (v1 : Int32) (e168 : Int64 → hm_M → Option (Int64 × hm_M)) : Nat → Int64 → hm_M → Option (Int64 × hm_M)
  | 0, _, _ => none
  | n + 1, y2, μ1 => Option.bind (f_X10_codeAt (μ1.1 179 22) μ1) fun x4 =>
  Option.bind (f_X10_sign (42 : Int32)) fun x5 =>
  (if x4 = x5 then
  f_X10_termOf_J54 k_X10_partOf k_X10_sumOf k_X10_termOf v1 (f_X10_termOf_L6 k_X10_partOf k_X10_sumOf k_X10_termOf v1 e168 n) e168 y2 μ1
  else
  Option.bind (f_X10_codeAt (μ1.1 179 22) μ1) fun x18 =>
  Option.bind (f_X10_sign (47 : Int32)) fun x19 =>
  (if x18 = x19 then
  f_X10_termOf_J54 k_X10_partOf k_X10_sumOf k_X10_termOf v1 (f_X10_termOf_L6 k_X10_partOf k_X10_sumOf k_X10_termOf v1 e168 n) e168 y2 μ1
  else
  Option.bind (f_X10_codeAt (μ1.1 179 22) μ1) fun x20 =>
  Option.bind (f_X10_sign (37 : Int32)) fun x21 =>
  (if x20 = x21 then
  f_X10_termOf_J54 k_X10_partOf k_X10_sumOf k_X10_termOf v1 (f_X10_termOf_L6 k_X10_partOf k_X10_sumOf k_X10_termOf v1 e168 n) e168 y2 μ1
  else
  e168 y2 μ1)))
theorem ok_X10_termOf_L6 {fr : Nat} (hfr : 2 ≤ fr) {ν : hm_N} {r : Int64} {μR : hm_M} (k_X10_partOf : Int32 → hm_M → Option (Int64 × hm_M)) (hk_X10_partOf : ∀ {r : Int64} {μR : hm_M} (v1 : Int32)  (μ : hm_M), hm_LL ν μ → k_X10_partOf v1 μ = some (r, μR) → hm_CC (hm_LL ν) m_X10_partOf (fr - 1) 0 0 [.ref 179, .int v1] μ (some (.long r)) μR) (k_X10_sumOf : Int32 → hm_M → Option (Int64 × hm_M)) (hk_X10_sumOf : ∀ {r : Int64} {μR : hm_M} (v1 : Int32)  (μ : hm_M), hm_LL ν μ → k_X10_sumOf v1 μ = some (r, μR) → hm_CC (hm_LL ν) m_X10_sumOf (fr - 1) 0 0 [.ref 179, .int v1] μ (some (.long r)) μR) (k_X10_termOf : Int32 → hm_M → Option (Int64 × hm_M)) (hk_X10_termOf : ∀ {r : Int64} {μR : hm_M} (v1 : Int32)  (μ : hm_M), hm_LL ν μ → k_X10_termOf v1 μ = some (r, μR) → hm_CC (hm_LL ν) m_X10_termOf (fr - 1) 0 0 [.ref 179, .int v1] μ (some (.long r)) μR) (v1 : Int32) (e168 : Int64 → hm_M → Option (Int64 × hm_M))  (he168 : ∀ (y2 : Int64)  (μ1 : hm_M), hm_LL ν μ1 → e168 y2 μ1 = some (r, μR) → hm_T (hm_LL ν) m_X10_termOf fr 0 0 (some (.long r)) μR 168 [none, none, some (.long y2), none, none, none, none] [] μ1)  : ∀ (n : Nat) (y2 : Int64)  (μ1 : hm_M), hm_LL ν μ1 → f_X10_termOf_L6 k_X10_partOf k_X10_sumOf k_X10_termOf v1 e168 n y2 μ1 = some (r, μR) → hm_T (hm_LL ν) m_X10_termOf fr 0 0 (some (.long r)) μR 6 [some (.ref 179), some (.int v1), some (.long y2), none, none, none, none] [] μ1 := by
  intro n
  induction n with
  | zero =>
    intro y2 μ1 hL h
    unfold f_X10_termOf_L6 at h
    cases h
  | succ n ih =>
    intro y2 μ1 hL h
    unfold f_X10_termOf_L6 at h
    refine tr_aload_n (pc' := 7) (show decode cX10_termOf 6 = .ok (.aload_n 0, 1) by decide +kernel) rfl rfl rfl ?_
    refine tr_aload_n (pc' := 8) (show decode cX10_termOf 7 = .ok (.aload_n 0, 1) by decide +kernel) rfl rfl rfl ?_
    refine tr_getI (pc' := 11) fl_HandRingModel_274 (show decode cX10_termOf 8 = .ok (.getfield 274, 3) by decide +kernel) rfl (la_o hL (by decide) rfl) ?_
    obtain ⟨x4, ex4, h⟩ := hm_bs h
    have cx4 := ok_X10_codeAt (fr := fr - 1) (ν := ν) (by omega) (μ1.1 179 22) μ1 hL ex4
    refine tp_callV (pc' := 14) (As := [.int (μ1.1 179 22)]) (fr1 := fr - 1) (ci := 10) okm_X10_codeAt lk_HandRingModel_277 (show decode cX10_termOf 11 = .ok (.invokevirtual 277, 3) by decide +kernel) rfl rfl rfl (by decide) (la_o hL (by decide) rfl) rfl rfl (Nat.le_of_ble_eq_true rfl) (by omega) cx4 (st' := [.int x4]) rfl ?_
    refine tr_bipush (pc' := 16) (v := (42 : Int32)) (show decode cX10_termOf 14 = .ok (.bipush 42, 2) by decide +kernel) rfl (by decide) ?_
    obtain ⟨x5, ex5, h⟩ := hm_bs h
    have cx5 := ok_X10_sign (fr := fr - 1) (ν := ν) (by omega) (42 : Int32) μ1 hL ex5
    refine tp_callS (pc' := 19) (As := [.int (42 : Int32)]) (fr1 := fr - 1) okm_X10_sign lk_HandRingModel_233 (show decode cX10_termOf 16 = .ok (.invokestatic 233, 3) by decide +kernel) rfl rfl rfl (Nat.le_of_ble_eq_true rfl) (by omega) cx5 (st' := [.int x5, .int x4]) rfl ?_
    rcases hm_is h with ⟨hc, h⟩ | ⟨hc, h⟩
    · refine tr_icmp_eq_t (tgt := 54) hc (show decode cX10_termOf 19 = .ok (.if_icmp .eq 35, 3) by decide +kernel) (by decide) ?_
      exact ok_X10_termOf_J54 hfr k_X10_partOf hk_X10_partOf k_X10_sumOf hk_X10_sumOf k_X10_termOf hk_X10_termOf _ (f_X10_termOf_L6 k_X10_partOf k_X10_sumOf k_X10_termOf v1 e168 n) e168 ih he168 y2 μ1 hL h
    · refine tr_icmp_eq_f (tgt := 54) (pc' := 22) hc (show decode cX10_termOf 19 = .ok (.if_icmp .eq 35, 3) by decide +kernel) (by decide) rfl ?_
      refine tr_aload_n (pc' := 23) (show decode cX10_termOf 22 = .ok (.aload_n 0, 1) by decide +kernel) rfl rfl rfl ?_
      refine tr_aload_n (pc' := 24) (show decode cX10_termOf 23 = .ok (.aload_n 0, 1) by decide +kernel) rfl rfl rfl ?_
      refine tr_getI (pc' := 27) fl_HandRingModel_274 (show decode cX10_termOf 24 = .ok (.getfield 274, 3) by decide +kernel) rfl (la_o hL (by decide) rfl) ?_
      obtain ⟨x18, ex18, h⟩ := hm_bs h
      have cx18 := ok_X10_codeAt (fr := fr - 1) (ν := ν) (by omega) (μ1.1 179 22) μ1 hL ex18
      refine tp_callV (pc' := 30) (As := [.int (μ1.1 179 22)]) (fr1 := fr - 1) (ci := 10) okm_X10_codeAt lk_HandRingModel_277 (show decode cX10_termOf 27 = .ok (.invokevirtual 277, 3) by decide +kernel) rfl rfl rfl (by decide) (la_o hL (by decide) rfl) rfl rfl (Nat.le_of_ble_eq_true rfl) (by omega) cx18 (st' := [.int x18]) rfl ?_
      refine tr_bipush (pc' := 32) (v := (47 : Int32)) (show decode cX10_termOf 30 = .ok (.bipush 47, 2) by decide +kernel) rfl (by decide) ?_
      obtain ⟨x19, ex19, h⟩ := hm_bs h
      have cx19 := ok_X10_sign (fr := fr - 1) (ν := ν) (by omega) (47 : Int32) μ1 hL ex19
      refine tp_callS (pc' := 35) (As := [.int (47 : Int32)]) (fr1 := fr - 1) okm_X10_sign lk_HandRingModel_233 (show decode cX10_termOf 32 = .ok (.invokestatic 233, 3) by decide +kernel) rfl rfl rfl (Nat.le_of_ble_eq_true rfl) (by omega) cx19 (st' := [.int x19, .int x18]) rfl ?_
      rcases hm_is h with ⟨hc, h⟩ | ⟨hc, h⟩
      · refine tr_icmp_eq_t (tgt := 54) hc (show decode cX10_termOf 35 = .ok (.if_icmp .eq 19, 3) by decide +kernel) (by decide) ?_
        exact ok_X10_termOf_J54 hfr k_X10_partOf hk_X10_partOf k_X10_sumOf hk_X10_sumOf k_X10_termOf hk_X10_termOf _ (f_X10_termOf_L6 k_X10_partOf k_X10_sumOf k_X10_termOf v1 e168 n) e168 ih he168 y2 μ1 hL h
      · refine tr_icmp_eq_f (tgt := 54) (pc' := 38) hc (show decode cX10_termOf 35 = .ok (.if_icmp .eq 19, 3) by decide +kernel) (by decide) rfl ?_
        refine tr_aload_n (pc' := 39) (show decode cX10_termOf 38 = .ok (.aload_n 0, 1) by decide +kernel) rfl rfl rfl ?_
        refine tr_aload_n (pc' := 40) (show decode cX10_termOf 39 = .ok (.aload_n 0, 1) by decide +kernel) rfl rfl rfl ?_
        refine tr_getI (pc' := 43) fl_HandRingModel_274 (show decode cX10_termOf 40 = .ok (.getfield 274, 3) by decide +kernel) rfl (la_o hL (by decide) rfl) ?_
        obtain ⟨x20, ex20, h⟩ := hm_bs h
        have cx20 := ok_X10_codeAt (fr := fr - 1) (ν := ν) (by omega) (μ1.1 179 22) μ1 hL ex20
        refine tp_callV (pc' := 46) (As := [.int (μ1.1 179 22)]) (fr1 := fr - 1) (ci := 10) okm_X10_codeAt lk_HandRingModel_277 (show decode cX10_termOf 43 = .ok (.invokevirtual 277, 3) by decide +kernel) rfl rfl rfl (by decide) (la_o hL (by decide) rfl) rfl rfl (Nat.le_of_ble_eq_true rfl) (by omega) cx20 (st' := [.int x20]) rfl ?_
        refine tr_bipush (pc' := 48) (v := (37 : Int32)) (show decode cX10_termOf 46 = .ok (.bipush 37, 2) by decide +kernel) rfl (by decide) ?_
        obtain ⟨x21, ex21, h⟩ := hm_bs h
        have cx21 := ok_X10_sign (fr := fr - 1) (ν := ν) (by omega) (37 : Int32) μ1 hL ex21
        refine tp_callS (pc' := 51) (As := [.int (37 : Int32)]) (fr1 := fr - 1) okm_X10_sign lk_HandRingModel_233 (show decode cX10_termOf 48 = .ok (.invokestatic 233, 3) by decide +kernel) rfl rfl rfl (Nat.le_of_ble_eq_true rfl) (by omega) cx21 (st' := [.int x21, .int x20]) rfl ?_
        rcases hm_is h with ⟨hc, h⟩ | ⟨hc, h⟩
        · refine tr_icmp_ne_f (tgt := 168) (pc' := 54) hc (show decode cX10_termOf 51 = .ok (.if_icmp .ne 117, 3) by decide +kernel) (by decide) rfl ?_
          exact ok_X10_termOf_J54 hfr k_X10_partOf hk_X10_partOf k_X10_sumOf hk_X10_sumOf k_X10_termOf hk_X10_termOf _ (f_X10_termOf_L6 k_X10_partOf k_X10_sumOf k_X10_termOf v1 e168 n) e168 ih he168 y2 μ1 hL h
        · refine tr_icmp_ne_t (tgt := 168) hc (show decode cX10_termOf 51 = .ok (.if_icmp .ne 117, 3) by decide +kernel) (by decide) ?_
          refine hm_fgt [false, false, true, false, false, false, false] (lv' := [none, none, some (.long y2), none, none, none, none]) rfl ?_
          exact he168 y2 μ1 hL h
def f_X10_termOf (k_X10_partOf : Int32 → hm_M → Option (Int64 × hm_M)) (k_X10_sumOf : Int32 → hm_M → Option (Int64 × hm_M)) (k_X10_termOf : Int32 → hm_M → Option (Int64 × hm_M)) (v1 : Int32) (μ : hm_M) : Option (Int64 × hm_M) :=
  hm_b2 (k_X10_partOf v1 μ) fun x2 μ3 =>
  f_X10_termOf_L6 k_X10_partOf k_X10_sumOf k_X10_termOf v1 (fun z22_2 μz22 => some (z22_2, μz22)) hm_fu x2 μ3
set_option maxRecDepth 100000 in
theorem ok_X10_termOf {fr : Nat} (hfr : 2 ≤ fr) {ν : hm_N} {r : Int64} {μR : hm_M} (k_X10_partOf : Int32 → hm_M → Option (Int64 × hm_M)) (hk_X10_partOf : ∀ {r : Int64} {μR : hm_M} (v1 : Int32)  (μ : hm_M), hm_LL ν μ → k_X10_partOf v1 μ = some (r, μR) → hm_CC (hm_LL ν) m_X10_partOf (fr - 1) 0 0 [.ref 179, .int v1] μ (some (.long r)) μR) (k_X10_sumOf : Int32 → hm_M → Option (Int64 × hm_M)) (hk_X10_sumOf : ∀ {r : Int64} {μR : hm_M} (v1 : Int32)  (μ : hm_M), hm_LL ν μ → k_X10_sumOf v1 μ = some (r, μR) → hm_CC (hm_LL ν) m_X10_sumOf (fr - 1) 0 0 [.ref 179, .int v1] μ (some (.long r)) μR) (k_X10_termOf : Int32 → hm_M → Option (Int64 × hm_M)) (hk_X10_termOf : ∀ {r : Int64} {μR : hm_M} (v1 : Int32)  (μ : hm_M), hm_LL ν μ → k_X10_termOf v1 μ = some (r, μR) → hm_CC (hm_LL ν) m_X10_termOf (fr - 1) 0 0 [.ref 179, .int v1] μ (some (.long r)) μR) (v1 : Int32)  (μ : hm_M) (hL : hm_LL ν μ) (h : f_X10_termOf k_X10_partOf k_X10_sumOf k_X10_termOf v1 μ = some (r, μR)) : hm_CC (hm_LL ν) m_X10_termOf fr 0 0 [.ref 179, .int v1] μ (some (.long r)) μR := by
  refine hm_enter (lv := [some (.ref 179), some (.int v1), none, none, none, none, none]) (by decide) rfl (Nat.le_of_ble_eq_true rfl) ?_
  unfold f_X10_termOf at h
  refine tr_aload_n (pc' := 1) (show decode cX10_termOf 0 = .ok (.aload_n 0, 1) by decide +kernel) rfl rfl rfl ?_
  refine tr_iload_n (pc' := 2) (show decode cX10_termOf 1 = .ok (.iload_n 1, 1) by decide +kernel) rfl rfl rfl ?_
  obtain ⟨x2, μ3, ex2, h⟩ := hm_b2s h
  have cx2 := hk_X10_partOf v1 μ hL ex2
  refine tp_callV (pc' := 5) (As := [.int v1]) (fr1 := fr - 1) (ci := 10) okm_X10_partOf lk_HandRingModel_295 (show decode cX10_termOf 2 = .ok (.invokevirtual 295, 3) by decide +kernel) rfl rfl rfl (by decide) (la_o hL (by decide) rfl) rfl rfl (Nat.le_of_ble_eq_true rfl) (by omega) cx2 (st' := [.long x2]) rfl ?_
  replace hL := cx2.1
  refine tr_lstore_n (pc' := 6) (lv' := [some (.ref 179), some (.int v1), some (.long x2), none, none, none, none]) (show decode cX10_termOf 5 = .ok (.lstore_n 2, 1) by decide +kernel) rfl rfl (Nat.le_of_ble_eq_true rfl) rfl rfl ?_
  refine ok_X10_termOf_L6 hfr k_X10_partOf hk_X10_partOf k_X10_sumOf hk_X10_sumOf k_X10_termOf hk_X10_termOf _ _ ?_ _ x2 μ3 hL h
  · intro z22_2 μz22 hL h
    refine tr_lload_n (pc' := 169) (show decode cX10_termOf 168 = .ok (.lload_n 2, 1) by decide +kernel) rfl rfl rfl ?_
    cases h
    exact tr_lret rfl (show decode cX10_termOf 169 = .ok (.lreturn, 1) by decide +kernel) hL
def K_X10_partOf : Nat → (Int32 → hm_M → Option (Int64 × hm_M)) × (Int32 → hm_M → Option (Int64 × hm_M)) × (Int32 → hm_M → Option (Int64 × hm_M))
  | 0 => (fun _ _ => none, fun _ _ => none, fun _ _ => none)
  | n + 1 => (f_X10_partOf (K_X10_partOf n).1 (K_X10_partOf n).2.1 (K_X10_partOf n).2.2, f_X10_sumOf (K_X10_partOf n).1 (K_X10_partOf n).2.1 (K_X10_partOf n).2.2, f_X10_termOf (K_X10_partOf n).1 (K_X10_partOf n).2.1 (K_X10_partOf n).2.2)
theorem KK_X10_partOf {ν : hm_N} : ∀ (n fr : Nat), n + 4 ≤ fr → (∀ {r : Int64} {μR : hm_M} (v1 : Int32)  (μ : hm_M), hm_LL ν μ → (K_X10_partOf n).1 v1 μ = some (r, μR) → hm_CC (hm_LL ν) m_X10_partOf (fr) 0 0 [.ref 179, .int v1] μ (some (.long r)) μR) ∧ (∀ {r : Int64} {μR : hm_M} (v1 : Int32)  (μ : hm_M), hm_LL ν μ → (K_X10_partOf n).2.1 v1 μ = some (r, μR) → hm_CC (hm_LL ν) m_X10_sumOf (fr) 0 0 [.ref 179, .int v1] μ (some (.long r)) μR) ∧ (∀ {r : Int64} {μR : hm_M} (v1 : Int32)  (μ : hm_M), hm_LL ν μ → (K_X10_partOf n).2.2 v1 μ = some (r, μR) → hm_CC (hm_LL ν) m_X10_termOf (fr) 0 0 [.ref 179, .int v1] μ (some (.long r)) μR) := by
  intro n
  induction n with
  | zero =>
    intro fr _
    exact ⟨by intros; rename_i h; exact absurd (show none = some _ from h) (fun z => by cases z), by intros; rename_i h; exact absurd (show none = some _ from h) (fun z => by cases z), by intros; rename_i h; exact absurd (show none = some _ from h) (fun z => by cases z)⟩
  | succ n ih =>
    intro fr hf
    have I := @ih (fr - 1) (by omega)
    exact ⟨(fun {_} {_} v1  μ hL h => ok_X10_partOf (by omega) (K_X10_partOf n).1 I.1 (K_X10_partOf n).2.1 I.2.1 (K_X10_partOf n).2.2 I.2.2 v1  μ hL h),
      (fun {_} {_} v1  μ hL h => ok_X10_sumOf (by omega) (K_X10_partOf n).1 I.1 (K_X10_partOf n).2.1 I.2.1 (K_X10_partOf n).2.2 I.2.2 v1  μ hL h),
      (fun {_} {_} v1  μ hL h => ok_X10_termOf (by omega) (K_X10_partOf n).1 I.1 (K_X10_partOf n).2.1 I.2.1 (K_X10_partOf n).2.2 I.2.2 v1  μ hL h)⟩
def F_X10_partOf (v1 : Int32) (μ : hm_M) : Option (Int64 × hm_M) := (K_X10_partOf 40).1 v1 μ
theorem OK_X10_partOf {fr : Nat} (hfr : 44 ≤ fr) {ν : hm_N} {r : Int64} {μR : hm_M} (v1 : Int32)  (μ : hm_M) (hL : hm_LL ν μ) (h : F_X10_partOf v1 μ = some (r, μR)) : hm_CC (hm_LL ν) m_X10_partOf fr 0 0 [.ref 179, .int v1] μ (some (.long r)) μR := (KK_X10_partOf 40 fr (by omega)).1 v1  μ hL h
def F_X10_sumOf (v1 : Int32) (μ : hm_M) : Option (Int64 × hm_M) := (K_X10_partOf 40).2.1 v1 μ
theorem OK_X10_sumOf {fr : Nat} (hfr : 44 ≤ fr) {ν : hm_N} {r : Int64} {μR : hm_M} (v1 : Int32)  (μ : hm_M) (hL : hm_LL ν μ) (h : F_X10_sumOf v1 μ = some (r, μR)) : hm_CC (hm_LL ν) m_X10_sumOf fr 0 0 [.ref 179, .int v1] μ (some (.long r)) μR := (KK_X10_partOf 40 fr (by omega)).2.1 v1  μ hL h
def F_X10_termOf (v1 : Int32) (μ : hm_M) : Option (Int64 × hm_M) := (K_X10_partOf 40).2.2 v1 μ
theorem OK_X10_termOf {fr : Nat} (hfr : 44 ≤ fr) {ν : hm_N} {r : Int64} {μR : hm_M} (v1 : Int32)  (μ : hm_M) (hL : hm_LL ν μ) (h : F_X10_termOf v1 μ = some (r, μR)) : hm_CC (hm_LL ν) m_X10_termOf fr 0 0 [.ref 179, .int v1] μ (some (.long r)) μR := (KK_X10_partOf 40 fr (by omega)).2.2 v1  μ hL h
def f_X10_bothOf_J46 (k_X10_bothOf : Int32 → hm_M → Option (Int32 × hm_M)) (k_X10_plainOf : Int32 → hm_M → Option (Int32 × hm_M)) (k_X10_positiveOf : Int32 → hm_M → Option (Int32 × hm_M)) (k_X10_testOf : Int32 → hm_M → Option (Int32 × hm_M)) (v1 : Int32) (c6 : Int32 → hm_M → Option (Int32 × hm_M)) (e50 : Int32 → hm_M → Option (Int32 × hm_M)) (s0 : Int32) (μ1 : hm_M) : Option (Int32 × hm_M) :=
  c6 s0 μ1
theorem ok_X10_bothOf_J46 {fr : Nat} (hfr : 3 ≤ fr) {ν : hm_N} {r : Int32} {μR : hm_M} (k_X10_bothOf : Int32 → hm_M → Option (Int32 × hm_M)) (hk_X10_bothOf : ∀ {r : Int32} {μR : hm_M} (v1 : Int32)  (μ : hm_M), hm_LL ν μ → k_X10_bothOf v1 μ = some (r, μR) → hm_CC (hm_LL ν) m_X10_bothOf (fr - 1) 0 0 [.ref 179, .int v1] μ (some (.int r)) μR) (k_X10_plainOf : Int32 → hm_M → Option (Int32 × hm_M)) (hk_X10_plainOf : ∀ {r : Int32} {μR : hm_M} (v1 : Int32)  (μ : hm_M), hm_LL ν μ → k_X10_plainOf v1 μ = some (r, μR) → hm_CC (hm_LL ν) m_X10_plainOf (fr - 1) 0 0 [.ref 179, .int v1] μ (some (.int r)) μR) (k_X10_positiveOf : Int32 → hm_M → Option (Int32 × hm_M)) (hk_X10_positiveOf : ∀ {r : Int32} {μR : hm_M} (v1 : Int32)  (μ : hm_M), hm_LL ν μ → k_X10_positiveOf v1 μ = some (r, μR) → hm_CC (hm_LL ν) m_X10_positiveOf (fr - 1) 0 0 [.ref 179, .int v1] μ (some (.int r)) μR) (k_X10_testOf : Int32 → hm_M → Option (Int32 × hm_M)) (hk_X10_testOf : ∀ {r : Int32} {μR : hm_M} (v1 : Int32)  (μ : hm_M), hm_LL ν μ → k_X10_testOf v1 μ = some (r, μR) → hm_CC (hm_LL ν) m_X10_testOf (fr - 1) 0 0 [.ref 179, .int v1] μ (some (.int r)) μR) (v1 : Int32) (c6 : Int32 → hm_M → Option (Int32 × hm_M)) (e50 : Int32 → hm_M → Option (Int32 × hm_M)) (hc6 : ∀ (y2 : Int32)  (μ1 : hm_M), hm_LL ν μ1 → c6 y2 μ1 = some (r, μR) → hm_T (hm_LL ν) m_X10_bothOf fr 0 0 (some (.int r)) μR 6 [some (.ref 179), some (.int v1), some (.int y2), none] [] μ1) (he50 : ∀ (y2 : Int32)  (μ1 : hm_M), hm_LL ν μ1 → e50 y2 μ1 = some (r, μR) → hm_T (hm_LL ν) m_X10_bothOf fr 0 0 (some (.int r)) μR 50 [none, none, some (.int y2), none] [] μ1)  (s0 : Int32) (μ1 : hm_M) (hL : hm_LL ν μ1) (h : f_X10_bothOf_J46 k_X10_bothOf k_X10_plainOf k_X10_positiveOf k_X10_testOf v1 c6 e50 s0 μ1 = some (r, μR)) : hm_T (hm_LL ν) m_X10_bothOf fr 0 0 (some (.int r)) μR 46 [some (.ref 179), some (.int v1), none, none] [.int s0] μ1 := by
  unfold f_X10_bothOf_J46 at h
  refine tr_istore_n (pc' := 47) (lv' := [some (.ref 179), some (.int v1), some (.int s0), none]) (show decode cX10_bothOf 46 = .ok (.istore_n 2, 1) by decide +kernel) rfl rfl (Nat.le_of_ble_eq_true rfl) rfl rfl ?_
  refine tr_goto (tgt := 6) (show decode cX10_bothOf 47 = .ok (.goto (-41), 3) by decide +kernel) rfl ?_
  exact hc6 s0 μ1 hL h
def f_X10_bothOf_J45 (k_X10_bothOf : Int32 → hm_M → Option (Int32 × hm_M)) (k_X10_plainOf : Int32 → hm_M → Option (Int32 × hm_M)) (k_X10_positiveOf : Int32 → hm_M → Option (Int32 × hm_M)) (k_X10_testOf : Int32 → hm_M → Option (Int32 × hm_M)) (v1 : Int32) (c6 : Int32 → hm_M → Option (Int32 × hm_M)) (e50 : Int32 → hm_M → Option (Int32 × hm_M)) (μ1 : hm_M) : Option (Int32 × hm_M) :=
  f_X10_bothOf_J46 k_X10_bothOf k_X10_plainOf k_X10_positiveOf k_X10_testOf v1 c6 e50 (0 : Int32) μ1
theorem ok_X10_bothOf_J45 {fr : Nat} (hfr : 3 ≤ fr) {ν : hm_N} {r : Int32} {μR : hm_M} (k_X10_bothOf : Int32 → hm_M → Option (Int32 × hm_M)) (hk_X10_bothOf : ∀ {r : Int32} {μR : hm_M} (v1 : Int32)  (μ : hm_M), hm_LL ν μ → k_X10_bothOf v1 μ = some (r, μR) → hm_CC (hm_LL ν) m_X10_bothOf (fr - 1) 0 0 [.ref 179, .int v1] μ (some (.int r)) μR) (k_X10_plainOf : Int32 → hm_M → Option (Int32 × hm_M)) (hk_X10_plainOf : ∀ {r : Int32} {μR : hm_M} (v1 : Int32)  (μ : hm_M), hm_LL ν μ → k_X10_plainOf v1 μ = some (r, μR) → hm_CC (hm_LL ν) m_X10_plainOf (fr - 1) 0 0 [.ref 179, .int v1] μ (some (.int r)) μR) (k_X10_positiveOf : Int32 → hm_M → Option (Int32 × hm_M)) (hk_X10_positiveOf : ∀ {r : Int32} {μR : hm_M} (v1 : Int32)  (μ : hm_M), hm_LL ν μ → k_X10_positiveOf v1 μ = some (r, μR) → hm_CC (hm_LL ν) m_X10_positiveOf (fr - 1) 0 0 [.ref 179, .int v1] μ (some (.int r)) μR) (k_X10_testOf : Int32 → hm_M → Option (Int32 × hm_M)) (hk_X10_testOf : ∀ {r : Int32} {μR : hm_M} (v1 : Int32)  (μ : hm_M), hm_LL ν μ → k_X10_testOf v1 μ = some (r, μR) → hm_CC (hm_LL ν) m_X10_testOf (fr - 1) 0 0 [.ref 179, .int v1] μ (some (.int r)) μR) (v1 : Int32) (c6 : Int32 → hm_M → Option (Int32 × hm_M)) (e50 : Int32 → hm_M → Option (Int32 × hm_M)) (hc6 : ∀ (y2 : Int32)  (μ1 : hm_M), hm_LL ν μ1 → c6 y2 μ1 = some (r, μR) → hm_T (hm_LL ν) m_X10_bothOf fr 0 0 (some (.int r)) μR 6 [some (.ref 179), some (.int v1), some (.int y2), none] [] μ1) (he50 : ∀ (y2 : Int32)  (μ1 : hm_M), hm_LL ν μ1 → e50 y2 μ1 = some (r, μR) → hm_T (hm_LL ν) m_X10_bothOf fr 0 0 (some (.int r)) μR 50 [none, none, some (.int y2), none] [] μ1)   (μ1 : hm_M) (hL : hm_LL ν μ1) (h : f_X10_bothOf_J45 k_X10_bothOf k_X10_plainOf k_X10_positiveOf k_X10_testOf v1 c6 e50 μ1 = some (r, μR)) : hm_T (hm_LL ν) m_X10_bothOf fr 0 0 (some (.int r)) μR 45 [some (.ref 179), some (.int v1), none, none] [] μ1 := by
  unfold f_X10_bothOf_J45 at h
  refine tr_iconst (pc' := 46) (v := (0 : Int32)) (show decode cX10_bothOf 45 = .ok (.iconst 0, 1) by decide +kernel) rfl (by decide) ?_
  exact ok_X10_bothOf_J46 hfr k_X10_bothOf hk_X10_bothOf k_X10_plainOf hk_X10_plainOf k_X10_positiveOf hk_X10_positiveOf k_X10_testOf hk_X10_testOf _ c6 e50 hc6 he50 (0 : Int32) μ1 hL h
def f_X10_bothOf_J29 (k_X10_bothOf : Int32 → hm_M → Option (Int32 × hm_M)) (k_X10_plainOf : Int32 → hm_M → Option (Int32 × hm_M)) (k_X10_positiveOf : Int32 → hm_M → Option (Int32 × hm_M)) (k_X10_testOf : Int32 → hm_M → Option (Int32 × hm_M)) (v1 : Int32) (c6 : Int32 → hm_M → Option (Int32 × hm_M)) (e50 : Int32 → hm_M → Option (Int32 × hm_M)) (s0 : Int32) (y2 : Int32) (μ1 : hm_M) : Option (Int32 × hm_M) :=
  hm_b2 (k_X10_plainOf s0 μ1) fun x6 μ7 =>
  (if y2 = 0 then
  f_X10_bothOf_J45 k_X10_bothOf k_X10_plainOf k_X10_positiveOf k_X10_testOf v1 c6 e50 μ7
  else
  (if x6 = 0 then
  f_X10_bothOf_J45 k_X10_bothOf k_X10_plainOf k_X10_positiveOf k_X10_testOf v1 c6 e50 μ7
  else
  f_X10_bothOf_J46 k_X10_bothOf k_X10_plainOf k_X10_positiveOf k_X10_testOf v1 c6 e50 (1 : Int32) μ7))
theorem ok_X10_bothOf_J29 {fr : Nat} (hfr : 3 ≤ fr) {ν : hm_N} {r : Int32} {μR : hm_M} (k_X10_bothOf : Int32 → hm_M → Option (Int32 × hm_M)) (hk_X10_bothOf : ∀ {r : Int32} {μR : hm_M} (v1 : Int32)  (μ : hm_M), hm_LL ν μ → k_X10_bothOf v1 μ = some (r, μR) → hm_CC (hm_LL ν) m_X10_bothOf (fr - 1) 0 0 [.ref 179, .int v1] μ (some (.int r)) μR) (k_X10_plainOf : Int32 → hm_M → Option (Int32 × hm_M)) (hk_X10_plainOf : ∀ {r : Int32} {μR : hm_M} (v1 : Int32)  (μ : hm_M), hm_LL ν μ → k_X10_plainOf v1 μ = some (r, μR) → hm_CC (hm_LL ν) m_X10_plainOf (fr - 1) 0 0 [.ref 179, .int v1] μ (some (.int r)) μR) (k_X10_positiveOf : Int32 → hm_M → Option (Int32 × hm_M)) (hk_X10_positiveOf : ∀ {r : Int32} {μR : hm_M} (v1 : Int32)  (μ : hm_M), hm_LL ν μ → k_X10_positiveOf v1 μ = some (r, μR) → hm_CC (hm_LL ν) m_X10_positiveOf (fr - 1) 0 0 [.ref 179, .int v1] μ (some (.int r)) μR) (k_X10_testOf : Int32 → hm_M → Option (Int32 × hm_M)) (hk_X10_testOf : ∀ {r : Int32} {μR : hm_M} (v1 : Int32)  (μ : hm_M), hm_LL ν μ → k_X10_testOf v1 μ = some (r, μR) → hm_CC (hm_LL ν) m_X10_testOf (fr - 1) 0 0 [.ref 179, .int v1] μ (some (.int r)) μR) (v1 : Int32) (c6 : Int32 → hm_M → Option (Int32 × hm_M)) (e50 : Int32 → hm_M → Option (Int32 × hm_M)) (hc6 : ∀ (y2 : Int32)  (μ1 : hm_M), hm_LL ν μ1 → c6 y2 μ1 = some (r, μR) → hm_T (hm_LL ν) m_X10_bothOf fr 0 0 (some (.int r)) μR 6 [some (.ref 179), some (.int v1), some (.int y2), none] [] μ1) (he50 : ∀ (y2 : Int32)  (μ1 : hm_M), hm_LL ν μ1 → e50 y2 μ1 = some (r, μR) → hm_T (hm_LL ν) m_X10_bothOf fr 0 0 (some (.int r)) μR 50 [none, none, some (.int y2), none] [] μ1)  (s0 : Int32) (y2 : Int32) (μ1 : hm_M) (hL : hm_LL ν μ1) (h : f_X10_bothOf_J29 k_X10_bothOf k_X10_plainOf k_X10_positiveOf k_X10_testOf v1 c6 e50 s0 y2 μ1 = some (r, μR)) : hm_T (hm_LL ν) m_X10_bothOf fr 0 0 (some (.int r)) μR 29 [some (.ref 179), some (.int v1), some (.int y2), none] [.int s0, .ref 179] μ1 := by
  unfold f_X10_bothOf_J29 at h
  obtain ⟨x6, μ7, ex6, h⟩ := hm_b2s h
  have cx6 := hk_X10_plainOf s0 μ1 hL ex6
  refine tp_callV (pc' := 32) (As := [.int s0]) (fr1 := fr - 1) (ci := 10) okm_X10_plainOf lk_HandRingModel_328 (show decode cX10_bothOf 29 = .ok (.invokevirtual 328, 3) by decide +kernel) rfl rfl rfl (by decide) (la_o hL (by decide) rfl) rfl rfl (Nat.le_of_ble_eq_true rfl) (by omega) cx6 (st' := [.int x6]) rfl ?_
  replace hL := cx6.1
  refine tr_istore_n (pc' := 33) (lv' := [some (.ref 179), some (.int v1), some (.int y2), some (.int x6)]) (show decode cX10_bothOf 32 = .ok (.istore_n 3, 1) by decide +kernel) rfl rfl (Nat.le_of_ble_eq_true rfl) rfl rfl ?_
  refine tr_iload_n (pc' := 34) (show decode cX10_bothOf 33 = .ok (.iload_n 2, 1) by decide +kernel) rfl rfl rfl ?_
  rcases hm_is h with ⟨hc, h⟩ | ⟨hc, h⟩
  · refine tr_if_eq_t (tgt := 45) hc (show decode cX10_bothOf 34 = .ok (.ifCond .eq 11, 3) by decide +kernel) (by decide) ?_
    refine hm_fgt [true, true, false, false] (lv' := [some (.ref 179), some (.int v1), none, none]) rfl ?_
    exact ok_X10_bothOf_J45 hfr k_X10_bothOf hk_X10_bothOf k_X10_plainOf hk_X10_plainOf k_X10_positiveOf hk_X10_positiveOf k_X10_testOf hk_X10_testOf _ c6 e50 hc6 he50 μ7 hL h
  · refine tr_if_eq_f (tgt := 45) (pc' := 37) hc (show decode cX10_bothOf 34 = .ok (.ifCond .eq 11, 3) by decide +kernel) (by decide) rfl ?_
    refine tr_iload_n (pc' := 38) (show decode cX10_bothOf 37 = .ok (.iload_n 3, 1) by decide +kernel) rfl rfl rfl ?_
    rcases hm_is h with ⟨hc, h⟩ | ⟨hc, h⟩
    · refine tr_if_eq_t (tgt := 45) hc (show decode cX10_bothOf 38 = .ok (.ifCond .eq 7, 3) by decide +kernel) (by decide) ?_
      refine hm_fgt [true, true, false, false] (lv' := [some (.ref 179), some (.int v1), none, none]) rfl ?_
      exact ok_X10_bothOf_J45 hfr k_X10_bothOf hk_X10_bothOf k_X10_plainOf hk_X10_plainOf k_X10_positiveOf hk_X10_positiveOf k_X10_testOf hk_X10_testOf _ c6 e50 hc6 he50 μ7 hL h
    · refine tr_if_eq_f (tgt := 45) (pc' := 41) hc (show decode cX10_bothOf 38 = .ok (.ifCond .eq 7, 3) by decide +kernel) (by decide) rfl ?_
      refine tr_iconst (pc' := 42) (v := (1 : Int32)) (show decode cX10_bothOf 41 = .ok (.iconst 1, 1) by decide +kernel) rfl (by decide) ?_
      refine tr_goto (tgt := 46) (show decode cX10_bothOf 42 = .ok (.goto 4, 3) by decide +kernel) rfl ?_
      refine hm_fgt [true, true, false, false] (lv' := [some (.ref 179), some (.int v1), none, none]) rfl ?_
      exact ok_X10_bothOf_J46 hfr k_X10_bothOf hk_X10_bothOf k_X10_plainOf hk_X10_plainOf k_X10_positiveOf hk_X10_positiveOf k_X10_testOf hk_X10_testOf _ c6 e50 hc6 he50 (1 : Int32) μ7 hL h
def f_X10_bothOf_J28 (k_X10_bothOf : Int32 → hm_M → Option (Int32 × hm_M)) (k_X10_plainOf : Int32 → hm_M → Option (Int32 × hm_M)) (k_X10_positiveOf : Int32 → hm_M → Option (Int32 × hm_M)) (k_X10_testOf : Int32 → hm_M → Option (Int32 × hm_M)) (v1 : Int32) (c6 : Int32 → hm_M → Option (Int32 × hm_M)) (e50 : Int32 → hm_M → Option (Int32 × hm_M)) (y2 : Int32) (μ1 : hm_M) : Option (Int32 × hm_M) :=
  f_X10_bothOf_J29 k_X10_bothOf k_X10_plainOf k_X10_positiveOf k_X10_testOf v1 c6 e50 (0 : Int32) y2 μ1
theorem ok_X10_bothOf_J28 {fr : Nat} (hfr : 3 ≤ fr) {ν : hm_N} {r : Int32} {μR : hm_M} (k_X10_bothOf : Int32 → hm_M → Option (Int32 × hm_M)) (hk_X10_bothOf : ∀ {r : Int32} {μR : hm_M} (v1 : Int32)  (μ : hm_M), hm_LL ν μ → k_X10_bothOf v1 μ = some (r, μR) → hm_CC (hm_LL ν) m_X10_bothOf (fr - 1) 0 0 [.ref 179, .int v1] μ (some (.int r)) μR) (k_X10_plainOf : Int32 → hm_M → Option (Int32 × hm_M)) (hk_X10_plainOf : ∀ {r : Int32} {μR : hm_M} (v1 : Int32)  (μ : hm_M), hm_LL ν μ → k_X10_plainOf v1 μ = some (r, μR) → hm_CC (hm_LL ν) m_X10_plainOf (fr - 1) 0 0 [.ref 179, .int v1] μ (some (.int r)) μR) (k_X10_positiveOf : Int32 → hm_M → Option (Int32 × hm_M)) (hk_X10_positiveOf : ∀ {r : Int32} {μR : hm_M} (v1 : Int32)  (μ : hm_M), hm_LL ν μ → k_X10_positiveOf v1 μ = some (r, μR) → hm_CC (hm_LL ν) m_X10_positiveOf (fr - 1) 0 0 [.ref 179, .int v1] μ (some (.int r)) μR) (k_X10_testOf : Int32 → hm_M → Option (Int32 × hm_M)) (hk_X10_testOf : ∀ {r : Int32} {μR : hm_M} (v1 : Int32)  (μ : hm_M), hm_LL ν μ → k_X10_testOf v1 μ = some (r, μR) → hm_CC (hm_LL ν) m_X10_testOf (fr - 1) 0 0 [.ref 179, .int v1] μ (some (.int r)) μR) (v1 : Int32) (c6 : Int32 → hm_M → Option (Int32 × hm_M)) (e50 : Int32 → hm_M → Option (Int32 × hm_M)) (hc6 : ∀ (y2 : Int32)  (μ1 : hm_M), hm_LL ν μ1 → c6 y2 μ1 = some (r, μR) → hm_T (hm_LL ν) m_X10_bothOf fr 0 0 (some (.int r)) μR 6 [some (.ref 179), some (.int v1), some (.int y2), none] [] μ1) (he50 : ∀ (y2 : Int32)  (μ1 : hm_M), hm_LL ν μ1 → e50 y2 μ1 = some (r, μR) → hm_T (hm_LL ν) m_X10_bothOf fr 0 0 (some (.int r)) μR 50 [none, none, some (.int y2), none] [] μ1)  (y2 : Int32) (μ1 : hm_M) (hL : hm_LL ν μ1) (h : f_X10_bothOf_J28 k_X10_bothOf k_X10_plainOf k_X10_positiveOf k_X10_testOf v1 c6 e50 y2 μ1 = some (r, μR)) : hm_T (hm_LL ν) m_X10_bothOf fr 0 0 (some (.int r)) μR 28 [some (.ref 179), some (.int v1), some (.int y2), none] [.ref 179] μ1 := by
  unfold f_X10_bothOf_J28 at h
  refine tr_iconst (pc' := 29) (v := (0 : Int32)) (show decode cX10_bothOf 28 = .ok (.iconst 0, 1) by decide +kernel) rfl (by decide) ?_
  exact ok_X10_bothOf_J29 hfr k_X10_bothOf hk_X10_bothOf k_X10_plainOf hk_X10_plainOf k_X10_positiveOf hk_X10_positiveOf k_X10_testOf hk_X10_testOf _ c6 e50 hc6 he50 (0 : Int32) y2 μ1 hL h
def f_X10_bothOf_L6 (k_X10_bothOf : Int32 → hm_M → Option (Int32 × hm_M)) (k_X10_plainOf : Int32 → hm_M → Option (Int32 × hm_M)) (k_X10_positiveOf : Int32 → hm_M → Option (Int32 × hm_M)) (k_X10_testOf : Int32 → hm_M → Option (Int32 × hm_M)) (v1 : Int32) (e50 : Int32 → hm_M → Option (Int32 × hm_M)) : Nat → Int32 → hm_M → Option (Int32 × hm_M)
  | 0, _, _ => none
  | n + 1, y2, μ1 => hm_b2 (f_X10_passes0 (6 : Int32) μ1) fun x4 μ5 =>
  (if x4 = 0 then
  e50 y2 μ5
  else
  (if v1 = 0 then
  f_X10_bothOf_J28 k_X10_bothOf k_X10_plainOf k_X10_positiveOf k_X10_testOf v1 (f_X10_bothOf_L6 k_X10_bothOf k_X10_plainOf k_X10_positiveOf k_X10_testOf v1 e50 n) e50 y2 μ5
  else
  (if y2 = 0 then
  f_X10_bothOf_J28 k_X10_bothOf k_X10_plainOf k_X10_positiveOf k_X10_testOf v1 (f_X10_bothOf_L6 k_X10_bothOf k_X10_plainOf k_X10_positiveOf k_X10_testOf v1 e50 n) e50 y2 μ5
  else
  f_X10_bothOf_J29 k_X10_bothOf k_X10_plainOf k_X10_positiveOf k_X10_testOf v1 (f_X10_bothOf_L6 k_X10_bothOf k_X10_plainOf k_X10_positiveOf k_X10_testOf v1 e50 n) e50 (1 : Int32) y2 μ5)))
theorem ok_X10_bothOf_L6 {fr : Nat} (hfr : 3 ≤ fr) {ν : hm_N} {r : Int32} {μR : hm_M} (k_X10_bothOf : Int32 → hm_M → Option (Int32 × hm_M)) (hk_X10_bothOf : ∀ {r : Int32} {μR : hm_M} (v1 : Int32)  (μ : hm_M), hm_LL ν μ → k_X10_bothOf v1 μ = some (r, μR) → hm_CC (hm_LL ν) m_X10_bothOf (fr - 1) 0 0 [.ref 179, .int v1] μ (some (.int r)) μR) (k_X10_plainOf : Int32 → hm_M → Option (Int32 × hm_M)) (hk_X10_plainOf : ∀ {r : Int32} {μR : hm_M} (v1 : Int32)  (μ : hm_M), hm_LL ν μ → k_X10_plainOf v1 μ = some (r, μR) → hm_CC (hm_LL ν) m_X10_plainOf (fr - 1) 0 0 [.ref 179, .int v1] μ (some (.int r)) μR) (k_X10_positiveOf : Int32 → hm_M → Option (Int32 × hm_M)) (hk_X10_positiveOf : ∀ {r : Int32} {μR : hm_M} (v1 : Int32)  (μ : hm_M), hm_LL ν μ → k_X10_positiveOf v1 μ = some (r, μR) → hm_CC (hm_LL ν) m_X10_positiveOf (fr - 1) 0 0 [.ref 179, .int v1] μ (some (.int r)) μR) (k_X10_testOf : Int32 → hm_M → Option (Int32 × hm_M)) (hk_X10_testOf : ∀ {r : Int32} {μR : hm_M} (v1 : Int32)  (μ : hm_M), hm_LL ν μ → k_X10_testOf v1 μ = some (r, μR) → hm_CC (hm_LL ν) m_X10_testOf (fr - 1) 0 0 [.ref 179, .int v1] μ (some (.int r)) μR) (v1 : Int32) (e50 : Int32 → hm_M → Option (Int32 × hm_M))  (he50 : ∀ (y2 : Int32)  (μ1 : hm_M), hm_LL ν μ1 → e50 y2 μ1 = some (r, μR) → hm_T (hm_LL ν) m_X10_bothOf fr 0 0 (some (.int r)) μR 50 [none, none, some (.int y2), none] [] μ1)  : ∀ (n : Nat) (y2 : Int32)  (μ1 : hm_M), hm_LL ν μ1 → f_X10_bothOf_L6 k_X10_bothOf k_X10_plainOf k_X10_positiveOf k_X10_testOf v1 e50 n y2 μ1 = some (r, μR) → hm_T (hm_LL ν) m_X10_bothOf fr 0 0 (some (.int r)) μR 6 [some (.ref 179), some (.int v1), some (.int y2), none] [] μ1 := by
  intro n
  induction n with
  | zero =>
    intro y2 μ1 hL h
    unfold f_X10_bothOf_L6 at h
    cases h
  | succ n ih =>
    intro y2 μ1 hL h
    unfold f_X10_bothOf_L6 at h
    refine tr_aload_n (pc' := 7) (show decode cX10_bothOf 6 = .ok (.aload_n 0, 1) by decide +kernel) rfl rfl rfl ?_
    refine tr_bipush (pc' := 9) (v := (6 : Int32)) (show decode cX10_bothOf 7 = .ok (.bipush 6, 2) by decide +kernel) rfl (by decide) ?_
    obtain ⟨x4, μ5, ex4, h⟩ := hm_b2s h
    have cx4 := ok_X10_passes0 (fr := fr - 1) (ν := ν) (by omega) (6 : Int32) μ1 hL ex4
    refine tp_callV (pc' := 12) (As := [.int (6 : Int32)]) (fr1 := fr - 1) (ci := 10) okm_X10_passes0 lk_HandRingModel_298 (show decode cX10_bothOf 9 = .ok (.invokevirtual 298, 3) by decide +kernel) rfl rfl rfl (by decide) (la_o hL (by decide) rfl) rfl rfl (Nat.le_of_ble_eq_true rfl) (by omega) cx4 (st' := [.int x4]) rfl ?_
    replace hL := cx4.1
    rcases hm_is h with ⟨hc, h⟩ | ⟨hc, h⟩
    · refine tr_if_eq_t (tgt := 50) hc (show decode cX10_bothOf 12 = .ok (.ifCond .eq 38, 3) by decide +kernel) (by decide) ?_
      refine hm_fgt [false, false, true, false] (lv' := [none, none, some (.int y2), none]) rfl ?_
      exact he50 y2 μ5 hL h
    · refine tr_if_eq_f (tgt := 50) (pc' := 15) hc (show decode cX10_bothOf 12 = .ok (.ifCond .eq 38, 3) by decide +kernel) (by decide) rfl ?_
      refine tr_aload_n (pc' := 16) (show decode cX10_bothOf 15 = .ok (.aload_n 0, 1) by decide +kernel) rfl rfl rfl ?_
      refine tr_iload_n (pc' := 17) (show decode cX10_bothOf 16 = .ok (.iload_n 1, 1) by decide +kernel) rfl rfl rfl ?_
      rcases hm_is h with ⟨hc, h⟩ | ⟨hc, h⟩
      · refine tr_if_eq_t (tgt := 28) hc (show decode cX10_bothOf 17 = .ok (.ifCond .eq 11, 3) by decide +kernel) (by decide) ?_
        exact ok_X10_bothOf_J28 hfr k_X10_bothOf hk_X10_bothOf k_X10_plainOf hk_X10_plainOf k_X10_positiveOf hk_X10_positiveOf k_X10_testOf hk_X10_testOf _ (f_X10_bothOf_L6 k_X10_bothOf k_X10_plainOf k_X10_positiveOf k_X10_testOf v1 e50 n) e50 ih he50 y2 μ5 hL h
      · refine tr_if_eq_f (tgt := 28) (pc' := 20) hc (show decode cX10_bothOf 17 = .ok (.ifCond .eq 11, 3) by decide +kernel) (by decide) rfl ?_
        refine tr_iload_n (pc' := 21) (show decode cX10_bothOf 20 = .ok (.iload_n 2, 1) by decide +kernel) rfl rfl rfl ?_
        rcases hm_is h with ⟨hc, h⟩ | ⟨hc, h⟩
        · refine tr_if_eq_t (tgt := 28) hc (show decode cX10_bothOf 21 = .ok (.ifCond .eq 7, 3) by decide +kernel) (by decide) ?_
          exact ok_X10_bothOf_J28 hfr k_X10_bothOf hk_X10_bothOf k_X10_plainOf hk_X10_plainOf k_X10_positiveOf hk_X10_positiveOf k_X10_testOf hk_X10_testOf _ (f_X10_bothOf_L6 k_X10_bothOf k_X10_plainOf k_X10_positiveOf k_X10_testOf v1 e50 n) e50 ih he50 y2 μ5 hL h
        · refine tr_if_eq_f (tgt := 28) (pc' := 24) hc (show decode cX10_bothOf 21 = .ok (.ifCond .eq 7, 3) by decide +kernel) (by decide) rfl ?_
          refine tr_iconst (pc' := 25) (v := (1 : Int32)) (show decode cX10_bothOf 24 = .ok (.iconst 1, 1) by decide +kernel) rfl (by decide) ?_
          refine tr_goto (tgt := 29) (show decode cX10_bothOf 25 = .ok (.goto 4, 3) by decide +kernel) rfl ?_
          exact ok_X10_bothOf_J29 hfr k_X10_bothOf hk_X10_bothOf k_X10_plainOf hk_X10_plainOf k_X10_positiveOf hk_X10_positiveOf k_X10_testOf hk_X10_testOf _ (f_X10_bothOf_L6 k_X10_bothOf k_X10_plainOf k_X10_positiveOf k_X10_testOf v1 e50 n) e50 ih he50 (1 : Int32) y2 μ5 hL h
def f_X10_bothOf (k_X10_bothOf : Int32 → hm_M → Option (Int32 × hm_M)) (k_X10_plainOf : Int32 → hm_M → Option (Int32 × hm_M)) (k_X10_positiveOf : Int32 → hm_M → Option (Int32 × hm_M)) (k_X10_testOf : Int32 → hm_M → Option (Int32 × hm_M)) (v1 : Int32) (μ : hm_M) : Option (Int32 × hm_M) :=
  hm_b2 (k_X10_plainOf v1 μ) fun x2 μ3 =>
  f_X10_bothOf_L6 k_X10_bothOf k_X10_plainOf k_X10_positiveOf k_X10_testOf v1 (fun z8_2 μz8 => Option.bind (hm_rz z8_2) fun x9 => some (x9, μz8)) hm_fu x2 μ3
set_option maxRecDepth 100000 in
theorem ok_X10_bothOf {fr : Nat} (hfr : 3 ≤ fr) {ν : hm_N} {r : Int32} {μR : hm_M} (k_X10_bothOf : Int32 → hm_M → Option (Int32 × hm_M)) (hk_X10_bothOf : ∀ {r : Int32} {μR : hm_M} (v1 : Int32)  (μ : hm_M), hm_LL ν μ → k_X10_bothOf v1 μ = some (r, μR) → hm_CC (hm_LL ν) m_X10_bothOf (fr - 1) 0 0 [.ref 179, .int v1] μ (some (.int r)) μR) (k_X10_plainOf : Int32 → hm_M → Option (Int32 × hm_M)) (hk_X10_plainOf : ∀ {r : Int32} {μR : hm_M} (v1 : Int32)  (μ : hm_M), hm_LL ν μ → k_X10_plainOf v1 μ = some (r, μR) → hm_CC (hm_LL ν) m_X10_plainOf (fr - 1) 0 0 [.ref 179, .int v1] μ (some (.int r)) μR) (k_X10_positiveOf : Int32 → hm_M → Option (Int32 × hm_M)) (hk_X10_positiveOf : ∀ {r : Int32} {μR : hm_M} (v1 : Int32)  (μ : hm_M), hm_LL ν μ → k_X10_positiveOf v1 μ = some (r, μR) → hm_CC (hm_LL ν) m_X10_positiveOf (fr - 1) 0 0 [.ref 179, .int v1] μ (some (.int r)) μR) (k_X10_testOf : Int32 → hm_M → Option (Int32 × hm_M)) (hk_X10_testOf : ∀ {r : Int32} {μR : hm_M} (v1 : Int32)  (μ : hm_M), hm_LL ν μ → k_X10_testOf v1 μ = some (r, μR) → hm_CC (hm_LL ν) m_X10_testOf (fr - 1) 0 0 [.ref 179, .int v1] μ (some (.int r)) μR) (v1 : Int32)  (μ : hm_M) (hL : hm_LL ν μ) (h : f_X10_bothOf k_X10_bothOf k_X10_plainOf k_X10_positiveOf k_X10_testOf v1 μ = some (r, μR)) : hm_CC (hm_LL ν) m_X10_bothOf fr 0 0 [.ref 179, .int v1] μ (some (.int r)) μR := by
  refine hm_enter (lv := [some (.ref 179), some (.int v1), none, none]) (by decide) rfl (Nat.le_of_ble_eq_true rfl) ?_
  unfold f_X10_bothOf at h
  refine tr_aload_n (pc' := 1) (show decode cX10_bothOf 0 = .ok (.aload_n 0, 1) by decide +kernel) rfl rfl rfl ?_
  refine tr_iload_n (pc' := 2) (show decode cX10_bothOf 1 = .ok (.iload_n 1, 1) by decide +kernel) rfl rfl rfl ?_
  obtain ⟨x2, μ3, ex2, h⟩ := hm_b2s h
  have cx2 := hk_X10_plainOf v1 μ hL ex2
  refine tp_callV (pc' := 5) (As := [.int v1]) (fr1 := fr - 1) (ci := 10) okm_X10_plainOf lk_HandRingModel_328 (show decode cX10_bothOf 2 = .ok (.invokevirtual 328, 3) by decide +kernel) rfl rfl rfl (by decide) (la_o hL (by decide) rfl) rfl rfl (Nat.le_of_ble_eq_true rfl) (by omega) cx2 (st' := [.int x2]) rfl ?_
  replace hL := cx2.1
  refine tr_istore_n (pc' := 6) (lv' := [some (.ref 179), some (.int v1), some (.int x2), none]) (show decode cX10_bothOf 5 = .ok (.istore_n 2, 1) by decide +kernel) rfl rfl (Nat.le_of_ble_eq_true rfl) rfl rfl ?_
  refine ok_X10_bothOf_L6 hfr k_X10_bothOf hk_X10_bothOf k_X10_plainOf hk_X10_plainOf k_X10_positiveOf hk_X10_positiveOf k_X10_testOf hk_X10_testOf _ _ ?_ _ x2 μ3 hL h
  · intro z8_2 μz8 hL h
    refine tr_iload_n (pc' := 51) (show decode cX10_bothOf 50 = .ok (.iload_n 2, 1) by decide +kernel) rfl rfl rfl ?_
    obtain ⟨x9, ex9, h⟩ := hm_bs h
    cases h
    exact tp_zret rfl (show decode cX10_bothOf 51 = .ok (.ireturn, 1) by decide +kernel) ex9 hL
def f_X10_plainOf_J20 (k_X10_bothOf : Int32 → hm_M → Option (Int32 × hm_M)) (k_X10_plainOf : Int32 → hm_M → Option (Int32 × hm_M)) (k_X10_positiveOf : Int32 → hm_M → Option (Int32 × hm_M)) (k_X10_testOf : Int32 → hm_M → Option (Int32 × hm_M)) (v1 : Int32) (c2 : Int32 → hm_M → Option (Int32 × hm_M)) (e24 : Int32 → hm_M → Option (Int32 × hm_M)) (s0 : Int32) (μ1 : hm_M) : Option (Int32 × hm_M) :=
  c2 s0 μ1
theorem ok_X10_plainOf_J20 {fr : Nat} (hfr : 3 ≤ fr) {ν : hm_N} {r : Int32} {μR : hm_M} (k_X10_bothOf : Int32 → hm_M → Option (Int32 × hm_M)) (hk_X10_bothOf : ∀ {r : Int32} {μR : hm_M} (v1 : Int32)  (μ : hm_M), hm_LL ν μ → k_X10_bothOf v1 μ = some (r, μR) → hm_CC (hm_LL ν) m_X10_bothOf (fr - 1) 0 0 [.ref 179, .int v1] μ (some (.int r)) μR) (k_X10_plainOf : Int32 → hm_M → Option (Int32 × hm_M)) (hk_X10_plainOf : ∀ {r : Int32} {μR : hm_M} (v1 : Int32)  (μ : hm_M), hm_LL ν μ → k_X10_plainOf v1 μ = some (r, μR) → hm_CC (hm_LL ν) m_X10_plainOf (fr - 1) 0 0 [.ref 179, .int v1] μ (some (.int r)) μR) (k_X10_positiveOf : Int32 → hm_M → Option (Int32 × hm_M)) (hk_X10_positiveOf : ∀ {r : Int32} {μR : hm_M} (v1 : Int32)  (μ : hm_M), hm_LL ν μ → k_X10_positiveOf v1 μ = some (r, μR) → hm_CC (hm_LL ν) m_X10_positiveOf (fr - 1) 0 0 [.ref 179, .int v1] μ (some (.int r)) μR) (k_X10_testOf : Int32 → hm_M → Option (Int32 × hm_M)) (hk_X10_testOf : ∀ {r : Int32} {μR : hm_M} (v1 : Int32)  (μ : hm_M), hm_LL ν μ → k_X10_testOf v1 μ = some (r, μR) → hm_CC (hm_LL ν) m_X10_testOf (fr - 1) 0 0 [.ref 179, .int v1] μ (some (.int r)) μR) (v1 : Int32) (c2 : Int32 → hm_M → Option (Int32 × hm_M)) (e24 : Int32 → hm_M → Option (Int32 × hm_M)) (hc2 : ∀ (y2 : Int32)  (μ1 : hm_M), hm_LL ν μ1 → c2 y2 μ1 = some (r, μR) → hm_T (hm_LL ν) m_X10_plainOf fr 0 0 (some (.int r)) μR 2 [some (.ref 179), some (.int v1), some (.int y2)] [] μ1) (he24 : ∀ (y2 : Int32)  (μ1 : hm_M), hm_LL ν μ1 → e24 y2 μ1 = some (r, μR) → hm_T (hm_LL ν) m_X10_plainOf fr 0 0 (some (.int r)) μR 24 [some (.ref 179), some (.int v1), some (.int y2)] [] μ1)  (s0 : Int32) (μ1 : hm_M) (hL : hm_LL ν μ1) (h : f_X10_plainOf_J20 k_X10_bothOf k_X10_plainOf k_X10_positiveOf k_X10_testOf v1 c2 e24 s0 μ1 = some (r, μR)) : hm_T (hm_LL ν) m_X10_plainOf fr 0 0 (some (.int r)) μR 20 [some (.ref 179), some (.int v1), none] [.int s0] μ1 := by
  unfold f_X10_plainOf_J20 at h
  refine tr_istore_n (pc' := 21) (lv' := [some (.ref 179), some (.int v1), some (.int s0)]) (show decode cX10_plainOf 20 = .ok (.istore_n 2, 1) by decide +kernel) rfl rfl (Nat.le_of_ble_eq_true rfl) rfl rfl ?_
  refine tr_goto (tgt := 2) (show decode cX10_plainOf 21 = .ok (.goto (-19), 3) by decide +kernel) rfl ?_
  exact hc2 s0 μ1 hL h
def f_X10_plainOf_L2 (k_X10_bothOf : Int32 → hm_M → Option (Int32 × hm_M)) (k_X10_plainOf : Int32 → hm_M → Option (Int32 × hm_M)) (k_X10_positiveOf : Int32 → hm_M → Option (Int32 × hm_M)) (k_X10_testOf : Int32 → hm_M → Option (Int32 × hm_M)) (v1 : Int32) (e24 : Int32 → hm_M → Option (Int32 × hm_M)) : Nat → Int32 → hm_M → Option (Int32 × hm_M)
  | 0, _, _ => none
  | n + 1, y2, μ1 => hm_b2 (f_X10_passes0 (7 : Int32) μ1) fun x2 μ3 =>
  (if x2 = 0 then
  e24 y2 μ3
  else
  (if y2 = 0 then
  f_X10_plainOf_J20 k_X10_bothOf k_X10_plainOf k_X10_positiveOf k_X10_testOf v1 (f_X10_plainOf_L2 k_X10_bothOf k_X10_plainOf k_X10_positiveOf k_X10_testOf v1 e24 n) e24 (1 : Int32) μ3
  else
  f_X10_plainOf_J20 k_X10_bothOf k_X10_plainOf k_X10_positiveOf k_X10_testOf v1 (f_X10_plainOf_L2 k_X10_bothOf k_X10_plainOf k_X10_positiveOf k_X10_testOf v1 e24 n) e24 (0 : Int32) μ3))
theorem ok_X10_plainOf_L2 {fr : Nat} (hfr : 3 ≤ fr) {ν : hm_N} {r : Int32} {μR : hm_M} (k_X10_bothOf : Int32 → hm_M → Option (Int32 × hm_M)) (hk_X10_bothOf : ∀ {r : Int32} {μR : hm_M} (v1 : Int32)  (μ : hm_M), hm_LL ν μ → k_X10_bothOf v1 μ = some (r, μR) → hm_CC (hm_LL ν) m_X10_bothOf (fr - 1) 0 0 [.ref 179, .int v1] μ (some (.int r)) μR) (k_X10_plainOf : Int32 → hm_M → Option (Int32 × hm_M)) (hk_X10_plainOf : ∀ {r : Int32} {μR : hm_M} (v1 : Int32)  (μ : hm_M), hm_LL ν μ → k_X10_plainOf v1 μ = some (r, μR) → hm_CC (hm_LL ν) m_X10_plainOf (fr - 1) 0 0 [.ref 179, .int v1] μ (some (.int r)) μR) (k_X10_positiveOf : Int32 → hm_M → Option (Int32 × hm_M)) (hk_X10_positiveOf : ∀ {r : Int32} {μR : hm_M} (v1 : Int32)  (μ : hm_M), hm_LL ν μ → k_X10_positiveOf v1 μ = some (r, μR) → hm_CC (hm_LL ν) m_X10_positiveOf (fr - 1) 0 0 [.ref 179, .int v1] μ (some (.int r)) μR) (k_X10_testOf : Int32 → hm_M → Option (Int32 × hm_M)) (hk_X10_testOf : ∀ {r : Int32} {μR : hm_M} (v1 : Int32)  (μ : hm_M), hm_LL ν μ → k_X10_testOf v1 μ = some (r, μR) → hm_CC (hm_LL ν) m_X10_testOf (fr - 1) 0 0 [.ref 179, .int v1] μ (some (.int r)) μR) (v1 : Int32) (e24 : Int32 → hm_M → Option (Int32 × hm_M))  (he24 : ∀ (y2 : Int32)  (μ1 : hm_M), hm_LL ν μ1 → e24 y2 μ1 = some (r, μR) → hm_T (hm_LL ν) m_X10_plainOf fr 0 0 (some (.int r)) μR 24 [some (.ref 179), some (.int v1), some (.int y2)] [] μ1)  : ∀ (n : Nat) (y2 : Int32)  (μ1 : hm_M), hm_LL ν μ1 → f_X10_plainOf_L2 k_X10_bothOf k_X10_plainOf k_X10_positiveOf k_X10_testOf v1 e24 n y2 μ1 = some (r, μR) → hm_T (hm_LL ν) m_X10_plainOf fr 0 0 (some (.int r)) μR 2 [some (.ref 179), some (.int v1), some (.int y2)] [] μ1 := by
  intro n
  induction n with
  | zero =>
    intro y2 μ1 hL h
    unfold f_X10_plainOf_L2 at h
    cases h
  | succ n ih =>
    intro y2 μ1 hL h
    unfold f_X10_plainOf_L2 at h
    refine tr_aload_n (pc' := 3) (show decode cX10_plainOf 2 = .ok (.aload_n 0, 1) by decide +kernel) rfl rfl rfl ?_
    refine tr_bipush (pc' := 5) (v := (7 : Int32)) (show decode cX10_plainOf 3 = .ok (.bipush 7, 2) by decide +kernel) rfl (by decide) ?_
    obtain ⟨x2, μ3, ex2, h⟩ := hm_b2s h
    have cx2 := ok_X10_passes0 (fr := fr - 1) (ν := ν) (by omega) (7 : Int32) μ1 hL ex2
    refine tp_callV (pc' := 8) (As := [.int (7 : Int32)]) (fr1 := fr - 1) (ci := 10) okm_X10_passes0 lk_HandRingModel_298 (show decode cX10_plainOf 5 = .ok (.invokevirtual 298, 3) by decide +kernel) rfl rfl rfl (by decide) (la_o hL (by decide) rfl) rfl rfl (Nat.le_of_ble_eq_true rfl) (by omega) cx2 (st' := [.int x2]) rfl ?_
    replace hL := cx2.1
    rcases hm_is h with ⟨hc, h⟩ | ⟨hc, h⟩
    · refine tr_if_eq_t (tgt := 24) hc (show decode cX10_plainOf 8 = .ok (.ifCond .eq 16, 3) by decide +kernel) (by decide) ?_
      exact he24 y2 μ3 hL h
    · refine tr_if_eq_f (tgt := 24) (pc' := 11) hc (show decode cX10_plainOf 8 = .ok (.ifCond .eq 16, 3) by decide +kernel) (by decide) rfl ?_
      refine tr_iload_n (pc' := 12) (show decode cX10_plainOf 11 = .ok (.iload_n 2, 1) by decide +kernel) rfl rfl rfl ?_
      rcases hm_is h with ⟨hc, h⟩ | ⟨hc, h⟩
      · refine tr_if_ne_f (tgt := 19) (pc' := 15) hc (show decode cX10_plainOf 12 = .ok (.ifCond .ne 7, 3) by decide +kernel) (by decide) rfl ?_
        refine tr_iconst (pc' := 16) (v := (1 : Int32)) (show decode cX10_plainOf 15 = .ok (.iconst 1, 1) by decide +kernel) rfl (by decide) ?_
        refine tr_goto (tgt := 20) (show decode cX10_plainOf 16 = .ok (.goto 4, 3) by decide +kernel) rfl ?_
        refine hm_fgt [true, true, false] (lv' := [some (.ref 179), some (.int v1), none]) rfl ?_
        exact ok_X10_plainOf_J20 hfr k_X10_bothOf hk_X10_bothOf k_X10_plainOf hk_X10_plainOf k_X10_positiveOf hk_X10_positiveOf k_X10_testOf hk_X10_testOf _ (f_X10_plainOf_L2 k_X10_bothOf k_X10_plainOf k_X10_positiveOf k_X10_testOf v1 e24 n) e24 ih he24 (1 : Int32) μ3 hL h
      · refine tr_if_ne_t (tgt := 19) hc (show decode cX10_plainOf 12 = .ok (.ifCond .ne 7, 3) by decide +kernel) (by decide) ?_
        refine tr_iconst (pc' := 20) (v := (0 : Int32)) (show decode cX10_plainOf 19 = .ok (.iconst 0, 1) by decide +kernel) rfl (by decide) ?_
        refine hm_fgt [true, true, false] (lv' := [some (.ref 179), some (.int v1), none]) rfl ?_
        exact ok_X10_plainOf_J20 hfr k_X10_bothOf hk_X10_bothOf k_X10_plainOf hk_X10_plainOf k_X10_positiveOf hk_X10_positiveOf k_X10_testOf hk_X10_testOf _ (f_X10_plainOf_L2 k_X10_bothOf k_X10_plainOf k_X10_positiveOf k_X10_testOf v1 e24 n) e24 ih he24 (0 : Int32) μ3 hL h
def f_X10_plainOf (k_X10_bothOf : Int32 → hm_M → Option (Int32 × hm_M)) (k_X10_plainOf : Int32 → hm_M → Option (Int32 × hm_M)) (k_X10_positiveOf : Int32 → hm_M → Option (Int32 × hm_M)) (k_X10_testOf : Int32 → hm_M → Option (Int32 × hm_M)) (v1 : Int32) (μ : hm_M) : Option (Int32 × hm_M) :=
  f_X10_plainOf_L2 k_X10_bothOf k_X10_plainOf k_X10_positiveOf k_X10_testOf v1 (fun z4_2 μz4 => hm_b2 (k_X10_positiveOf v1 μz4) fun x5 μ6 =>
  (if x5 = z4_2 then
  some ((0 : Int32), μ6)
  else
  some ((1 : Int32), μ6))) hm_fu (0 : Int32) μ
set_option maxRecDepth 100000 in
theorem ok_X10_plainOf {fr : Nat} (hfr : 3 ≤ fr) {ν : hm_N} {r : Int32} {μR : hm_M} (k_X10_bothOf : Int32 → hm_M → Option (Int32 × hm_M)) (hk_X10_bothOf : ∀ {r : Int32} {μR : hm_M} (v1 : Int32)  (μ : hm_M), hm_LL ν μ → k_X10_bothOf v1 μ = some (r, μR) → hm_CC (hm_LL ν) m_X10_bothOf (fr - 1) 0 0 [.ref 179, .int v1] μ (some (.int r)) μR) (k_X10_plainOf : Int32 → hm_M → Option (Int32 × hm_M)) (hk_X10_plainOf : ∀ {r : Int32} {μR : hm_M} (v1 : Int32)  (μ : hm_M), hm_LL ν μ → k_X10_plainOf v1 μ = some (r, μR) → hm_CC (hm_LL ν) m_X10_plainOf (fr - 1) 0 0 [.ref 179, .int v1] μ (some (.int r)) μR) (k_X10_positiveOf : Int32 → hm_M → Option (Int32 × hm_M)) (hk_X10_positiveOf : ∀ {r : Int32} {μR : hm_M} (v1 : Int32)  (μ : hm_M), hm_LL ν μ → k_X10_positiveOf v1 μ = some (r, μR) → hm_CC (hm_LL ν) m_X10_positiveOf (fr - 1) 0 0 [.ref 179, .int v1] μ (some (.int r)) μR) (k_X10_testOf : Int32 → hm_M → Option (Int32 × hm_M)) (hk_X10_testOf : ∀ {r : Int32} {μR : hm_M} (v1 : Int32)  (μ : hm_M), hm_LL ν μ → k_X10_testOf v1 μ = some (r, μR) → hm_CC (hm_LL ν) m_X10_testOf (fr - 1) 0 0 [.ref 179, .int v1] μ (some (.int r)) μR) (v1 : Int32)  (μ : hm_M) (hL : hm_LL ν μ) (h : f_X10_plainOf k_X10_bothOf k_X10_plainOf k_X10_positiveOf k_X10_testOf v1 μ = some (r, μR)) : hm_CC (hm_LL ν) m_X10_plainOf fr 0 0 [.ref 179, .int v1] μ (some (.int r)) μR := by
  refine hm_enter (lv := [some (.ref 179), some (.int v1), none]) (by decide) rfl (Nat.le_of_ble_eq_true rfl) ?_
  unfold f_X10_plainOf at h
  refine tr_iconst (pc' := 1) (v := (0 : Int32)) (show decode cX10_plainOf 0 = .ok (.iconst 0, 1) by decide +kernel) rfl (by decide) ?_
  refine tr_istore_n (pc' := 2) (lv' := [some (.ref 179), some (.int v1), some (.int (0 : Int32))]) (show decode cX10_plainOf 1 = .ok (.istore_n 2, 1) by decide +kernel) rfl rfl (Nat.le_of_ble_eq_true rfl) rfl rfl ?_
  refine ok_X10_plainOf_L2 hfr k_X10_bothOf hk_X10_bothOf k_X10_plainOf hk_X10_plainOf k_X10_positiveOf hk_X10_positiveOf k_X10_testOf hk_X10_testOf _ _ ?_ _ (0 : Int32) μ hL h
  · intro z4_2 μz4 hL h
    refine tr_aload_n (pc' := 25) (show decode cX10_plainOf 24 = .ok (.aload_n 0, 1) by decide +kernel) rfl rfl rfl ?_
    refine tr_iload_n (pc' := 26) (show decode cX10_plainOf 25 = .ok (.iload_n 1, 1) by decide +kernel) rfl rfl rfl ?_
    obtain ⟨x5, μ6, ex5, h⟩ := hm_b2s h
    have cx5 := hk_X10_positiveOf v1 μz4 hL ex5
    refine tp_callV (pc' := 29) (As := [.int v1]) (fr1 := fr - 1) (ci := 10) okm_X10_positiveOf lk_HandRingModel_331 (show decode cX10_plainOf 26 = .ok (.invokevirtual 331, 3) by decide +kernel) rfl rfl rfl (by decide) (la_o hL (by decide) rfl) rfl rfl (Nat.le_of_ble_eq_true rfl) (by omega) cx5 (st' := [.int x5]) rfl ?_
    replace hL := cx5.1
    refine tr_iload_n (pc' := 30) (show decode cX10_plainOf 29 = .ok (.iload_n 2, 1) by decide +kernel) rfl rfl rfl ?_
    rcases hm_is h with ⟨hc, h⟩ | ⟨hc, h⟩
    · refine tr_icmp_eq_t (tgt := 37) hc (show decode cX10_plainOf 30 = .ok (.if_icmp .eq 7, 3) by decide +kernel) (by decide) ?_
      refine tr_iconst (pc' := 38) (v := (0 : Int32)) (show decode cX10_plainOf 37 = .ok (.iconst 0, 1) by decide +kernel) rfl (by decide) ?_
      cases h
      exact tr_zret rfl (by decide) (show decode cX10_plainOf 38 = .ok (.ireturn, 1) by decide +kernel) hL
    · refine tr_icmp_eq_f (tgt := 37) (pc' := 33) hc (show decode cX10_plainOf 30 = .ok (.if_icmp .eq 7, 3) by decide +kernel) (by decide) rfl ?_
      refine tr_iconst (pc' := 34) (v := (1 : Int32)) (show decode cX10_plainOf 33 = .ok (.iconst 1, 1) by decide +kernel) rfl (by decide) ?_
      refine tr_goto (tgt := 38) (show decode cX10_plainOf 34 = .ok (.goto 4, 3) by decide +kernel) rfl ?_
      cases h
      exact tr_zret rfl (by decide) (show decode cX10_plainOf 38 = .ok (.ireturn, 1) by decide +kernel) hL
def f_X10_positiveOf (k_X10_bothOf : Int32 → hm_M → Option (Int32 × hm_M)) (k_X10_plainOf : Int32 → hm_M → Option (Int32 × hm_M)) (k_X10_positiveOf : Int32 → hm_M → Option (Int32 × hm_M)) (k_X10_testOf : Int32 → hm_M → Option (Int32 × hm_M)) (v1 : Int32) (μ : hm_M) : Option (Int32 × hm_M) :=
  Option.bind (f_X10_sign (40 : Int32)) fun x2 =>
  hm_b2 (f_X10_passes0 x2 μ) fun x3 μ4 =>
  (if x3 = 0 then
  hm_b2 (F_X10_sumOf v1 μ4) fun x5 μ6 =>
  Option.bind (f_X10_codeAt (μ6.1 179 22) μ6) fun x7 =>
  Option.bind (hm_pI μ6 179 22 ((μ6.1 179 22) + (1 : Int32))) fun μ8 =>
  hm_b2 (F_X10_sumOf v1 μ8) fun x9 μ10 =>
  (if v1 = 0 then
  some ((0 : Int32), μ10)
  else
  (if (μ10.1 179 24) = 0 then
  Option.bind (f_X10_sign (60 : Int32)) fun x11 =>
  (if x7 = x11 then
  (if 0 ≤ (lg_cmp x5 x9) then
  some ((0 : Int32), μ10)
  else
  some ((1 : Int32), μ10))
  else
  Option.bind (f_X10_sign (62 : Int32)) fun x12 =>
  (if x7 = x12 then
  (if (lg_cmp x5 x9) ≤ 0 then
  some ((0 : Int32), μ10)
  else
  some ((1 : Int32), μ10))
  else
  (if (lg_cmp x5 x9) = 0 then
  some ((1 : Int32), μ10)
  else
  some ((0 : Int32), μ10))))
  else
  some ((0 : Int32), μ10)))
  else
  hm_b2 (k_X10_testOf v1 μ4) fun x13 μ14 =>
  Option.bind (hm_pI μ14 179 22 ((μ14.1 179 22) + (1 : Int32))) fun μ15 =>
  Option.bind (hm_rz x13) fun x16 => some (x16, μ15))
set_option maxRecDepth 100000 in
theorem ok_X10_positiveOf {fr : Nat} (hfr : 46 ≤ fr) {ν : hm_N} {r : Int32} {μR : hm_M} (k_X10_bothOf : Int32 → hm_M → Option (Int32 × hm_M)) (hk_X10_bothOf : ∀ {r : Int32} {μR : hm_M} (v1 : Int32)  (μ : hm_M), hm_LL ν μ → k_X10_bothOf v1 μ = some (r, μR) → hm_CC (hm_LL ν) m_X10_bothOf (fr - 1) 0 0 [.ref 179, .int v1] μ (some (.int r)) μR) (k_X10_plainOf : Int32 → hm_M → Option (Int32 × hm_M)) (hk_X10_plainOf : ∀ {r : Int32} {μR : hm_M} (v1 : Int32)  (μ : hm_M), hm_LL ν μ → k_X10_plainOf v1 μ = some (r, μR) → hm_CC (hm_LL ν) m_X10_plainOf (fr - 1) 0 0 [.ref 179, .int v1] μ (some (.int r)) μR) (k_X10_positiveOf : Int32 → hm_M → Option (Int32 × hm_M)) (hk_X10_positiveOf : ∀ {r : Int32} {μR : hm_M} (v1 : Int32)  (μ : hm_M), hm_LL ν μ → k_X10_positiveOf v1 μ = some (r, μR) → hm_CC (hm_LL ν) m_X10_positiveOf (fr - 1) 0 0 [.ref 179, .int v1] μ (some (.int r)) μR) (k_X10_testOf : Int32 → hm_M → Option (Int32 × hm_M)) (hk_X10_testOf : ∀ {r : Int32} {μR : hm_M} (v1 : Int32)  (μ : hm_M), hm_LL ν μ → k_X10_testOf v1 μ = some (r, μR) → hm_CC (hm_LL ν) m_X10_testOf (fr - 1) 0 0 [.ref 179, .int v1] μ (some (.int r)) μR) (v1 : Int32)  (μ : hm_M) (hL : hm_LL ν μ) (h : f_X10_positiveOf k_X10_bothOf k_X10_plainOf k_X10_positiveOf k_X10_testOf v1 μ = some (r, μR)) : hm_CC (hm_LL ν) m_X10_positiveOf fr 0 0 [.ref 179, .int v1] μ (some (.int r)) μR := by
  refine hm_enter (lv := [some (.ref 179), some (.int v1), none, none, none, none, none]) (by decide) rfl (Nat.le_of_ble_eq_true rfl) ?_
  unfold f_X10_positiveOf at h
  refine tr_aload_n (pc' := 1) (show decode cX10_positiveOf 0 = .ok (.aload_n 0, 1) by decide +kernel) rfl rfl rfl ?_
  refine tr_bipush (pc' := 3) (v := (40 : Int32)) (show decode cX10_positiveOf 1 = .ok (.bipush 40, 2) by decide +kernel) rfl (by decide) ?_
  obtain ⟨x2, ex2, h⟩ := hm_bs h
  have cx2 := ok_X10_sign (fr := fr - 1) (ν := ν) (by omega) (40 : Int32) μ hL ex2
  refine tp_callS (pc' := 6) (As := [.int (40 : Int32)]) (fr1 := fr - 1) okm_X10_sign lk_HandRingModel_233 (show decode cX10_positiveOf 3 = .ok (.invokestatic 233, 3) by decide +kernel) rfl rfl rfl (Nat.le_of_ble_eq_true rfl) (by omega) cx2 (st' := [.int x2, .ref 179]) rfl ?_
  obtain ⟨x3, μ4, ex3, h⟩ := hm_b2s h
  have cx3 := ok_X10_passes0 (fr := fr - 1) (ν := ν) (by omega) x2 μ hL ex3
  refine tp_callV (pc' := 9) (As := [.int x2]) (fr1 := fr - 1) (ci := 10) okm_X10_passes0 lk_HandRingModel_298 (show decode cX10_positiveOf 6 = .ok (.invokevirtual 298, 3) by decide +kernel) rfl rfl rfl (by decide) (la_o hL (by decide) rfl) rfl rfl (Nat.le_of_ble_eq_true rfl) (by omega) cx3 (st' := [.int x3]) rfl ?_
  replace hL := cx3.1
  rcases hm_is h with ⟨hc, h⟩ | ⟨hc, h⟩
  · refine tr_if_eq_t (tgt := 30) hc (show decode cX10_positiveOf 9 = .ok (.ifCond .eq 21, 3) by decide +kernel) (by decide) ?_
    refine tr_aload_n (pc' := 31) (show decode cX10_positiveOf 30 = .ok (.aload_n 0, 1) by decide +kernel) rfl rfl rfl ?_
    refine tr_iload_n (pc' := 32) (show decode cX10_positiveOf 31 = .ok (.iload_n 1, 1) by decide +kernel) rfl rfl rfl ?_
    obtain ⟨x5, μ6, ex5, h⟩ := hm_b2s h
    have cx5 := OK_X10_sumOf (fr := fr - 1) (ν := ν) (by omega) v1 μ4 hL ex5
    refine tp_callV (pc' := 35) (As := [.int v1]) (fr1 := fr - 1) (ci := 10) okm_X10_sumOf lk_HandRingModel_301 (show decode cX10_positiveOf 32 = .ok (.invokevirtual 301, 3) by decide +kernel) rfl rfl rfl (by decide) (la_o hL (by decide) rfl) rfl rfl (Nat.le_of_ble_eq_true rfl) (by omega) cx5 (st' := [.long x5]) rfl ?_
    replace hL := cx5.1
    refine tr_lstore_n (pc' := 36) (lv' := [some (.ref 179), some (.int v1), some (.long x5), none, none, none, none]) (show decode cX10_positiveOf 35 = .ok (.lstore_n 2, 1) by decide +kernel) rfl rfl (Nat.le_of_ble_eq_true rfl) rfl rfl ?_
    refine tr_aload_n (pc' := 37) (show decode cX10_positiveOf 36 = .ok (.aload_n 0, 1) by decide +kernel) rfl rfl rfl ?_
    refine tr_aload_n (pc' := 38) (show decode cX10_positiveOf 37 = .ok (.aload_n 0, 1) by decide +kernel) rfl rfl rfl ?_
    refine tr_getI (pc' := 41) fl_HandRingModel_274 (show decode cX10_positiveOf 38 = .ok (.getfield 274, 3) by decide +kernel) rfl (la_o hL (by decide) rfl) ?_
    obtain ⟨x7, ex7, h⟩ := hm_bs h
    have cx7 := ok_X10_codeAt (fr := fr - 1) (ν := ν) (by omega) (μ6.1 179 22) μ6 hL ex7
    refine tp_callV (pc' := 44) (As := [.int (μ6.1 179 22)]) (fr1 := fr - 1) (ci := 10) okm_X10_codeAt lk_HandRingModel_277 (show decode cX10_positiveOf 41 = .ok (.invokevirtual 277, 3) by decide +kernel) rfl rfl rfl (by decide) (la_o hL (by decide) rfl) rfl rfl (Nat.le_of_ble_eq_true rfl) (by omega) cx7 (st' := [.int x7]) rfl ?_
    refine tr_istore (pc' := 46) (lv' := [some (.ref 179), some (.int v1), some (.long x5), none, some (.int x7), none, none]) (show decode cX10_positiveOf 44 = .ok (.istore 4, 2) by decide +kernel) rfl (Nat.le_of_ble_eq_true rfl) rfl rfl ?_
    refine tr_aload_n (pc' := 47) (show decode cX10_positiveOf 46 = .ok (.aload_n 0, 1) by decide +kernel) rfl rfl rfl ?_
    refine tr_dup (pc' := 48) (show decode cX10_positiveOf 47 = .ok (.dup, 1) by decide +kernel) rfl rfl ?_
    refine tr_getI (pc' := 51) fl_HandRingModel_274 (show decode cX10_positiveOf 48 = .ok (.getfield 274, 3) by decide +kernel) rfl (la_o hL (by decide) rfl) ?_
    refine tr_iconst (pc' := 52) (v := (1 : Int32)) (show decode cX10_positiveOf 51 = .ok (.iconst 1, 1) by decide +kernel) rfl (by decide) ?_
    refine tr_iadd (pc' := 53) (show decode cX10_positiveOf 52 = .ok (.iadd, 1) by decide +kernel) rfl ?_
    obtain ⟨μ8, eμ8, h⟩ := hm_bs h
    refine tp_pI (pc' := 56) fl_HandRingModel_274 (show decode cX10_positiveOf 53 = .ok (.putfield 274, 3) by decide +kernel) rfl (la_o hL (by decide) rfl) eμ8 ?_
    replace hL := hL.same (hm_pI_s eμ8)
    refine tr_aload_n (pc' := 57) (show decode cX10_positiveOf 56 = .ok (.aload_n 0, 1) by decide +kernel) rfl rfl rfl ?_
    refine tr_iload_n (pc' := 58) (show decode cX10_positiveOf 57 = .ok (.iload_n 1, 1) by decide +kernel) rfl rfl rfl ?_
    obtain ⟨x9, μ10, ex9, h⟩ := hm_b2s h
    have cx9 := OK_X10_sumOf (fr := fr - 1) (ν := ν) (by omega) v1 μ8 hL ex9
    refine tp_callV (pc' := 61) (As := [.int v1]) (fr1 := fr - 1) (ci := 10) okm_X10_sumOf lk_HandRingModel_301 (show decode cX10_positiveOf 58 = .ok (.invokevirtual 301, 3) by decide +kernel) rfl rfl rfl (by decide) (la_o hL (by decide) rfl) rfl rfl (Nat.le_of_ble_eq_true rfl) (by omega) cx9 (st' := [.long x9]) rfl ?_
    replace hL := cx9.1
    refine tr_lstore (pc' := 63) (lv' := [some (.ref 179), some (.int v1), some (.long x5), none, some (.int x7), some (.long x9), none]) (show decode cX10_positiveOf 61 = .ok (.lstore 5, 2) by decide +kernel) rfl (Nat.le_of_ble_eq_true rfl) rfl rfl ?_
    refine tr_iload_n (pc' := 64) (show decode cX10_positiveOf 63 = .ok (.iload_n 1, 1) by decide +kernel) rfl rfl rfl ?_
    rcases hm_is h with ⟨hc, h⟩ | ⟨hc, h⟩
    · refine tr_if_eq_t (tgt := 125) hc (show decode cX10_positiveOf 64 = .ok (.ifCond .eq 61, 3) by decide +kernel) (by decide) ?_
      refine tr_iconst (pc' := 126) (v := (0 : Int32)) (show decode cX10_positiveOf 125 = .ok (.iconst 0, 1) by decide +kernel) rfl (by decide) ?_
      cases h
      exact tr_zret rfl (by decide) (show decode cX10_positiveOf 126 = .ok (.ireturn, 1) by decide +kernel) hL
    · refine tr_if_eq_f (tgt := 125) (pc' := 67) hc (show decode cX10_positiveOf 64 = .ok (.ifCond .eq 61, 3) by decide +kernel) (by decide) rfl ?_
      refine tr_aload_n (pc' := 68) (show decode cX10_positiveOf 67 = .ok (.aload_n 0, 1) by decide +kernel) rfl rfl rfl ?_
      refine tr_getI (pc' := 71) fl_HandRingModel_284 (show decode cX10_positiveOf 68 = .ok (.getfield 284, 3) by decide +kernel) rfl (la_o hL (by decide) rfl) ?_
      rcases hm_is h with ⟨hc, h⟩ | ⟨hc, h⟩
      · refine tr_if_ne_f (tgt := 125) (pc' := 74) hc (show decode cX10_positiveOf 71 = .ok (.ifCond .ne 54, 3) by decide +kernel) (by decide) rfl ?_
        refine tr_iload (pc' := 76) (show decode cX10_positiveOf 74 = .ok (.iload 4, 2) by decide +kernel) rfl rfl ?_
        refine tr_bipush (pc' := 78) (v := (60 : Int32)) (show decode cX10_positiveOf 76 = .ok (.bipush 60, 2) by decide +kernel) rfl (by decide) ?_
        obtain ⟨x11, ex11, h⟩ := hm_bs h
        have cx11 := ok_X10_sign (fr := fr - 1) (ν := ν) (by omega) (60 : Int32) μ10 hL ex11
        refine tp_callS (pc' := 81) (As := [.int (60 : Int32)]) (fr1 := fr - 1) okm_X10_sign lk_HandRingModel_233 (show decode cX10_positiveOf 78 = .ok (.invokestatic 233, 3) by decide +kernel) rfl rfl rfl (Nat.le_of_ble_eq_true rfl) (by omega) cx11 (st' := [.int x11, .int x7]) rfl ?_
        rcases hm_is h with ⟨hc, h⟩ | ⟨hc, h⟩
        · refine tr_icmp_ne_f (tgt := 94) (pc' := 84) hc (show decode cX10_positiveOf 81 = .ok (.if_icmp .ne 13, 3) by decide +kernel) (by decide) rfl ?_
          refine tr_lload_n (pc' := 85) (show decode cX10_positiveOf 84 = .ok (.lload_n 2, 1) by decide +kernel) rfl rfl rfl ?_
          refine tr_lload (pc' := 87) (show decode cX10_positiveOf 85 = .ok (.lload 5, 2) by decide +kernel) rfl rfl ?_
          refine tr_lcmp (pc' := 88) (show decode cX10_positiveOf 87 = .ok (.lcmp, 1) by decide +kernel) rfl ?_
          rcases hm_is h with ⟨hc, h⟩ | ⟨hc, h⟩
          · refine tr_if_ge_t (tgt := 125) hc (show decode cX10_positiveOf 88 = .ok (.ifCond .ge 37, 3) by decide +kernel) (by decide) ?_
            refine tr_iconst (pc' := 126) (v := (0 : Int32)) (show decode cX10_positiveOf 125 = .ok (.iconst 0, 1) by decide +kernel) rfl (by decide) ?_
            cases h
            exact tr_zret rfl (by decide) (show decode cX10_positiveOf 126 = .ok (.ireturn, 1) by decide +kernel) hL
          · refine tr_if_ge_f (tgt := 125) (pc' := 91) hc (show decode cX10_positiveOf 88 = .ok (.ifCond .ge 37, 3) by decide +kernel) (by decide) rfl ?_
            refine tr_goto (tgt := 121) (show decode cX10_positiveOf 91 = .ok (.goto 30, 3) by decide +kernel) rfl ?_
            refine tr_iconst (pc' := 122) (v := (1 : Int32)) (show decode cX10_positiveOf 121 = .ok (.iconst 1, 1) by decide +kernel) rfl (by decide) ?_
            refine tr_goto (tgt := 126) (show decode cX10_positiveOf 122 = .ok (.goto 4, 3) by decide +kernel) rfl ?_
            cases h
            exact tr_zret rfl (by decide) (show decode cX10_positiveOf 126 = .ok (.ireturn, 1) by decide +kernel) hL
        · refine tr_icmp_ne_t (tgt := 94) hc (show decode cX10_positiveOf 81 = .ok (.if_icmp .ne 13, 3) by decide +kernel) (by decide) ?_
          refine tr_iload (pc' := 96) (show decode cX10_positiveOf 94 = .ok (.iload 4, 2) by decide +kernel) rfl rfl ?_
          refine tr_bipush (pc' := 98) (v := (62 : Int32)) (show decode cX10_positiveOf 96 = .ok (.bipush 62, 2) by decide +kernel) rfl (by decide) ?_
          obtain ⟨x12, ex12, h⟩ := hm_bs h
          have cx12 := ok_X10_sign (fr := fr - 1) (ν := ν) (by omega) (62 : Int32) μ10 hL ex12
          refine tp_callS (pc' := 101) (As := [.int (62 : Int32)]) (fr1 := fr - 1) okm_X10_sign lk_HandRingModel_233 (show decode cX10_positiveOf 98 = .ok (.invokestatic 233, 3) by decide +kernel) rfl rfl rfl (Nat.le_of_ble_eq_true rfl) (by omega) cx12 (st' := [.int x12, .int x7]) rfl ?_
          rcases hm_is h with ⟨hc, h⟩ | ⟨hc, h⟩
          · refine tr_icmp_ne_f (tgt := 114) (pc' := 104) hc (show decode cX10_positiveOf 101 = .ok (.if_icmp .ne 13, 3) by decide +kernel) (by decide) rfl ?_
            refine tr_lload_n (pc' := 105) (show decode cX10_positiveOf 104 = .ok (.lload_n 2, 1) by decide +kernel) rfl rfl rfl ?_
            refine tr_lload (pc' := 107) (show decode cX10_positiveOf 105 = .ok (.lload 5, 2) by decide +kernel) rfl rfl ?_
            refine tr_lcmp (pc' := 108) (show decode cX10_positiveOf 107 = .ok (.lcmp, 1) by decide +kernel) rfl ?_
            rcases hm_is h with ⟨hc, h⟩ | ⟨hc, h⟩
            · refine tr_if_le_t (tgt := 125) hc (show decode cX10_positiveOf 108 = .ok (.ifCond .le 17, 3) by decide +kernel) (by decide) ?_
              refine tr_iconst (pc' := 126) (v := (0 : Int32)) (show decode cX10_positiveOf 125 = .ok (.iconst 0, 1) by decide +kernel) rfl (by decide) ?_
              cases h
              exact tr_zret rfl (by decide) (show decode cX10_positiveOf 126 = .ok (.ireturn, 1) by decide +kernel) hL
            · refine tr_if_le_f (tgt := 125) (pc' := 111) hc (show decode cX10_positiveOf 108 = .ok (.ifCond .le 17, 3) by decide +kernel) (by decide) rfl ?_
              refine tr_goto (tgt := 121) (show decode cX10_positiveOf 111 = .ok (.goto 10, 3) by decide +kernel) rfl ?_
              refine tr_iconst (pc' := 122) (v := (1 : Int32)) (show decode cX10_positiveOf 121 = .ok (.iconst 1, 1) by decide +kernel) rfl (by decide) ?_
              refine tr_goto (tgt := 126) (show decode cX10_positiveOf 122 = .ok (.goto 4, 3) by decide +kernel) rfl ?_
              cases h
              exact tr_zret rfl (by decide) (show decode cX10_positiveOf 126 = .ok (.ireturn, 1) by decide +kernel) hL
          · refine tr_icmp_ne_t (tgt := 114) hc (show decode cX10_positiveOf 101 = .ok (.if_icmp .ne 13, 3) by decide +kernel) (by decide) ?_
            refine tr_lload_n (pc' := 115) (show decode cX10_positiveOf 114 = .ok (.lload_n 2, 1) by decide +kernel) rfl rfl rfl ?_
            refine tr_lload (pc' := 117) (show decode cX10_positiveOf 115 = .ok (.lload 5, 2) by decide +kernel) rfl rfl ?_
            refine tr_lcmp (pc' := 118) (show decode cX10_positiveOf 117 = .ok (.lcmp, 1) by decide +kernel) rfl ?_
            rcases hm_is h with ⟨hc, h⟩ | ⟨hc, h⟩
            · refine tr_if_ne_f (tgt := 125) (pc' := 121) hc (show decode cX10_positiveOf 118 = .ok (.ifCond .ne 7, 3) by decide +kernel) (by decide) rfl ?_
              refine tr_iconst (pc' := 122) (v := (1 : Int32)) (show decode cX10_positiveOf 121 = .ok (.iconst 1, 1) by decide +kernel) rfl (by decide) ?_
              refine tr_goto (tgt := 126) (show decode cX10_positiveOf 122 = .ok (.goto 4, 3) by decide +kernel) rfl ?_
              cases h
              exact tr_zret rfl (by decide) (show decode cX10_positiveOf 126 = .ok (.ireturn, 1) by decide +kernel) hL
            · refine tr_if_ne_t (tgt := 125) hc (show decode cX10_positiveOf 118 = .ok (.ifCond .ne 7, 3) by decide +kernel) (by decide) ?_
              refine tr_iconst (pc' := 126) (v := (0 : Int32)) (show decode cX10_positiveOf 125 = .ok (.iconst 0, 1) by decide +kernel) rfl (by decide) ?_
              cases h
              exact tr_zret rfl (by decide) (show decode cX10_positiveOf 126 = .ok (.ireturn, 1) by decide +kernel) hL
      · refine tr_if_ne_t (tgt := 125) hc (show decode cX10_positiveOf 71 = .ok (.ifCond .ne 54, 3) by decide +kernel) (by decide) ?_
        refine tr_iconst (pc' := 126) (v := (0 : Int32)) (show decode cX10_positiveOf 125 = .ok (.iconst 0, 1) by decide +kernel) rfl (by decide) ?_
        cases h
        exact tr_zret rfl (by decide) (show decode cX10_positiveOf 126 = .ok (.ireturn, 1) by decide +kernel) hL
  · refine tr_if_eq_f (tgt := 30) (pc' := 12) hc (show decode cX10_positiveOf 9 = .ok (.ifCond .eq 21, 3) by decide +kernel) (by decide) rfl ?_
    refine tr_aload_n (pc' := 13) (show decode cX10_positiveOf 12 = .ok (.aload_n 0, 1) by decide +kernel) rfl rfl rfl ?_
    refine tr_iload_n (pc' := 14) (show decode cX10_positiveOf 13 = .ok (.iload_n 1, 1) by decide +kernel) rfl rfl rfl ?_
    obtain ⟨x13, μ14, ex13, h⟩ := hm_b2s h
    have cx13 := hk_X10_testOf v1 μ4 hL ex13
    refine tp_callV (pc' := 17) (As := [.int v1]) (fr1 := fr - 1) (ci := 10) okm_X10_testOf lk_HandRingModel_334 (show decode cX10_positiveOf 14 = .ok (.invokevirtual 334, 3) by decide +kernel) rfl rfl rfl (by decide) (la_o hL (by decide) rfl) rfl rfl (Nat.le_of_ble_eq_true rfl) (by omega) cx13 (st' := [.int x13]) rfl ?_
    replace hL := cx13.1
    refine tr_istore_n (pc' := 18) (lv' := [some (.ref 179), some (.int v1), some (.int x13), none, none, none, none]) (show decode cX10_positiveOf 17 = .ok (.istore_n 2, 1) by decide +kernel) rfl rfl (Nat.le_of_ble_eq_true rfl) rfl rfl ?_
    refine tr_aload_n (pc' := 19) (show decode cX10_positiveOf 18 = .ok (.aload_n 0, 1) by decide +kernel) rfl rfl rfl ?_
    refine tr_dup (pc' := 20) (show decode cX10_positiveOf 19 = .ok (.dup, 1) by decide +kernel) rfl rfl ?_
    refine tr_getI (pc' := 23) fl_HandRingModel_274 (show decode cX10_positiveOf 20 = .ok (.getfield 274, 3) by decide +kernel) rfl (la_o hL (by decide) rfl) ?_
    refine tr_iconst (pc' := 24) (v := (1 : Int32)) (show decode cX10_positiveOf 23 = .ok (.iconst 1, 1) by decide +kernel) rfl (by decide) ?_
    refine tr_iadd (pc' := 25) (show decode cX10_positiveOf 24 = .ok (.iadd, 1) by decide +kernel) rfl ?_
    obtain ⟨μ15, eμ15, h⟩ := hm_bs h
    refine tp_pI (pc' := 28) fl_HandRingModel_274 (show decode cX10_positiveOf 25 = .ok (.putfield 274, 3) by decide +kernel) rfl (la_o hL (by decide) rfl) eμ15 ?_
    replace hL := hL.same (hm_pI_s eμ15)
    refine tr_iload_n (pc' := 29) (show decode cX10_positiveOf 28 = .ok (.iload_n 2, 1) by decide +kernel) rfl rfl rfl ?_
    obtain ⟨x16, ex16, h⟩ := hm_bs h
    cases h
    exact tp_zret rfl (show decode cX10_positiveOf 29 = .ok (.ireturn, 1) by decide +kernel) ex16 hL
def f_X10_testOf_J45 (k_X10_bothOf : Int32 → hm_M → Option (Int32 × hm_M)) (k_X10_plainOf : Int32 → hm_M → Option (Int32 × hm_M)) (k_X10_positiveOf : Int32 → hm_M → Option (Int32 × hm_M)) (k_X10_testOf : Int32 → hm_M → Option (Int32 × hm_M)) (v1 : Int32) (c6 : Int32 → hm_M → Option (Int32 × hm_M)) (e49 : Int32 → hm_M → Option (Int32 × hm_M)) (s0 : Int32) (μ1 : hm_M) : Option (Int32 × hm_M) :=
  c6 s0 μ1
theorem ok_X10_testOf_J45 {fr : Nat} (hfr : 3 ≤ fr) {ν : hm_N} {r : Int32} {μR : hm_M} (k_X10_bothOf : Int32 → hm_M → Option (Int32 × hm_M)) (hk_X10_bothOf : ∀ {r : Int32} {μR : hm_M} (v1 : Int32)  (μ : hm_M), hm_LL ν μ → k_X10_bothOf v1 μ = some (r, μR) → hm_CC (hm_LL ν) m_X10_bothOf (fr - 1) 0 0 [.ref 179, .int v1] μ (some (.int r)) μR) (k_X10_plainOf : Int32 → hm_M → Option (Int32 × hm_M)) (hk_X10_plainOf : ∀ {r : Int32} {μR : hm_M} (v1 : Int32)  (μ : hm_M), hm_LL ν μ → k_X10_plainOf v1 μ = some (r, μR) → hm_CC (hm_LL ν) m_X10_plainOf (fr - 1) 0 0 [.ref 179, .int v1] μ (some (.int r)) μR) (k_X10_positiveOf : Int32 → hm_M → Option (Int32 × hm_M)) (hk_X10_positiveOf : ∀ {r : Int32} {μR : hm_M} (v1 : Int32)  (μ : hm_M), hm_LL ν μ → k_X10_positiveOf v1 μ = some (r, μR) → hm_CC (hm_LL ν) m_X10_positiveOf (fr - 1) 0 0 [.ref 179, .int v1] μ (some (.int r)) μR) (k_X10_testOf : Int32 → hm_M → Option (Int32 × hm_M)) (hk_X10_testOf : ∀ {r : Int32} {μR : hm_M} (v1 : Int32)  (μ : hm_M), hm_LL ν μ → k_X10_testOf v1 μ = some (r, μR) → hm_CC (hm_LL ν) m_X10_testOf (fr - 1) 0 0 [.ref 179, .int v1] μ (some (.int r)) μR) (v1 : Int32) (c6 : Int32 → hm_M → Option (Int32 × hm_M)) (e49 : Int32 → hm_M → Option (Int32 × hm_M)) (hc6 : ∀ (y2 : Int32)  (μ1 : hm_M), hm_LL ν μ1 → c6 y2 μ1 = some (r, μR) → hm_T (hm_LL ν) m_X10_testOf fr 0 0 (some (.int r)) μR 6 [some (.ref 179), some (.int v1), some (.int y2), none] [] μ1) (he49 : ∀ (y2 : Int32)  (μ1 : hm_M), hm_LL ν μ1 → e49 y2 μ1 = some (r, μR) → hm_T (hm_LL ν) m_X10_testOf fr 0 0 (some (.int r)) μR 49 [none, none, some (.int y2), none] [] μ1)  (s0 : Int32) (μ1 : hm_M) (hL : hm_LL ν μ1) (h : f_X10_testOf_J45 k_X10_bothOf k_X10_plainOf k_X10_positiveOf k_X10_testOf v1 c6 e49 s0 μ1 = some (r, μR)) : hm_T (hm_LL ν) m_X10_testOf fr 0 0 (some (.int r)) μR 45 [some (.ref 179), some (.int v1), none, none] [.int s0] μ1 := by
  unfold f_X10_testOf_J45 at h
  refine tr_istore_n (pc' := 46) (lv' := [some (.ref 179), some (.int v1), some (.int s0), none]) (show decode cX10_testOf 45 = .ok (.istore_n 2, 1) by decide +kernel) rfl rfl (Nat.le_of_ble_eq_true rfl) rfl rfl ?_
  refine tr_goto (tgt := 6) (show decode cX10_testOf 46 = .ok (.goto (-40), 3) by decide +kernel) rfl ?_
  exact hc6 s0 μ1 hL h
def f_X10_testOf_J40 (k_X10_bothOf : Int32 → hm_M → Option (Int32 × hm_M)) (k_X10_plainOf : Int32 → hm_M → Option (Int32 × hm_M)) (k_X10_positiveOf : Int32 → hm_M → Option (Int32 × hm_M)) (k_X10_testOf : Int32 → hm_M → Option (Int32 × hm_M)) (v1 : Int32) (c6 : Int32 → hm_M → Option (Int32 × hm_M)) (e49 : Int32 → hm_M → Option (Int32 × hm_M)) (μ1 : hm_M) : Option (Int32 × hm_M) :=
  f_X10_testOf_J45 k_X10_bothOf k_X10_plainOf k_X10_positiveOf k_X10_testOf v1 c6 e49 (1 : Int32) μ1
theorem ok_X10_testOf_J40 {fr : Nat} (hfr : 3 ≤ fr) {ν : hm_N} {r : Int32} {μR : hm_M} (k_X10_bothOf : Int32 → hm_M → Option (Int32 × hm_M)) (hk_X10_bothOf : ∀ {r : Int32} {μR : hm_M} (v1 : Int32)  (μ : hm_M), hm_LL ν μ → k_X10_bothOf v1 μ = some (r, μR) → hm_CC (hm_LL ν) m_X10_bothOf (fr - 1) 0 0 [.ref 179, .int v1] μ (some (.int r)) μR) (k_X10_plainOf : Int32 → hm_M → Option (Int32 × hm_M)) (hk_X10_plainOf : ∀ {r : Int32} {μR : hm_M} (v1 : Int32)  (μ : hm_M), hm_LL ν μ → k_X10_plainOf v1 μ = some (r, μR) → hm_CC (hm_LL ν) m_X10_plainOf (fr - 1) 0 0 [.ref 179, .int v1] μ (some (.int r)) μR) (k_X10_positiveOf : Int32 → hm_M → Option (Int32 × hm_M)) (hk_X10_positiveOf : ∀ {r : Int32} {μR : hm_M} (v1 : Int32)  (μ : hm_M), hm_LL ν μ → k_X10_positiveOf v1 μ = some (r, μR) → hm_CC (hm_LL ν) m_X10_positiveOf (fr - 1) 0 0 [.ref 179, .int v1] μ (some (.int r)) μR) (k_X10_testOf : Int32 → hm_M → Option (Int32 × hm_M)) (hk_X10_testOf : ∀ {r : Int32} {μR : hm_M} (v1 : Int32)  (μ : hm_M), hm_LL ν μ → k_X10_testOf v1 μ = some (r, μR) → hm_CC (hm_LL ν) m_X10_testOf (fr - 1) 0 0 [.ref 179, .int v1] μ (some (.int r)) μR) (v1 : Int32) (c6 : Int32 → hm_M → Option (Int32 × hm_M)) (e49 : Int32 → hm_M → Option (Int32 × hm_M)) (hc6 : ∀ (y2 : Int32)  (μ1 : hm_M), hm_LL ν μ1 → c6 y2 μ1 = some (r, μR) → hm_T (hm_LL ν) m_X10_testOf fr 0 0 (some (.int r)) μR 6 [some (.ref 179), some (.int v1), some (.int y2), none] [] μ1) (he49 : ∀ (y2 : Int32)  (μ1 : hm_M), hm_LL ν μ1 → e49 y2 μ1 = some (r, μR) → hm_T (hm_LL ν) m_X10_testOf fr 0 0 (some (.int r)) μR 49 [none, none, some (.int y2), none] [] μ1)   (μ1 : hm_M) (hL : hm_LL ν μ1) (h : f_X10_testOf_J40 k_X10_bothOf k_X10_plainOf k_X10_positiveOf k_X10_testOf v1 c6 e49 μ1 = some (r, μR)) : hm_T (hm_LL ν) m_X10_testOf fr 0 0 (some (.int r)) μR 40 [some (.ref 179), some (.int v1), none, none] [] μ1 := by
  unfold f_X10_testOf_J40 at h
  refine tr_iconst (pc' := 41) (v := (1 : Int32)) (show decode cX10_testOf 40 = .ok (.iconst 1, 1) by decide +kernel) rfl (by decide) ?_
  refine tr_goto (tgt := 45) (show decode cX10_testOf 41 = .ok (.goto 4, 3) by decide +kernel) rfl ?_
  exact ok_X10_testOf_J45 hfr k_X10_bothOf hk_X10_bothOf k_X10_plainOf hk_X10_plainOf k_X10_positiveOf hk_X10_positiveOf k_X10_testOf hk_X10_testOf _ c6 e49 hc6 he49 (1 : Int32) μ1 hL h
def f_X10_testOf_J28 (k_X10_bothOf : Int32 → hm_M → Option (Int32 × hm_M)) (k_X10_plainOf : Int32 → hm_M → Option (Int32 × hm_M)) (k_X10_positiveOf : Int32 → hm_M → Option (Int32 × hm_M)) (k_X10_testOf : Int32 → hm_M → Option (Int32 × hm_M)) (v1 : Int32) (c6 : Int32 → hm_M → Option (Int32 × hm_M)) (e49 : Int32 → hm_M → Option (Int32 × hm_M)) (s0 : Int32) (y2 : Int32) (μ1 : hm_M) : Option (Int32 × hm_M) :=
  hm_b2 (k_X10_bothOf s0 μ1) fun x6 μ7 =>
  (if y2 = 0 then
  (if x6 = 0 then
  f_X10_testOf_J45 k_X10_bothOf k_X10_plainOf k_X10_positiveOf k_X10_testOf v1 c6 e49 (0 : Int32) μ7
  else
  f_X10_testOf_J40 k_X10_bothOf k_X10_plainOf k_X10_positiveOf k_X10_testOf v1 c6 e49 μ7)
  else
  f_X10_testOf_J40 k_X10_bothOf k_X10_plainOf k_X10_positiveOf k_X10_testOf v1 c6 e49 μ7)
theorem ok_X10_testOf_J28 {fr : Nat} (hfr : 3 ≤ fr) {ν : hm_N} {r : Int32} {μR : hm_M} (k_X10_bothOf : Int32 → hm_M → Option (Int32 × hm_M)) (hk_X10_bothOf : ∀ {r : Int32} {μR : hm_M} (v1 : Int32)  (μ : hm_M), hm_LL ν μ → k_X10_bothOf v1 μ = some (r, μR) → hm_CC (hm_LL ν) m_X10_bothOf (fr - 1) 0 0 [.ref 179, .int v1] μ (some (.int r)) μR) (k_X10_plainOf : Int32 → hm_M → Option (Int32 × hm_M)) (hk_X10_plainOf : ∀ {r : Int32} {μR : hm_M} (v1 : Int32)  (μ : hm_M), hm_LL ν μ → k_X10_plainOf v1 μ = some (r, μR) → hm_CC (hm_LL ν) m_X10_plainOf (fr - 1) 0 0 [.ref 179, .int v1] μ (some (.int r)) μR) (k_X10_positiveOf : Int32 → hm_M → Option (Int32 × hm_M)) (hk_X10_positiveOf : ∀ {r : Int32} {μR : hm_M} (v1 : Int32)  (μ : hm_M), hm_LL ν μ → k_X10_positiveOf v1 μ = some (r, μR) → hm_CC (hm_LL ν) m_X10_positiveOf (fr - 1) 0 0 [.ref 179, .int v1] μ (some (.int r)) μR) (k_X10_testOf : Int32 → hm_M → Option (Int32 × hm_M)) (hk_X10_testOf : ∀ {r : Int32} {μR : hm_M} (v1 : Int32)  (μ : hm_M), hm_LL ν μ → k_X10_testOf v1 μ = some (r, μR) → hm_CC (hm_LL ν) m_X10_testOf (fr - 1) 0 0 [.ref 179, .int v1] μ (some (.int r)) μR) (v1 : Int32) (c6 : Int32 → hm_M → Option (Int32 × hm_M)) (e49 : Int32 → hm_M → Option (Int32 × hm_M)) (hc6 : ∀ (y2 : Int32)  (μ1 : hm_M), hm_LL ν μ1 → c6 y2 μ1 = some (r, μR) → hm_T (hm_LL ν) m_X10_testOf fr 0 0 (some (.int r)) μR 6 [some (.ref 179), some (.int v1), some (.int y2), none] [] μ1) (he49 : ∀ (y2 : Int32)  (μ1 : hm_M), hm_LL ν μ1 → e49 y2 μ1 = some (r, μR) → hm_T (hm_LL ν) m_X10_testOf fr 0 0 (some (.int r)) μR 49 [none, none, some (.int y2), none] [] μ1)  (s0 : Int32) (y2 : Int32) (μ1 : hm_M) (hL : hm_LL ν μ1) (h : f_X10_testOf_J28 k_X10_bothOf k_X10_plainOf k_X10_positiveOf k_X10_testOf v1 c6 e49 s0 y2 μ1 = some (r, μR)) : hm_T (hm_LL ν) m_X10_testOf fr 0 0 (some (.int r)) μR 28 [some (.ref 179), some (.int v1), some (.int y2), none] [.int s0, .ref 179] μ1 := by
  unfold f_X10_testOf_J28 at h
  obtain ⟨x6, μ7, ex6, h⟩ := hm_b2s h
  have cx6 := hk_X10_bothOf s0 μ1 hL ex6
  refine tp_callV (pc' := 31) (As := [.int s0]) (fr1 := fr - 1) (ci := 10) okm_X10_bothOf lk_HandRingModel_325 (show decode cX10_testOf 28 = .ok (.invokevirtual 325, 3) by decide +kernel) rfl rfl rfl (by decide) (la_o hL (by decide) rfl) rfl rfl (Nat.le_of_ble_eq_true rfl) (by omega) cx6 (st' := [.int x6]) rfl ?_
  replace hL := cx6.1
  refine tr_istore_n (pc' := 32) (lv' := [some (.ref 179), some (.int v1), some (.int y2), some (.int x6)]) (show decode cX10_testOf 31 = .ok (.istore_n 3, 1) by decide +kernel) rfl rfl (Nat.le_of_ble_eq_true rfl) rfl rfl ?_
  refine tr_iload_n (pc' := 33) (show decode cX10_testOf 32 = .ok (.iload_n 2, 1) by decide +kernel) rfl rfl rfl ?_
  rcases hm_is h with ⟨hc, h⟩ | ⟨hc, h⟩
  · refine tr_if_ne_f (tgt := 40) (pc' := 36) hc (show decode cX10_testOf 33 = .ok (.ifCond .ne 7, 3) by decide +kernel) (by decide) rfl ?_
    refine tr_iload_n (pc' := 37) (show decode cX10_testOf 36 = .ok (.iload_n 3, 1) by decide +kernel) rfl rfl rfl ?_
    rcases hm_is h with ⟨hc, h⟩ | ⟨hc, h⟩
    · refine tr_if_eq_t (tgt := 44) hc (show decode cX10_testOf 37 = .ok (.ifCond .eq 7, 3) by decide +kernel) (by decide) ?_
      refine tr_iconst (pc' := 45) (v := (0 : Int32)) (show decode cX10_testOf 44 = .ok (.iconst 0, 1) by decide +kernel) rfl (by decide) ?_
      refine hm_fgt [true, true, false, false] (lv' := [some (.ref 179), some (.int v1), none, none]) rfl ?_
      exact ok_X10_testOf_J45 hfr k_X10_bothOf hk_X10_bothOf k_X10_plainOf hk_X10_plainOf k_X10_positiveOf hk_X10_positiveOf k_X10_testOf hk_X10_testOf _ c6 e49 hc6 he49 (0 : Int32) μ7 hL h
    · refine tr_if_eq_f (tgt := 44) (pc' := 40) hc (show decode cX10_testOf 37 = .ok (.ifCond .eq 7, 3) by decide +kernel) (by decide) rfl ?_
      refine hm_fgt [true, true, false, false] (lv' := [some (.ref 179), some (.int v1), none, none]) rfl ?_
      exact ok_X10_testOf_J40 hfr k_X10_bothOf hk_X10_bothOf k_X10_plainOf hk_X10_plainOf k_X10_positiveOf hk_X10_positiveOf k_X10_testOf hk_X10_testOf _ c6 e49 hc6 he49 μ7 hL h
  · refine tr_if_ne_t (tgt := 40) hc (show decode cX10_testOf 33 = .ok (.ifCond .ne 7, 3) by decide +kernel) (by decide) ?_
    refine hm_fgt [true, true, false, false] (lv' := [some (.ref 179), some (.int v1), none, none]) rfl ?_
    exact ok_X10_testOf_J40 hfr k_X10_bothOf hk_X10_bothOf k_X10_plainOf hk_X10_plainOf k_X10_positiveOf hk_X10_positiveOf k_X10_testOf hk_X10_testOf _ c6 e49 hc6 he49 μ7 hL h
def f_X10_testOf_J27 (k_X10_bothOf : Int32 → hm_M → Option (Int32 × hm_M)) (k_X10_plainOf : Int32 → hm_M → Option (Int32 × hm_M)) (k_X10_positiveOf : Int32 → hm_M → Option (Int32 × hm_M)) (k_X10_testOf : Int32 → hm_M → Option (Int32 × hm_M)) (v1 : Int32) (c6 : Int32 → hm_M → Option (Int32 × hm_M)) (e49 : Int32 → hm_M → Option (Int32 × hm_M)) (y2 : Int32) (μ1 : hm_M) : Option (Int32 × hm_M) :=
  f_X10_testOf_J28 k_X10_bothOf k_X10_plainOf k_X10_positiveOf k_X10_testOf v1 c6 e49 (0 : Int32) y2 μ1
theorem ok_X10_testOf_J27 {fr : Nat} (hfr : 3 ≤ fr) {ν : hm_N} {r : Int32} {μR : hm_M} (k_X10_bothOf : Int32 → hm_M → Option (Int32 × hm_M)) (hk_X10_bothOf : ∀ {r : Int32} {μR : hm_M} (v1 : Int32)  (μ : hm_M), hm_LL ν μ → k_X10_bothOf v1 μ = some (r, μR) → hm_CC (hm_LL ν) m_X10_bothOf (fr - 1) 0 0 [.ref 179, .int v1] μ (some (.int r)) μR) (k_X10_plainOf : Int32 → hm_M → Option (Int32 × hm_M)) (hk_X10_plainOf : ∀ {r : Int32} {μR : hm_M} (v1 : Int32)  (μ : hm_M), hm_LL ν μ → k_X10_plainOf v1 μ = some (r, μR) → hm_CC (hm_LL ν) m_X10_plainOf (fr - 1) 0 0 [.ref 179, .int v1] μ (some (.int r)) μR) (k_X10_positiveOf : Int32 → hm_M → Option (Int32 × hm_M)) (hk_X10_positiveOf : ∀ {r : Int32} {μR : hm_M} (v1 : Int32)  (μ : hm_M), hm_LL ν μ → k_X10_positiveOf v1 μ = some (r, μR) → hm_CC (hm_LL ν) m_X10_positiveOf (fr - 1) 0 0 [.ref 179, .int v1] μ (some (.int r)) μR) (k_X10_testOf : Int32 → hm_M → Option (Int32 × hm_M)) (hk_X10_testOf : ∀ {r : Int32} {μR : hm_M} (v1 : Int32)  (μ : hm_M), hm_LL ν μ → k_X10_testOf v1 μ = some (r, μR) → hm_CC (hm_LL ν) m_X10_testOf (fr - 1) 0 0 [.ref 179, .int v1] μ (some (.int r)) μR) (v1 : Int32) (c6 : Int32 → hm_M → Option (Int32 × hm_M)) (e49 : Int32 → hm_M → Option (Int32 × hm_M)) (hc6 : ∀ (y2 : Int32)  (μ1 : hm_M), hm_LL ν μ1 → c6 y2 μ1 = some (r, μR) → hm_T (hm_LL ν) m_X10_testOf fr 0 0 (some (.int r)) μR 6 [some (.ref 179), some (.int v1), some (.int y2), none] [] μ1) (he49 : ∀ (y2 : Int32)  (μ1 : hm_M), hm_LL ν μ1 → e49 y2 μ1 = some (r, μR) → hm_T (hm_LL ν) m_X10_testOf fr 0 0 (some (.int r)) μR 49 [none, none, some (.int y2), none] [] μ1)  (y2 : Int32) (μ1 : hm_M) (hL : hm_LL ν μ1) (h : f_X10_testOf_J27 k_X10_bothOf k_X10_plainOf k_X10_positiveOf k_X10_testOf v1 c6 e49 y2 μ1 = some (r, μR)) : hm_T (hm_LL ν) m_X10_testOf fr 0 0 (some (.int r)) μR 27 [some (.ref 179), some (.int v1), some (.int y2), none] [.ref 179] μ1 := by
  unfold f_X10_testOf_J27 at h
  refine tr_iconst (pc' := 28) (v := (0 : Int32)) (show decode cX10_testOf 27 = .ok (.iconst 0, 1) by decide +kernel) rfl (by decide) ?_
  exact ok_X10_testOf_J28 hfr k_X10_bothOf hk_X10_bothOf k_X10_plainOf hk_X10_plainOf k_X10_positiveOf hk_X10_positiveOf k_X10_testOf hk_X10_testOf _ c6 e49 hc6 he49 (0 : Int32) y2 μ1 hL h
def f_X10_testOf_L6 (k_X10_bothOf : Int32 → hm_M → Option (Int32 × hm_M)) (k_X10_plainOf : Int32 → hm_M → Option (Int32 × hm_M)) (k_X10_positiveOf : Int32 → hm_M → Option (Int32 × hm_M)) (k_X10_testOf : Int32 → hm_M → Option (Int32 × hm_M)) (v1 : Int32) (e49 : Int32 → hm_M → Option (Int32 × hm_M)) : Nat → Int32 → hm_M → Option (Int32 × hm_M)
  | 0, _, _ => none
  | n + 1, y2, μ1 => hm_b2 (f_X10_passes0 (5 : Int32) μ1) fun x4 μ5 =>
  (if x4 = 0 then
  e49 y2 μ5
  else
  (if v1 = 0 then
  f_X10_testOf_J27 k_X10_bothOf k_X10_plainOf k_X10_positiveOf k_X10_testOf v1 (f_X10_testOf_L6 k_X10_bothOf k_X10_plainOf k_X10_positiveOf k_X10_testOf v1 e49 n) e49 y2 μ5
  else
  (if y2 = 0 then
  f_X10_testOf_J28 k_X10_bothOf k_X10_plainOf k_X10_positiveOf k_X10_testOf v1 (f_X10_testOf_L6 k_X10_bothOf k_X10_plainOf k_X10_positiveOf k_X10_testOf v1 e49 n) e49 (1 : Int32) y2 μ5
  else
  f_X10_testOf_J27 k_X10_bothOf k_X10_plainOf k_X10_positiveOf k_X10_testOf v1 (f_X10_testOf_L6 k_X10_bothOf k_X10_plainOf k_X10_positiveOf k_X10_testOf v1 e49 n) e49 y2 μ5)))
theorem ok_X10_testOf_L6 {fr : Nat} (hfr : 3 ≤ fr) {ν : hm_N} {r : Int32} {μR : hm_M} (k_X10_bothOf : Int32 → hm_M → Option (Int32 × hm_M)) (hk_X10_bothOf : ∀ {r : Int32} {μR : hm_M} (v1 : Int32)  (μ : hm_M), hm_LL ν μ → k_X10_bothOf v1 μ = some (r, μR) → hm_CC (hm_LL ν) m_X10_bothOf (fr - 1) 0 0 [.ref 179, .int v1] μ (some (.int r)) μR) (k_X10_plainOf : Int32 → hm_M → Option (Int32 × hm_M)) (hk_X10_plainOf : ∀ {r : Int32} {μR : hm_M} (v1 : Int32)  (μ : hm_M), hm_LL ν μ → k_X10_plainOf v1 μ = some (r, μR) → hm_CC (hm_LL ν) m_X10_plainOf (fr - 1) 0 0 [.ref 179, .int v1] μ (some (.int r)) μR) (k_X10_positiveOf : Int32 → hm_M → Option (Int32 × hm_M)) (hk_X10_positiveOf : ∀ {r : Int32} {μR : hm_M} (v1 : Int32)  (μ : hm_M), hm_LL ν μ → k_X10_positiveOf v1 μ = some (r, μR) → hm_CC (hm_LL ν) m_X10_positiveOf (fr - 1) 0 0 [.ref 179, .int v1] μ (some (.int r)) μR) (k_X10_testOf : Int32 → hm_M → Option (Int32 × hm_M)) (hk_X10_testOf : ∀ {r : Int32} {μR : hm_M} (v1 : Int32)  (μ : hm_M), hm_LL ν μ → k_X10_testOf v1 μ = some (r, μR) → hm_CC (hm_LL ν) m_X10_testOf (fr - 1) 0 0 [.ref 179, .int v1] μ (some (.int r)) μR) (v1 : Int32) (e49 : Int32 → hm_M → Option (Int32 × hm_M))  (he49 : ∀ (y2 : Int32)  (μ1 : hm_M), hm_LL ν μ1 → e49 y2 μ1 = some (r, μR) → hm_T (hm_LL ν) m_X10_testOf fr 0 0 (some (.int r)) μR 49 [none, none, some (.int y2), none] [] μ1)  : ∀ (n : Nat) (y2 : Int32)  (μ1 : hm_M), hm_LL ν μ1 → f_X10_testOf_L6 k_X10_bothOf k_X10_plainOf k_X10_positiveOf k_X10_testOf v1 e49 n y2 μ1 = some (r, μR) → hm_T (hm_LL ν) m_X10_testOf fr 0 0 (some (.int r)) μR 6 [some (.ref 179), some (.int v1), some (.int y2), none] [] μ1 := by
  intro n
  induction n with
  | zero =>
    intro y2 μ1 hL h
    unfold f_X10_testOf_L6 at h
    cases h
  | succ n ih =>
    intro y2 μ1 hL h
    unfold f_X10_testOf_L6 at h
    refine tr_aload_n (pc' := 7) (show decode cX10_testOf 6 = .ok (.aload_n 0, 1) by decide +kernel) rfl rfl rfl ?_
    refine tr_iconst (pc' := 8) (v := (5 : Int32)) (show decode cX10_testOf 7 = .ok (.iconst 5, 1) by decide +kernel) rfl (by decide) ?_
    obtain ⟨x4, μ5, ex4, h⟩ := hm_b2s h
    have cx4 := ok_X10_passes0 (fr := fr - 1) (ν := ν) (by omega) (5 : Int32) μ1 hL ex4
    refine tp_callV (pc' := 11) (As := [.int (5 : Int32)]) (fr1 := fr - 1) (ci := 10) okm_X10_passes0 lk_HandRingModel_298 (show decode cX10_testOf 8 = .ok (.invokevirtual 298, 3) by decide +kernel) rfl rfl rfl (by decide) (la_o hL (by decide) rfl) rfl rfl (Nat.le_of_ble_eq_true rfl) (by omega) cx4 (st' := [.int x4]) rfl ?_
    replace hL := cx4.1
    rcases hm_is h with ⟨hc, h⟩ | ⟨hc, h⟩
    · refine tr_if_eq_t (tgt := 49) hc (show decode cX10_testOf 11 = .ok (.ifCond .eq 38, 3) by decide +kernel) (by decide) ?_
      refine hm_fgt [false, false, true, false] (lv' := [none, none, some (.int y2), none]) rfl ?_
      exact he49 y2 μ5 hL h
    · refine tr_if_eq_f (tgt := 49) (pc' := 14) hc (show decode cX10_testOf 11 = .ok (.ifCond .eq 38, 3) by decide +kernel) (by decide) rfl ?_
      refine tr_aload_n (pc' := 15) (show decode cX10_testOf 14 = .ok (.aload_n 0, 1) by decide +kernel) rfl rfl rfl ?_
      refine tr_iload_n (pc' := 16) (show decode cX10_testOf 15 = .ok (.iload_n 1, 1) by decide +kernel) rfl rfl rfl ?_
      rcases hm_is h with ⟨hc, h⟩ | ⟨hc, h⟩
      · refine tr_if_eq_t (tgt := 27) hc (show decode cX10_testOf 16 = .ok (.ifCond .eq 11, 3) by decide +kernel) (by decide) ?_
        exact ok_X10_testOf_J27 hfr k_X10_bothOf hk_X10_bothOf k_X10_plainOf hk_X10_plainOf k_X10_positiveOf hk_X10_positiveOf k_X10_testOf hk_X10_testOf _ (f_X10_testOf_L6 k_X10_bothOf k_X10_plainOf k_X10_positiveOf k_X10_testOf v1 e49 n) e49 ih he49 y2 μ5 hL h
      · refine tr_if_eq_f (tgt := 27) (pc' := 19) hc (show decode cX10_testOf 16 = .ok (.ifCond .eq 11, 3) by decide +kernel) (by decide) rfl ?_
        refine tr_iload_n (pc' := 20) (show decode cX10_testOf 19 = .ok (.iload_n 2, 1) by decide +kernel) rfl rfl rfl ?_
        rcases hm_is h with ⟨hc, h⟩ | ⟨hc, h⟩
        · refine tr_if_ne_f (tgt := 27) (pc' := 23) hc (show decode cX10_testOf 20 = .ok (.ifCond .ne 7, 3) by decide +kernel) (by decide) rfl ?_
          refine tr_iconst (pc' := 24) (v := (1 : Int32)) (show decode cX10_testOf 23 = .ok (.iconst 1, 1) by decide +kernel) rfl (by decide) ?_
          refine tr_goto (tgt := 28) (show decode cX10_testOf 24 = .ok (.goto 4, 3) by decide +kernel) rfl ?_
          exact ok_X10_testOf_J28 hfr k_X10_bothOf hk_X10_bothOf k_X10_plainOf hk_X10_plainOf k_X10_positiveOf hk_X10_positiveOf k_X10_testOf hk_X10_testOf _ (f_X10_testOf_L6 k_X10_bothOf k_X10_plainOf k_X10_positiveOf k_X10_testOf v1 e49 n) e49 ih he49 (1 : Int32) y2 μ5 hL h
        · refine tr_if_ne_t (tgt := 27) hc (show decode cX10_testOf 20 = .ok (.ifCond .ne 7, 3) by decide +kernel) (by decide) ?_
          exact ok_X10_testOf_J27 hfr k_X10_bothOf hk_X10_bothOf k_X10_plainOf hk_X10_plainOf k_X10_positiveOf hk_X10_positiveOf k_X10_testOf hk_X10_testOf _ (f_X10_testOf_L6 k_X10_bothOf k_X10_plainOf k_X10_positiveOf k_X10_testOf v1 e49 n) e49 ih he49 y2 μ5 hL h
def f_X10_testOf (k_X10_bothOf : Int32 → hm_M → Option (Int32 × hm_M)) (k_X10_plainOf : Int32 → hm_M → Option (Int32 × hm_M)) (k_X10_positiveOf : Int32 → hm_M → Option (Int32 × hm_M)) (k_X10_testOf : Int32 → hm_M → Option (Int32 × hm_M)) (v1 : Int32) (μ : hm_M) : Option (Int32 × hm_M) :=
  hm_b2 (k_X10_bothOf v1 μ) fun x2 μ3 =>
  f_X10_testOf_L6 k_X10_bothOf k_X10_plainOf k_X10_positiveOf k_X10_testOf v1 (fun z8_2 μz8 => Option.bind (hm_rz z8_2) fun x9 => some (x9, μz8)) hm_fu x2 μ3
set_option maxRecDepth 100000 in
theorem ok_X10_testOf {fr : Nat} (hfr : 3 ≤ fr) {ν : hm_N} {r : Int32} {μR : hm_M} (k_X10_bothOf : Int32 → hm_M → Option (Int32 × hm_M)) (hk_X10_bothOf : ∀ {r : Int32} {μR : hm_M} (v1 : Int32)  (μ : hm_M), hm_LL ν μ → k_X10_bothOf v1 μ = some (r, μR) → hm_CC (hm_LL ν) m_X10_bothOf (fr - 1) 0 0 [.ref 179, .int v1] μ (some (.int r)) μR) (k_X10_plainOf : Int32 → hm_M → Option (Int32 × hm_M)) (hk_X10_plainOf : ∀ {r : Int32} {μR : hm_M} (v1 : Int32)  (μ : hm_M), hm_LL ν μ → k_X10_plainOf v1 μ = some (r, μR) → hm_CC (hm_LL ν) m_X10_plainOf (fr - 1) 0 0 [.ref 179, .int v1] μ (some (.int r)) μR) (k_X10_positiveOf : Int32 → hm_M → Option (Int32 × hm_M)) (hk_X10_positiveOf : ∀ {r : Int32} {μR : hm_M} (v1 : Int32)  (μ : hm_M), hm_LL ν μ → k_X10_positiveOf v1 μ = some (r, μR) → hm_CC (hm_LL ν) m_X10_positiveOf (fr - 1) 0 0 [.ref 179, .int v1] μ (some (.int r)) μR) (k_X10_testOf : Int32 → hm_M → Option (Int32 × hm_M)) (hk_X10_testOf : ∀ {r : Int32} {μR : hm_M} (v1 : Int32)  (μ : hm_M), hm_LL ν μ → k_X10_testOf v1 μ = some (r, μR) → hm_CC (hm_LL ν) m_X10_testOf (fr - 1) 0 0 [.ref 179, .int v1] μ (some (.int r)) μR) (v1 : Int32)  (μ : hm_M) (hL : hm_LL ν μ) (h : f_X10_testOf k_X10_bothOf k_X10_plainOf k_X10_positiveOf k_X10_testOf v1 μ = some (r, μR)) : hm_CC (hm_LL ν) m_X10_testOf fr 0 0 [.ref 179, .int v1] μ (some (.int r)) μR := by
  refine hm_enter (lv := [some (.ref 179), some (.int v1), none, none]) (by decide) rfl (Nat.le_of_ble_eq_true rfl) ?_
  unfold f_X10_testOf at h
  refine tr_aload_n (pc' := 1) (show decode cX10_testOf 0 = .ok (.aload_n 0, 1) by decide +kernel) rfl rfl rfl ?_
  refine tr_iload_n (pc' := 2) (show decode cX10_testOf 1 = .ok (.iload_n 1, 1) by decide +kernel) rfl rfl rfl ?_
  obtain ⟨x2, μ3, ex2, h⟩ := hm_b2s h
  have cx2 := hk_X10_bothOf v1 μ hL ex2
  refine tp_callV (pc' := 5) (As := [.int v1]) (fr1 := fr - 1) (ci := 10) okm_X10_bothOf lk_HandRingModel_325 (show decode cX10_testOf 2 = .ok (.invokevirtual 325, 3) by decide +kernel) rfl rfl rfl (by decide) (la_o hL (by decide) rfl) rfl rfl (Nat.le_of_ble_eq_true rfl) (by omega) cx2 (st' := [.int x2]) rfl ?_
  replace hL := cx2.1
  refine tr_istore_n (pc' := 6) (lv' := [some (.ref 179), some (.int v1), some (.int x2), none]) (show decode cX10_testOf 5 = .ok (.istore_n 2, 1) by decide +kernel) rfl rfl (Nat.le_of_ble_eq_true rfl) rfl rfl ?_
  refine ok_X10_testOf_L6 hfr k_X10_bothOf hk_X10_bothOf k_X10_plainOf hk_X10_plainOf k_X10_positiveOf hk_X10_positiveOf k_X10_testOf hk_X10_testOf _ _ ?_ _ x2 μ3 hL h
  · intro z8_2 μz8 hL h
    refine tr_iload_n (pc' := 50) (show decode cX10_testOf 49 = .ok (.iload_n 2, 1) by decide +kernel) rfl rfl rfl ?_
    obtain ⟨x9, ex9, h⟩ := hm_bs h
    cases h
    exact tp_zret rfl (show decode cX10_testOf 50 = .ok (.ireturn, 1) by decide +kernel) ex9 hL
def K_X10_bothOf : Nat → (Int32 → hm_M → Option (Int32 × hm_M)) × (Int32 → hm_M → Option (Int32 × hm_M)) × (Int32 → hm_M → Option (Int32 × hm_M)) × (Int32 → hm_M → Option (Int32 × hm_M))
  | 0 => (fun _ _ => none, fun _ _ => none, fun _ _ => none, fun _ _ => none)
  | n + 1 => (f_X10_bothOf (K_X10_bothOf n).1 (K_X10_bothOf n).2.1 (K_X10_bothOf n).2.2.1 (K_X10_bothOf n).2.2.2, f_X10_plainOf (K_X10_bothOf n).1 (K_X10_bothOf n).2.1 (K_X10_bothOf n).2.2.1 (K_X10_bothOf n).2.2.2, f_X10_positiveOf (K_X10_bothOf n).1 (K_X10_bothOf n).2.1 (K_X10_bothOf n).2.2.1 (K_X10_bothOf n).2.2.2, f_X10_testOf (K_X10_bothOf n).1 (K_X10_bothOf n).2.1 (K_X10_bothOf n).2.2.1 (K_X10_bothOf n).2.2.2)
theorem KK_X10_bothOf {ν : hm_N} : ∀ (n fr : Nat), n + 46 ≤ fr → (∀ {r : Int32} {μR : hm_M} (v1 : Int32)  (μ : hm_M), hm_LL ν μ → (K_X10_bothOf n).1 v1 μ = some (r, μR) → hm_CC (hm_LL ν) m_X10_bothOf (fr) 0 0 [.ref 179, .int v1] μ (some (.int r)) μR) ∧ (∀ {r : Int32} {μR : hm_M} (v1 : Int32)  (μ : hm_M), hm_LL ν μ → (K_X10_bothOf n).2.1 v1 μ = some (r, μR) → hm_CC (hm_LL ν) m_X10_plainOf (fr) 0 0 [.ref 179, .int v1] μ (some (.int r)) μR) ∧ (∀ {r : Int32} {μR : hm_M} (v1 : Int32)  (μ : hm_M), hm_LL ν μ → (K_X10_bothOf n).2.2.1 v1 μ = some (r, μR) → hm_CC (hm_LL ν) m_X10_positiveOf (fr) 0 0 [.ref 179, .int v1] μ (some (.int r)) μR) ∧ (∀ {r : Int32} {μR : hm_M} (v1 : Int32)  (μ : hm_M), hm_LL ν μ → (K_X10_bothOf n).2.2.2 v1 μ = some (r, μR) → hm_CC (hm_LL ν) m_X10_testOf (fr) 0 0 [.ref 179, .int v1] μ (some (.int r)) μR) := by
  intro n
  induction n with
  | zero =>
    intro fr _
    exact ⟨by intros; rename_i h; exact absurd (show none = some _ from h) (fun z => by cases z), by intros; rename_i h; exact absurd (show none = some _ from h) (fun z => by cases z), by intros; rename_i h; exact absurd (show none = some _ from h) (fun z => by cases z), by intros; rename_i h; exact absurd (show none = some _ from h) (fun z => by cases z)⟩
  | succ n ih =>
    intro fr hf
    have I := @ih (fr - 1) (by omega)
    exact ⟨(fun {_} {_} v1  μ hL h => ok_X10_bothOf (by omega) (K_X10_bothOf n).1 I.1 (K_X10_bothOf n).2.1 I.2.1 (K_X10_bothOf n).2.2.1 I.2.2.1 (K_X10_bothOf n).2.2.2 I.2.2.2 v1  μ hL h),
      (fun {_} {_} v1  μ hL h => ok_X10_plainOf (by omega) (K_X10_bothOf n).1 I.1 (K_X10_bothOf n).2.1 I.2.1 (K_X10_bothOf n).2.2.1 I.2.2.1 (K_X10_bothOf n).2.2.2 I.2.2.2 v1  μ hL h),
      (fun {_} {_} v1  μ hL h => ok_X10_positiveOf (by omega) (K_X10_bothOf n).1 I.1 (K_X10_bothOf n).2.1 I.2.1 (K_X10_bothOf n).2.2.1 I.2.2.1 (K_X10_bothOf n).2.2.2 I.2.2.2 v1  μ hL h),
      (fun {_} {_} v1  μ hL h => ok_X10_testOf (by omega) (K_X10_bothOf n).1 I.1 (K_X10_bothOf n).2.1 I.2.1 (K_X10_bothOf n).2.2.1 I.2.2.1 (K_X10_bothOf n).2.2.2 I.2.2.2 v1  μ hL h)⟩
def F_X10_bothOf (v1 : Int32) (μ : hm_M) : Option (Int32 × hm_M) := (K_X10_bothOf 40).1 v1 μ
theorem OK_X10_bothOf {fr : Nat} (hfr : 86 ≤ fr) {ν : hm_N} {r : Int32} {μR : hm_M} (v1 : Int32)  (μ : hm_M) (hL : hm_LL ν μ) (h : F_X10_bothOf v1 μ = some (r, μR)) : hm_CC (hm_LL ν) m_X10_bothOf fr 0 0 [.ref 179, .int v1] μ (some (.int r)) μR := (KK_X10_bothOf 40 fr (by omega)).1 v1  μ hL h
def F_X10_plainOf (v1 : Int32) (μ : hm_M) : Option (Int32 × hm_M) := (K_X10_bothOf 40).2.1 v1 μ
theorem OK_X10_plainOf {fr : Nat} (hfr : 86 ≤ fr) {ν : hm_N} {r : Int32} {μR : hm_M} (v1 : Int32)  (μ : hm_M) (hL : hm_LL ν μ) (h : F_X10_plainOf v1 μ = some (r, μR)) : hm_CC (hm_LL ν) m_X10_plainOf fr 0 0 [.ref 179, .int v1] μ (some (.int r)) μR := (KK_X10_bothOf 40 fr (by omega)).2.1 v1  μ hL h
def F_X10_positiveOf (v1 : Int32) (μ : hm_M) : Option (Int32 × hm_M) := (K_X10_bothOf 40).2.2.1 v1 μ
theorem OK_X10_positiveOf {fr : Nat} (hfr : 86 ≤ fr) {ν : hm_N} {r : Int32} {μR : hm_M} (v1 : Int32)  (μ : hm_M) (hL : hm_LL ν μ) (h : F_X10_positiveOf v1 μ = some (r, μR)) : hm_CC (hm_LL ν) m_X10_positiveOf fr 0 0 [.ref 179, .int v1] μ (some (.int r)) μR := (KK_X10_bothOf 40 fr (by omega)).2.2.1 v1  μ hL h
def F_X10_testOf (v1 : Int32) (μ : hm_M) : Option (Int32 × hm_M) := (K_X10_bothOf 40).2.2.2 v1 μ
theorem OK_X10_testOf {fr : Nat} (hfr : 86 ≤ fr) {ν : hm_N} {r : Int32} {μR : hm_M} (v1 : Int32)  (μ : hm_M) (hL : hm_LL ν μ) (h : F_X10_testOf v1 μ = some (r, μR)) : hm_CC (hm_LL ν) m_X10_testOf fr 0 0 [.ref 179, .int v1] μ (some (.int r)) μR := (KK_X10_bothOf 40 fr (by omega)).2.2.2 v1  μ hL h
def f_X10_tells_J209 (v1 : Int32) (v2 : Int32) (v3 : Int32) (v4 : Int32) (v5 : Int32) (c69 : Int64 → hm_M → Option (Int32 × hm_M)) (e222 : Int64 → hm_M → Option (Int32 × hm_M)) (y6 : Int64) (μ1 : hm_M) : Option (Int32 × hm_M) :=
  Option.bind (hm_pI μ1 179 22 ((μ1.1 179 22) + (1 : Int32))) fun μ19 =>
  c69 y6 μ19
theorem ok_X10_tells_J209 {fr : Nat} (hfr : 87 ≤ fr) {ν : hm_N} {r : Int32} {μR : hm_M}  (v1 : Int32) (v2 : Int32) (v3 : Int32) (v4 : Int32) (v5 : Int32) (c69 : Int64 → hm_M → Option (Int32 × hm_M)) (e222 : Int64 → hm_M → Option (Int32 × hm_M)) (hc69 : ∀ (y6 : Int64)  (μ1 : hm_M), hm_LL ν μ1 → c69 y6 μ1 = some (r, μR) → hm_T (hm_LL ν) m_X10_tells fr 0 0 (some (.int r)) μR 69 [some (.ref 179), some (.int v1), none, none, some (.int v4), none, some (.long y6), none, none, none, none, none, none] [] μ1) (he222 : ∀ (y6 : Int64)  (μ1 : hm_M), hm_LL ν μ1 → e222 y6 μ1 = some (r, μR) → hm_T (hm_LL ν) m_X10_tells fr 0 0 (some (.int r)) μR 222 [none, none, none, none, none, none, some (.long y6), none, none, none, none, none, none] [] μ1)  (y6 : Int64) (μ1 : hm_M) (hL : hm_LL ν μ1) (h : f_X10_tells_J209 v1 v2 v3 v4 v5 c69 e222 y6 μ1 = some (r, μR)) : hm_T (hm_LL ν) m_X10_tells fr 0 0 (some (.int r)) μR 209 [some (.ref 179), some (.int v1), none, none, some (.int v4), none, some (.long y6), none, none, none, none, none, none] [] μ1 := by
  unfold f_X10_tells_J209 at h
  refine tr_aload_n (pc' := 210) (show decode cX10_tells 209 = .ok (.aload_n 0, 1) by decide +kernel) rfl rfl rfl ?_
  refine tr_dup (pc' := 211) (show decode cX10_tells 210 = .ok (.dup, 1) by decide +kernel) rfl rfl ?_
  refine tr_getI (pc' := 214) fl_HandRingModel_274 (show decode cX10_tells 211 = .ok (.getfield 274, 3) by decide +kernel) rfl (la_o hL (by decide) rfl) ?_
  refine tr_iconst (pc' := 215) (v := (1 : Int32)) (show decode cX10_tells 214 = .ok (.iconst 1, 1) by decide +kernel) rfl (by decide) ?_
  refine tr_iadd (pc' := 216) (show decode cX10_tells 215 = .ok (.iadd, 1) by decide +kernel) rfl ?_
  obtain ⟨μ19, eμ19, h⟩ := hm_bs h
  refine tp_pI (pc' := 219) fl_HandRingModel_274 (show decode cX10_tells 216 = .ok (.putfield 274, 3) by decide +kernel) rfl (la_o hL (by decide) rfl) eμ19 ?_
  replace hL := hL.same (hm_pI_s eμ19)
  refine tr_goto (tgt := 69) (show decode cX10_tells 219 = .ok (.goto (-150), 3) by decide +kernel) rfl ?_
  exact hc69 y6 μ19 hL h
def f_X10_tells_J207 (v1 : Int32) (v2 : Int32) (v3 : Int32) (v4 : Int32) (v5 : Int32) (c69 : Int64 → hm_M → Option (Int32 × hm_M)) (e222 : Int64 → hm_M → Option (Int32 × hm_M)) (s0 : Int64) (μ1 : hm_M) : Option (Int32 × hm_M) :=
  f_X10_tells_J209 v1 v2 v3 v4 v5 c69 e222 s0 μ1
theorem ok_X10_tells_J207 {fr : Nat} (hfr : 87 ≤ fr) {ν : hm_N} {r : Int32} {μR : hm_M}  (v1 : Int32) (v2 : Int32) (v3 : Int32) (v4 : Int32) (v5 : Int32) (c69 : Int64 → hm_M → Option (Int32 × hm_M)) (e222 : Int64 → hm_M → Option (Int32 × hm_M)) (hc69 : ∀ (y6 : Int64)  (μ1 : hm_M), hm_LL ν μ1 → c69 y6 μ1 = some (r, μR) → hm_T (hm_LL ν) m_X10_tells fr 0 0 (some (.int r)) μR 69 [some (.ref 179), some (.int v1), none, none, some (.int v4), none, some (.long y6), none, none, none, none, none, none] [] μ1) (he222 : ∀ (y6 : Int64)  (μ1 : hm_M), hm_LL ν μ1 → e222 y6 μ1 = some (r, μR) → hm_T (hm_LL ν) m_X10_tells fr 0 0 (some (.int r)) μR 222 [none, none, none, none, none, none, some (.long y6), none, none, none, none, none, none] [] μ1)  (s0 : Int64) (μ1 : hm_M) (hL : hm_LL ν μ1) (h : f_X10_tells_J207 v1 v2 v3 v4 v5 c69 e222 s0 μ1 = some (r, μR)) : hm_T (hm_LL ν) m_X10_tells fr 0 0 (some (.int r)) μR 207 [some (.ref 179), some (.int v1), none, none, some (.int v4), none, none, none, none, none, none, none, none] [.long s0] μ1 := by
  unfold f_X10_tells_J207 at h
  refine tr_lstore (pc' := 209) (lv' := [some (.ref 179), some (.int v1), none, none, some (.int v4), none, some (.long s0), none, none, none, none, none, none]) (show decode cX10_tells 207 = .ok (.lstore 6, 2) by decide +kernel) rfl (Nat.le_of_ble_eq_true rfl) rfl rfl ?_
  exact ok_X10_tells_J209 hfr _ _ _ _ _ c69 e222 hc69 he222 s0 μ1 hL h
def f_X10_tells_J154 (v1 : Int32) (v2 : Int32) (v3 : Int32) (v4 : Int32) (v5 : Int32) (c69 : Int64 → hm_M → Option (Int32 × hm_M)) (e222 : Int64 → hm_M → Option (Int32 × hm_M)) (s0 : Int32) (y6 : Int64) (y8 : Int32) (y9 : Int64) (y11 : Int32) (μ1 : hm_M) : Option (Int32 × hm_M) :=
  (if y8 = v1 then
  (if s0 = 0 then
  f_X10_tells_J209 v1 v2 v3 v4 v5 c69 e222 y6 μ1
  else
  (if (μ1.1 179 24) = 0 then
  (if y11 = 0 then
  (if 0 ≤ (lg_cmp y9 (0 : Int64)) then
  (if (lg_cmp y9 v4.toInt64) ≤ 0 then
  f_X10_tells_J207 v1 v2 v3 v4 v5 c69 e222 y9 μ1
  else
  f_X10_tells_J207 v1 v2 v3 v4 v5 c69 e222 v4.toInt64 μ1)
  else
  f_X10_tells_J207 v1 v2 v3 v4 v5 c69 e222 (0 : Int64) μ1)
  else
  f_X10_tells_J209 v1 v2 v3 v4 v5 c69 e222 y6 μ1)
  else
  f_X10_tells_J209 v1 v2 v3 v4 v5 c69 e222 y6 μ1))
  else
  f_X10_tells_J209 v1 v2 v3 v4 v5 c69 e222 y6 μ1)
theorem ok_X10_tells_J154 {fr : Nat} (hfr : 87 ≤ fr) {ν : hm_N} {r : Int32} {μR : hm_M}  (v1 : Int32) (v2 : Int32) (v3 : Int32) (v4 : Int32) (v5 : Int32) (c69 : Int64 → hm_M → Option (Int32 × hm_M)) (e222 : Int64 → hm_M → Option (Int32 × hm_M)) (hc69 : ∀ (y6 : Int64)  (μ1 : hm_M), hm_LL ν μ1 → c69 y6 μ1 = some (r, μR) → hm_T (hm_LL ν) m_X10_tells fr 0 0 (some (.int r)) μR 69 [some (.ref 179), some (.int v1), none, none, some (.int v4), none, some (.long y6), none, none, none, none, none, none] [] μ1) (he222 : ∀ (y6 : Int64)  (μ1 : hm_M), hm_LL ν μ1 → e222 y6 μ1 = some (r, μR) → hm_T (hm_LL ν) m_X10_tells fr 0 0 (some (.int r)) μR 222 [none, none, none, none, none, none, some (.long y6), none, none, none, none, none, none] [] μ1)  (s0 : Int32) (y6 : Int64) (y8 : Int32) (y9 : Int64) (y11 : Int32) (μ1 : hm_M) (hL : hm_LL ν μ1) (h : f_X10_tells_J154 v1 v2 v3 v4 v5 c69 e222 s0 y6 y8 y9 y11 μ1 = some (r, μR)) : hm_T (hm_LL ν) m_X10_tells fr 0 0 (some (.int r)) μR 154 [some (.ref 179), some (.int v1), none, none, some (.int v4), none, some (.long y6), none, some (.int y8), some (.long y9), none, some (.int y11), none] [.int s0] μ1 := by
  unfold f_X10_tells_J154 at h
  refine tr_istore (pc' := 156) (lv' := [some (.ref 179), some (.int v1), none, none, some (.int v4), none, some (.long y6), none, some (.int y8), some (.long y9), none, some (.int y11), some (.int s0)]) (show decode cX10_tells 154 = .ok (.istore 12, 2) by decide +kernel) rfl (Nat.le_of_ble_eq_true rfl) rfl rfl ?_
  refine tr_iload (pc' := 158) (show decode cX10_tells 156 = .ok (.iload 8, 2) by decide +kernel) rfl rfl ?_
  refine tr_iload_n (pc' := 159) (show decode cX10_tells 158 = .ok (.iload_n 1, 1) by decide +kernel) rfl rfl rfl ?_
  rcases hm_is h with ⟨hc, h⟩ | ⟨hc, h⟩
  · refine tr_icmp_ne_f (tgt := 209) (pc' := 162) hc (show decode cX10_tells 159 = .ok (.if_icmp .ne 50, 3) by decide +kernel) (by decide) rfl ?_
    refine tr_iload (pc' := 164) (show decode cX10_tells 162 = .ok (.iload 12, 2) by decide +kernel) rfl rfl ?_
    rcases hm_is h with ⟨hc, h⟩ | ⟨hc, h⟩
    · refine tr_if_eq_t (tgt := 209) hc (show decode cX10_tells 164 = .ok (.ifCond .eq 45, 3) by decide +kernel) (by decide) ?_
      refine hm_fgt [true, true, false, false, true, false, true, false, false, false, false, false, false] (lv' := [some (.ref 179), some (.int v1), none, none, some (.int v4), none, some (.long y6), none, none, none, none, none, none]) rfl ?_
      exact ok_X10_tells_J209 hfr _ _ _ _ _ c69 e222 hc69 he222 y6 μ1 hL h
    · refine tr_if_eq_f (tgt := 209) (pc' := 167) hc (show decode cX10_tells 164 = .ok (.ifCond .eq 45, 3) by decide +kernel) (by decide) rfl ?_
      refine tr_aload_n (pc' := 168) (show decode cX10_tells 167 = .ok (.aload_n 0, 1) by decide +kernel) rfl rfl rfl ?_
      refine tr_getI (pc' := 171) fl_HandRingModel_284 (show decode cX10_tells 168 = .ok (.getfield 284, 3) by decide +kernel) rfl (la_o hL (by decide) rfl) ?_
      rcases hm_is h with ⟨hc, h⟩ | ⟨hc, h⟩
      · refine tr_if_ne_f (tgt := 209) (pc' := 174) hc (show decode cX10_tells 171 = .ok (.ifCond .ne 38, 3) by decide +kernel) (by decide) rfl ?_
        refine tr_iload (pc' := 176) (show decode cX10_tells 174 = .ok (.iload 11, 2) by decide +kernel) rfl rfl ?_
        rcases hm_is h with ⟨hc, h⟩ | ⟨hc, h⟩
        · refine tr_if_ne_f (tgt := 209) (pc' := 179) hc (show decode cX10_tells 176 = .ok (.ifCond .ne 33, 3) by decide +kernel) (by decide) rfl ?_
          refine tr_lload (pc' := 181) (show decode cX10_tells 179 = .ok (.lload 9, 2) by decide +kernel) rfl rfl ?_
          refine tr_lconst (pc' := 182) (v := (0 : Int64)) (show decode cX10_tells 181 = .ok (.lconst 0, 1) by decide +kernel) rfl (by decide) ?_
          refine tr_lcmp (pc' := 183) (show decode cX10_tells 182 = .ok (.lcmp, 1) by decide +kernel) rfl ?_
          rcases hm_is h with ⟨hc, h⟩ | ⟨hc, h⟩
          · refine tr_if_ge_t (tgt := 190) hc (show decode cX10_tells 183 = .ok (.ifCond .ge 7, 3) by decide +kernel) (by decide) ?_
            refine tr_lload (pc' := 192) (show decode cX10_tells 190 = .ok (.lload 9, 2) by decide +kernel) rfl rfl ?_
            refine tr_iload (pc' := 194) (show decode cX10_tells 192 = .ok (.iload 4, 2) by decide +kernel) rfl rfl ?_
            refine tr_i2l (pc' := 195) (show decode cX10_tells 194 = .ok (.i2l, 1) by decide +kernel) rfl ?_
            refine tr_lcmp (pc' := 196) (show decode cX10_tells 195 = .ok (.lcmp, 1) by decide +kernel) rfl ?_
            rcases hm_is h with ⟨hc, h⟩ | ⟨hc, h⟩
            · refine tr_if_le_t (tgt := 205) hc (show decode cX10_tells 196 = .ok (.ifCond .le 9, 3) by decide +kernel) (by decide) ?_
              refine tr_lload (pc' := 207) (show decode cX10_tells 205 = .ok (.lload 9, 2) by decide +kernel) rfl rfl ?_
              refine hm_fgt [true, true, false, false, true, false, false, false, false, false, false, false, false] (lv' := [some (.ref 179), some (.int v1), none, none, some (.int v4), none, none, none, none, none, none, none, none]) rfl ?_
              exact ok_X10_tells_J207 hfr _ _ _ _ _ c69 e222 hc69 he222 y9 μ1 hL h
            · refine tr_if_le_f (tgt := 205) (pc' := 199) hc (show decode cX10_tells 196 = .ok (.ifCond .le 9, 3) by decide +kernel) (by decide) rfl ?_
              refine tr_iload (pc' := 201) (show decode cX10_tells 199 = .ok (.iload 4, 2) by decide +kernel) rfl rfl ?_
              refine tr_i2l (pc' := 202) (show decode cX10_tells 201 = .ok (.i2l, 1) by decide +kernel) rfl ?_
              refine tr_goto (tgt := 207) (show decode cX10_tells 202 = .ok (.goto 5, 3) by decide +kernel) rfl ?_
              refine hm_fgt [true, true, false, false, true, false, false, false, false, false, false, false, false] (lv' := [some (.ref 179), some (.int v1), none, none, some (.int v4), none, none, none, none, none, none, none, none]) rfl ?_
              exact ok_X10_tells_J207 hfr _ _ _ _ _ c69 e222 hc69 he222 v4.toInt64 μ1 hL h
          · refine tr_if_ge_f (tgt := 190) (pc' := 186) hc (show decode cX10_tells 183 = .ok (.ifCond .ge 7, 3) by decide +kernel) (by decide) rfl ?_
            refine tr_lconst (pc' := 187) (v := (0 : Int64)) (show decode cX10_tells 186 = .ok (.lconst 0, 1) by decide +kernel) rfl (by decide) ?_
            refine tr_goto (tgt := 207) (show decode cX10_tells 187 = .ok (.goto 20, 3) by decide +kernel) rfl ?_
            refine hm_fgt [true, true, false, false, true, false, false, false, false, false, false, false, false] (lv' := [some (.ref 179), some (.int v1), none, none, some (.int v4), none, none, none, none, none, none, none, none]) rfl ?_
            exact ok_X10_tells_J207 hfr _ _ _ _ _ c69 e222 hc69 he222 (0 : Int64) μ1 hL h
        · refine tr_if_ne_t (tgt := 209) hc (show decode cX10_tells 176 = .ok (.ifCond .ne 33, 3) by decide +kernel) (by decide) ?_
          refine hm_fgt [true, true, false, false, true, false, true, false, false, false, false, false, false] (lv' := [some (.ref 179), some (.int v1), none, none, some (.int v4), none, some (.long y6), none, none, none, none, none, none]) rfl ?_
          exact ok_X10_tells_J209 hfr _ _ _ _ _ c69 e222 hc69 he222 y6 μ1 hL h
      · refine tr_if_ne_t (tgt := 209) hc (show decode cX10_tells 171 = .ok (.ifCond .ne 38, 3) by decide +kernel) (by decide) ?_
        refine hm_fgt [true, true, false, false, true, false, true, false, false, false, false, false, false] (lv' := [some (.ref 179), some (.int v1), none, none, some (.int v4), none, some (.long y6), none, none, none, none, none, none]) rfl ?_
        exact ok_X10_tells_J209 hfr _ _ _ _ _ c69 e222 hc69 he222 y6 μ1 hL h
  · refine tr_icmp_ne_t (tgt := 209) hc (show decode cX10_tells 159 = .ok (.if_icmp .ne 50, 3) by decide +kernel) (by decide) ?_
    refine hm_fgt [true, true, false, false, true, false, true, false, false, false, false, false, false] (lv' := [some (.ref 179), some (.int v1), none, none, some (.int v4), none, some (.long y6), none, none, none, none, none, none]) rfl ?_
    exact ok_X10_tells_J209 hfr _ _ _ _ _ c69 e222 hc69 he222 y6 μ1 hL h
def f_X10_tells_J149 (v1 : Int32) (v2 : Int32) (v3 : Int32) (v4 : Int32) (v5 : Int32) (c69 : Int64 → hm_M → Option (Int32 × hm_M)) (e222 : Int64 → hm_M → Option (Int32 × hm_M)) (y6 : Int64) (y8 : Int32) (y9 : Int64) (y11 : Int32) (μ1 : hm_M) : Option (Int32 × hm_M) :=
  f_X10_tells_J154 v1 v2 v3 v4 v5 c69 e222 (1 : Int32) y6 y8 y9 y11 μ1
theorem ok_X10_tells_J149 {fr : Nat} (hfr : 87 ≤ fr) {ν : hm_N} {r : Int32} {μR : hm_M}  (v1 : Int32) (v2 : Int32) (v3 : Int32) (v4 : Int32) (v5 : Int32) (c69 : Int64 → hm_M → Option (Int32 × hm_M)) (e222 : Int64 → hm_M → Option (Int32 × hm_M)) (hc69 : ∀ (y6 : Int64)  (μ1 : hm_M), hm_LL ν μ1 → c69 y6 μ1 = some (r, μR) → hm_T (hm_LL ν) m_X10_tells fr 0 0 (some (.int r)) μR 69 [some (.ref 179), some (.int v1), none, none, some (.int v4), none, some (.long y6), none, none, none, none, none, none] [] μ1) (he222 : ∀ (y6 : Int64)  (μ1 : hm_M), hm_LL ν μ1 → e222 y6 μ1 = some (r, μR) → hm_T (hm_LL ν) m_X10_tells fr 0 0 (some (.int r)) μR 222 [none, none, none, none, none, none, some (.long y6), none, none, none, none, none, none] [] μ1)  (y6 : Int64) (y8 : Int32) (y9 : Int64) (y11 : Int32) (μ1 : hm_M) (hL : hm_LL ν μ1) (h : f_X10_tells_J149 v1 v2 v3 v4 v5 c69 e222 y6 y8 y9 y11 μ1 = some (r, μR)) : hm_T (hm_LL ν) m_X10_tells fr 0 0 (some (.int r)) μR 149 [some (.ref 179), some (.int v1), none, none, some (.int v4), none, some (.long y6), none, some (.int y8), some (.long y9), none, some (.int y11), none] [] μ1 := by
  unfold f_X10_tells_J149 at h
  refine tr_iconst (pc' := 150) (v := (1 : Int32)) (show decode cX10_tells 149 = .ok (.iconst 1, 1) by decide +kernel) rfl (by decide) ?_
  refine tr_goto (tgt := 154) (show decode cX10_tells 150 = .ok (.goto 4, 3) by decide +kernel) rfl ?_
  exact ok_X10_tells_J154 hfr _ _ _ _ _ c69 e222 hc69 he222 (1 : Int32) y6 y8 y9 y11 μ1 hL h
def f_X10_tells_J120 (v1 : Int32) (v2 : Int32) (v3 : Int32) (v4 : Int32) (v5 : Int32) (c69 : Int64 → hm_M → Option (Int32 × hm_M)) (e222 : Int64 → hm_M → Option (Int32 × hm_M)) (s0 : Int64) (y6 : Int64) (y8 : Int32) (μ1 : hm_M) : Option (Int32 × hm_M) :=
  Option.bind (hm_pZ μ1 179 24 (0 : Int32)) fun μ16 =>
  hm_b2 (f_X10_passes0 (4 : Int32) μ16) fun x17 μ18 =>
  (if x17 = 0 then
  f_X10_tells_J149 v1 v2 v3 v4 v5 c69 e222 y6 y8 s0 (μ1.1 179 24) μ18
  else
  hm_b2 (F_X10_testOf (1 : Int32) μ18) fun x20 μ21 =>
  (if x20 = 0 then
  f_X10_tells_J154 v1 v2 v3 v4 v5 c69 e222 (0 : Int32) y6 y8 s0 (μ1.1 179 24) μ21
  else
  f_X10_tells_J149 v1 v2 v3 v4 v5 c69 e222 y6 y8 s0 (μ1.1 179 24) μ21))
theorem ok_X10_tells_J120 {fr : Nat} (hfr : 87 ≤ fr) {ν : hm_N} {r : Int32} {μR : hm_M}  (v1 : Int32) (v2 : Int32) (v3 : Int32) (v4 : Int32) (v5 : Int32) (c69 : Int64 → hm_M → Option (Int32 × hm_M)) (e222 : Int64 → hm_M → Option (Int32 × hm_M)) (hc69 : ∀ (y6 : Int64)  (μ1 : hm_M), hm_LL ν μ1 → c69 y6 μ1 = some (r, μR) → hm_T (hm_LL ν) m_X10_tells fr 0 0 (some (.int r)) μR 69 [some (.ref 179), some (.int v1), none, none, some (.int v4), none, some (.long y6), none, none, none, none, none, none] [] μ1) (he222 : ∀ (y6 : Int64)  (μ1 : hm_M), hm_LL ν μ1 → e222 y6 μ1 = some (r, μR) → hm_T (hm_LL ν) m_X10_tells fr 0 0 (some (.int r)) μR 222 [none, none, none, none, none, none, some (.long y6), none, none, none, none, none, none] [] μ1)  (s0 : Int64) (y6 : Int64) (y8 : Int32) (μ1 : hm_M) (hL : hm_LL ν μ1) (h : f_X10_tells_J120 v1 v2 v3 v4 v5 c69 e222 s0 y6 y8 μ1 = some (r, μR)) : hm_T (hm_LL ν) m_X10_tells fr 0 0 (some (.int r)) μR 120 [some (.ref 179), some (.int v1), none, none, some (.int v4), none, some (.long y6), none, some (.int y8), none, none, none, none] [.long s0] μ1 := by
  unfold f_X10_tells_J120 at h
  refine tr_lstore (pc' := 122) (lv' := [some (.ref 179), some (.int v1), none, none, some (.int v4), none, some (.long y6), none, some (.int y8), some (.long s0), none, none, none]) (show decode cX10_tells 120 = .ok (.lstore 9, 2) by decide +kernel) rfl (Nat.le_of_ble_eq_true rfl) rfl rfl ?_
  refine tr_aload_n (pc' := 123) (show decode cX10_tells 122 = .ok (.aload_n 0, 1) by decide +kernel) rfl rfl rfl ?_
  refine tr_getI (pc' := 126) fl_HandRingModel_284 (show decode cX10_tells 123 = .ok (.getfield 284, 3) by decide +kernel) rfl (la_o hL (by decide) rfl) ?_
  refine tr_istore (pc' := 128) (lv' := [some (.ref 179), some (.int v1), none, none, some (.int v4), none, some (.long y6), none, some (.int y8), some (.long s0), none, some (.int (μ1.1 179 24)), none]) (show decode cX10_tells 126 = .ok (.istore 11, 2) by decide +kernel) rfl (Nat.le_of_ble_eq_true rfl) rfl rfl ?_
  refine tr_aload_n (pc' := 129) (show decode cX10_tells 128 = .ok (.aload_n 0, 1) by decide +kernel) rfl rfl rfl ?_
  refine tr_iconst (pc' := 130) (v := (0 : Int32)) (show decode cX10_tells 129 = .ok (.iconst 0, 1) by decide +kernel) rfl (by decide) ?_
  obtain ⟨μ16, eμ16, h⟩ := hm_bs h
  refine tp_pZ (pc' := 133) fl_HandRingModel_284 (show decode cX10_tells 130 = .ok (.putfield 284, 3) by decide +kernel) rfl (la_o hL (by decide) rfl) eμ16 ?_
  replace hL := hL.same (hm_pZ_s eμ16)
  refine tr_aload_n (pc' := 134) (show decode cX10_tells 133 = .ok (.aload_n 0, 1) by decide +kernel) rfl rfl rfl ?_
  refine tr_iconst (pc' := 135) (v := (4 : Int32)) (show decode cX10_tells 134 = .ok (.iconst 4, 1) by decide +kernel) rfl (by decide) ?_
  obtain ⟨x17, μ18, ex17, h⟩ := hm_b2s h
  have cx17 := ok_X10_passes0 (fr := fr - 1) (ν := ν) (by omega) (4 : Int32) μ16 hL ex17
  refine tp_callV (pc' := 138) (As := [.int (4 : Int32)]) (fr1 := fr - 1) (ci := 10) okm_X10_passes0 lk_HandRingModel_298 (show decode cX10_tells 135 = .ok (.invokevirtual 298, 3) by decide +kernel) rfl rfl rfl (by decide) (la_o hL (by decide) rfl) rfl rfl (Nat.le_of_ble_eq_true rfl) (by omega) cx17 (st' := [.int x17]) rfl ?_
  replace hL := cx17.1
  rcases hm_is h with ⟨hc, h⟩ | ⟨hc, h⟩
  · refine tr_if_eq_t (tgt := 149) hc (show decode cX10_tells 138 = .ok (.ifCond .eq 11, 3) by decide +kernel) (by decide) ?_
    exact ok_X10_tells_J149 hfr _ _ _ _ _ c69 e222 hc69 he222 y6 y8 s0 (μ1.1 179 24) μ18 hL h
  · refine tr_if_eq_f (tgt := 149) (pc' := 141) hc (show decode cX10_tells 138 = .ok (.ifCond .eq 11, 3) by decide +kernel) (by decide) rfl ?_
    refine tr_aload_n (pc' := 142) (show decode cX10_tells 141 = .ok (.aload_n 0, 1) by decide +kernel) rfl rfl rfl ?_
    refine tr_iconst (pc' := 143) (v := (1 : Int32)) (show decode cX10_tells 142 = .ok (.iconst 1, 1) by decide +kernel) rfl (by decide) ?_
    obtain ⟨x20, μ21, ex20, h⟩ := hm_b2s h
    have cx20 := OK_X10_testOf (fr := fr - 1) (ν := ν) (by omega) (1 : Int32) μ18 hL ex20
    refine tp_callV (pc' := 146) (As := [.int (1 : Int32)]) (fr1 := fr - 1) (ci := 10) okm_X10_testOf lk_HandRingModel_334 (show decode cX10_tells 143 = .ok (.invokevirtual 334, 3) by decide +kernel) rfl rfl rfl (by decide) (la_o hL (by decide) rfl) rfl rfl (Nat.le_of_ble_eq_true rfl) (by omega) cx20 (st' := [.int x20]) rfl ?_
    replace hL := cx20.1
    rcases hm_is h with ⟨hc, h⟩ | ⟨hc, h⟩
    · refine tr_if_eq_t (tgt := 153) hc (show decode cX10_tells 146 = .ok (.ifCond .eq 7, 3) by decide +kernel) (by decide) ?_
      refine tr_iconst (pc' := 154) (v := (0 : Int32)) (show decode cX10_tells 153 = .ok (.iconst 0, 1) by decide +kernel) rfl (by decide) ?_
      exact ok_X10_tells_J154 hfr _ _ _ _ _ c69 e222 hc69 he222 (0 : Int32) y6 y8 s0 (μ1.1 179 24) μ21 hL h
    · refine tr_if_eq_f (tgt := 153) (pc' := 149) hc (show decode cX10_tells 146 = .ok (.ifCond .eq 7, 3) by decide +kernel) (by decide) rfl ?_
      exact ok_X10_tells_J149 hfr _ _ _ _ _ c69 e222 hc69 he222 y6 y8 s0 (μ1.1 179 24) μ21 hL h
def f_X10_tells_L69 (v1 : Int32) (v2 : Int32) (v3 : Int32) (v4 : Int32) (v5 : Int32) (e222 : Int64 → hm_M → Option (Int32 × hm_M)) : Nat → Int64 → hm_M → Option (Int32 × hm_M)
  | 0, _, _ => none
  | n + 1, y6, μ1 => (if (μ1.1 179 23) ≤ (μ1.1 179 22) then
  e222 y6 μ1
  else
  Option.bind (f_X10_codeAt (μ1.1 179 22) μ1) fun x11 =>
  Option.bind (hm_pZ μ1 179 24 (0 : Int32)) fun μ12 =>
  Option.bind (hm_pI μ12 179 22 ((μ12.1 179 22) + (1 : Int32))) fun μ13 =>
  (if x11 = (3 : Int32) then
  f_X10_tells_J120 v1 v2 v3 v4 v5 (f_X10_tells_L69 v1 v2 v3 v4 v5 e222 n) e222 (1 : Int64) y6 x11 μ13
  else
  hm_b2 (F_X10_sumOf (1 : Int32) μ13) fun x14 μ15 =>
  f_X10_tells_J120 v1 v2 v3 v4 v5 (f_X10_tells_L69 v1 v2 v3 v4 v5 e222 n) e222 x14 y6 x11 μ15))
theorem ok_X10_tells_L69 {fr : Nat} (hfr : 87 ≤ fr) {ν : hm_N} {r : Int32} {μR : hm_M}  (v1 : Int32) (v2 : Int32) (v3 : Int32) (v4 : Int32) (v5 : Int32) (e222 : Int64 → hm_M → Option (Int32 × hm_M))  (he222 : ∀ (y6 : Int64)  (μ1 : hm_M), hm_LL ν μ1 → e222 y6 μ1 = some (r, μR) → hm_T (hm_LL ν) m_X10_tells fr 0 0 (some (.int r)) μR 222 [none, none, none, none, none, none, some (.long y6), none, none, none, none, none, none] [] μ1)  : ∀ (n : Nat) (y6 : Int64)  (μ1 : hm_M), hm_LL ν μ1 → f_X10_tells_L69 v1 v2 v3 v4 v5 e222 n y6 μ1 = some (r, μR) → hm_T (hm_LL ν) m_X10_tells fr 0 0 (some (.int r)) μR 69 [some (.ref 179), some (.int v1), none, none, some (.int v4), none, some (.long y6), none, none, none, none, none, none] [] μ1 := by
  intro n
  induction n with
  | zero =>
    intro y6 μ1 hL h
    unfold f_X10_tells_L69 at h
    cases h
  | succ n ih =>
    intro y6 μ1 hL h
    unfold f_X10_tells_L69 at h
    refine tr_aload_n (pc' := 70) (show decode cX10_tells 69 = .ok (.aload_n 0, 1) by decide +kernel) rfl rfl rfl ?_
    refine tr_getI (pc' := 73) fl_HandRingModel_274 (show decode cX10_tells 70 = .ok (.getfield 274, 3) by decide +kernel) rfl (la_o hL (by decide) rfl) ?_
    refine tr_aload_n (pc' := 74) (show decode cX10_tells 73 = .ok (.aload_n 0, 1) by decide +kernel) rfl rfl rfl ?_
    refine tr_getI (pc' := 77) fl_HandRingModel_271 (show decode cX10_tells 74 = .ok (.getfield 271, 3) by decide +kernel) rfl (la_o hL (by decide) rfl) ?_
    rcases hm_is h with ⟨hc, h⟩ | ⟨hc, h⟩
    · refine tr_icmp_ge_t (tgt := 222) hc (show decode cX10_tells 77 = .ok (.if_icmp .ge 145, 3) by decide +kernel) (by decide) ?_
      refine hm_fgt [false, false, false, false, false, false, true, false, false, false, false, false, false] (lv' := [none, none, none, none, none, none, some (.long y6), none, none, none, none, none, none]) rfl ?_
      exact he222 y6 μ1 hL h
    · refine tr_icmp_ge_f (tgt := 222) (pc' := 80) hc (show decode cX10_tells 77 = .ok (.if_icmp .ge 145, 3) by decide +kernel) (by decide) rfl ?_
      refine tr_aload_n (pc' := 81) (show decode cX10_tells 80 = .ok (.aload_n 0, 1) by decide +kernel) rfl rfl rfl ?_
      refine tr_aload_n (pc' := 82) (show decode cX10_tells 81 = .ok (.aload_n 0, 1) by decide +kernel) rfl rfl rfl ?_
      refine tr_getI (pc' := 85) fl_HandRingModel_274 (show decode cX10_tells 82 = .ok (.getfield 274, 3) by decide +kernel) rfl (la_o hL (by decide) rfl) ?_
      obtain ⟨x11, ex11, h⟩ := hm_bs h
      have cx11 := ok_X10_codeAt (fr := fr - 1) (ν := ν) (by omega) (μ1.1 179 22) μ1 hL ex11
      refine tp_callV (pc' := 88) (As := [.int (μ1.1 179 22)]) (fr1 := fr - 1) (ci := 10) okm_X10_codeAt lk_HandRingModel_277 (show decode cX10_tells 85 = .ok (.invokevirtual 277, 3) by decide +kernel) rfl rfl rfl (by decide) (la_o hL (by decide) rfl) rfl rfl (Nat.le_of_ble_eq_true rfl) (by omega) cx11 (st' := [.int x11]) rfl ?_
      refine tr_istore (pc' := 90) (lv' := [some (.ref 179), some (.int v1), none, none, some (.int v4), none, some (.long y6), none, some (.int x11), none, none, none, none]) (show decode cX10_tells 88 = .ok (.istore 8, 2) by decide +kernel) rfl (Nat.le_of_ble_eq_true rfl) rfl rfl ?_
      refine tr_aload_n (pc' := 91) (show decode cX10_tells 90 = .ok (.aload_n 0, 1) by decide +kernel) rfl rfl rfl ?_
      refine tr_iconst (pc' := 92) (v := (0 : Int32)) (show decode cX10_tells 91 = .ok (.iconst 0, 1) by decide +kernel) rfl (by decide) ?_
      obtain ⟨μ12, eμ12, h⟩ := hm_bs h
      refine tp_pZ (pc' := 95) fl_HandRingModel_284 (show decode cX10_tells 92 = .ok (.putfield 284, 3) by decide +kernel) rfl (la_o hL (by decide) rfl) eμ12 ?_
      replace hL := hL.same (hm_pZ_s eμ12)
      refine tr_aload_n (pc' := 96) (show decode cX10_tells 95 = .ok (.aload_n 0, 1) by decide +kernel) rfl rfl rfl ?_
      refine tr_dup (pc' := 97) (show decode cX10_tells 96 = .ok (.dup, 1) by decide +kernel) rfl rfl ?_
      refine tr_getI (pc' := 100) fl_HandRingModel_274 (show decode cX10_tells 97 = .ok (.getfield 274, 3) by decide +kernel) rfl (la_o hL (by decide) rfl) ?_
      refine tr_iconst (pc' := 101) (v := (1 : Int32)) (show decode cX10_tells 100 = .ok (.iconst 1, 1) by decide +kernel) rfl (by decide) ?_
      refine tr_iadd (pc' := 102) (show decode cX10_tells 101 = .ok (.iadd, 1) by decide +kernel) rfl ?_
      obtain ⟨μ13, eμ13, h⟩ := hm_bs h
      refine tp_pI (pc' := 105) fl_HandRingModel_274 (show decode cX10_tells 102 = .ok (.putfield 274, 3) by decide +kernel) rfl (la_o hL (by decide) rfl) eμ13 ?_
      replace hL := hL.same (hm_pI_s eμ13)
      refine tr_iload (pc' := 107) (show decode cX10_tells 105 = .ok (.iload 8, 2) by decide +kernel) rfl rfl ?_
      refine tr_iconst (pc' := 108) (v := (3 : Int32)) (show decode cX10_tells 107 = .ok (.iconst 3, 1) by decide +kernel) rfl (by decide) ?_
      rcases hm_is h with ⟨hc, h⟩ | ⟨hc, h⟩
      · refine tr_icmp_ne_f (tgt := 115) (pc' := 111) hc (show decode cX10_tells 108 = .ok (.if_icmp .ne 7, 3) by decide +kernel) (by decide) rfl ?_
        refine tr_lconst (pc' := 112) (v := (1 : Int64)) (show decode cX10_tells 111 = .ok (.lconst 1, 1) by decide +kernel) rfl (by decide) ?_
        refine tr_goto (tgt := 120) (show decode cX10_tells 112 = .ok (.goto 8, 3) by decide +kernel) rfl ?_
        exact ok_X10_tells_J120 hfr _ _ _ _ _ (f_X10_tells_L69 v1 v2 v3 v4 v5 e222 n) e222 ih he222 (1 : Int64) y6 x11 μ13 hL h
      · refine tr_icmp_ne_t (tgt := 115) hc (show decode cX10_tells 108 = .ok (.if_icmp .ne 7, 3) by decide +kernel) (by decide) ?_
        refine tr_aload_n (pc' := 116) (show decode cX10_tells 115 = .ok (.aload_n 0, 1) by decide +kernel) rfl rfl rfl ?_
        refine tr_iconst (pc' := 117) (v := (1 : Int32)) (show decode cX10_tells 116 = .ok (.iconst 1, 1) by decide +kernel) rfl (by decide) ?_
        obtain ⟨x14, μ15, ex14, h⟩ := hm_b2s h
        have cx14 := OK_X10_sumOf (fr := fr - 1) (ν := ν) (by omega) (1 : Int32) μ13 hL ex14
        refine tp_callV (pc' := 120) (As := [.int (1 : Int32)]) (fr1 := fr - 1) (ci := 10) okm_X10_sumOf lk_HandRingModel_301 (show decode cX10_tells 117 = .ok (.invokevirtual 301, 3) by decide +kernel) rfl rfl rfl (by decide) (la_o hL (by decide) rfl) rfl rfl (Nat.le_of_ble_eq_true rfl) (by omega) cx14 (st' := [.long x14]) rfl ?_
        replace hL := cx14.1
        exact ok_X10_tells_J120 hfr _ _ _ _ _ (f_X10_tells_L69 v1 v2 v3 v4 v5 e222 n) e222 ih he222 x14 y6 x11 μ15 hL h
def f_X10_tells (v1 : Int32) (v2 : Int32) (v3 : Int32) (v4 : Int32) (v5 : Int32) (μ : hm_M) : Option (Int32 × hm_M) :=
  Option.bind (hm_ld μ 181 5665 (57 : Int32)) fun x2 =>
  (if x2 = (-1 : Int32) then
  some (v5, μ)
  else
  Option.bind (f_X10_setsAsked v2 v3 μ) fun μ4 =>
  Option.bind (hm_pZ μ4 179 25 (0 : Int32)) fun μ5 =>
  Option.bind (hm_ld μ5 181 5665 (57 : Int32)) fun x6 =>
  Option.bind (hm_pI μ5 179 22 ((400 : Int32) * x6)) fun μ7 =>
  Option.bind (hm_ld μ7 181 5665 (57 : Int32)) fun x8 =>
  Option.bind (hm_ld μ7 181 5665 ((58 : Int32) + x8)) fun x9 =>
  Option.bind (hm_pI μ7 179 23 ((μ7.1 179 22) + x9)) fun μ10 =>
  f_X10_tells_L69 v1 v2 v3 v4 v5 (fun z22_6 μz22 => some (z22_6.toInt32, μz22)) hm_fu v5.toInt64 μ10)
set_option maxRecDepth 100000 in
theorem ok_X10_tells {fr : Nat} (hfr : 87 ≤ fr) {ν : hm_N} {r : Int32} {μR : hm_M}  (v1 : Int32) (v2 : Int32) (v3 : Int32) (v4 : Int32) (v5 : Int32)  (μ : hm_M) (hL : hm_LL ν μ) (h : f_X10_tells v1 v2 v3 v4 v5 μ = some (r, μR)) : hm_CC (hm_LL ν) m_X10_tells fr 0 0 [.ref 179, .int v1, .int v2, .int v3, .int v4, .int v5] μ (some (.int r)) μR := by
  refine hm_enter (lv := [some (.ref 179), some (.int v1), some (.int v2), some (.int v3), some (.int v4), some (.int v5), none, none, none, none, none, none, none]) (by decide) rfl (Nat.le_of_ble_eq_true rfl) ?_
  unfold f_X10_tells at h
  refine tr_aload_n (pc' := 1) (show decode cX10_tells 0 = .ok (.aload_n 0, 1) by decide +kernel) rfl rfl rfl ?_
  refine tr_getR (pc' := 4) fl_HandRingModel_24 (show decode cX10_tells 1 = .ok (.getfield 24, 3) by decide +kernel) rfl (la_o hL (by decide) rfl) (la_r hL 118 rfl) ?_
  refine tr_bipush (pc' := 6) (v := (57 : Int32)) (show decode cX10_tells 4 = .ok (.bipush 57, 2) by decide +kernel) rfl (by decide) ?_
  obtain ⟨x2, ex2, h⟩ := hm_bs h
  refine tp_ldI (pc' := 7) (show decode cX10_tells 6 = .ok (.iaload, 1) by decide +kernel) rfl (la_a hL (by decide) rfl) ex2 ?_
  refine tr_iconst (pc' := 8) (v := (-1 : Int32)) (show decode cX10_tells 7 = .ok (.iconst (-1), 1) by decide +kernel) rfl (by decide) ?_
  rcases hm_is h with ⟨hc, h⟩ | ⟨hc, h⟩
  · refine tr_icmp_ne_f (tgt := 14) (pc' := 11) hc (show decode cX10_tells 8 = .ok (.if_icmp .ne 6, 3) by decide +kernel) (by decide) rfl ?_
    refine tr_iload (pc' := 13) (show decode cX10_tells 11 = .ok (.iload 5, 2) by decide +kernel) rfl rfl ?_
    cases h
    exact tr_iret rfl (show decode cX10_tells 13 = .ok (.ireturn, 1) by decide +kernel) hL
  · refine tr_icmp_ne_t (tgt := 14) hc (show decode cX10_tells 8 = .ok (.if_icmp .ne 6, 3) by decide +kernel) (by decide) ?_
    refine tr_aload_n (pc' := 15) (show decode cX10_tells 14 = .ok (.aload_n 0, 1) by decide +kernel) rfl rfl rfl ?_
    refine tr_iload_n (pc' := 16) (show decode cX10_tells 15 = .ok (.iload_n 2, 1) by decide +kernel) rfl rfl rfl ?_
    refine tr_iload_n (pc' := 17) (show decode cX10_tells 16 = .ok (.iload_n 3, 1) by decide +kernel) rfl rfl rfl ?_
    obtain ⟨μ4, ex3, h⟩ := hm_bs h
    have cx3 := ok_X10_setsAsked (fr := fr - 1) (ν := ν) (by omega) v2 v3 μ hL ex3
    refine tp_callV (pc' := 20) (As := [.int v2, .int v3]) (fr1 := fr - 1) (ci := 10) okm_X10_setsAsked lk_HandRingModel_337 (show decode cX10_tells 17 = .ok (.invokevirtual 337, 3) by decide +kernel) rfl rfl rfl (by decide) (la_o hL (by decide) rfl) rfl rfl (Nat.le_of_ble_eq_true rfl) (by omega) cx3 (st' := []) rfl ?_
    replace hL := cx3.1
    refine tr_aload_n (pc' := 21) (show decode cX10_tells 20 = .ok (.aload_n 0, 1) by decide +kernel) rfl rfl rfl ?_
    refine tr_iconst (pc' := 22) (v := (0 : Int32)) (show decode cX10_tells 21 = .ok (.iconst 0, 1) by decide +kernel) rfl (by decide) ?_
    obtain ⟨μ5, eμ5, h⟩ := hm_bs h
    refine tp_pZ (pc' := 25) fl_HandRingModel_304 (show decode cX10_tells 22 = .ok (.putfield 304, 3) by decide +kernel) rfl (la_o hL (by decide) rfl) eμ5 ?_
    replace hL := hL.same (hm_pZ_s eμ5)
    refine tr_iload (pc' := 27) (show decode cX10_tells 25 = .ok (.iload 5, 2) by decide +kernel) rfl rfl ?_
    refine tr_i2l (pc' := 28) (show decode cX10_tells 27 = .ok (.i2l, 1) by decide +kernel) rfl ?_
    refine tr_lstore (pc' := 30) (lv' := [some (.ref 179), some (.int v1), some (.int v2), some (.int v3), some (.int v4), some (.int v5), some (.long v5.toInt64), none, none, none, none, none, none]) (show decode cX10_tells 28 = .ok (.lstore 6, 2) by decide +kernel) rfl (Nat.le_of_ble_eq_true rfl) rfl rfl ?_
    refine tr_aload_n (pc' := 31) (show decode cX10_tells 30 = .ok (.aload_n 0, 1) by decide +kernel) rfl rfl rfl ?_
    refine tr_sipush (pc' := 34) (v := (400 : Int32)) (show decode cX10_tells 31 = .ok (.sipush 400, 3) by decide +kernel) rfl (by decide) ?_
    refine tr_aload_n (pc' := 35) (show decode cX10_tells 34 = .ok (.aload_n 0, 1) by decide +kernel) rfl rfl rfl ?_
    refine tr_getR (pc' := 38) fl_HandRingModel_24 (show decode cX10_tells 35 = .ok (.getfield 24, 3) by decide +kernel) rfl (la_o hL (by decide) rfl) (la_r hL 118 rfl) ?_
    refine tr_bipush (pc' := 40) (v := (57 : Int32)) (show decode cX10_tells 38 = .ok (.bipush 57, 2) by decide +kernel) rfl (by decide) ?_
    obtain ⟨x6, ex6, h⟩ := hm_bs h
    refine tp_ldI (pc' := 41) (show decode cX10_tells 40 = .ok (.iaload, 1) by decide +kernel) rfl (la_a hL (by decide) rfl) ex6 ?_
    refine tr_imul (pc' := 42) (show decode cX10_tells 41 = .ok (.imul, 1) by decide +kernel) rfl ?_
    obtain ⟨μ7, eμ7, h⟩ := hm_bs h
    refine tp_pI (pc' := 45) fl_HandRingModel_274 (show decode cX10_tells 42 = .ok (.putfield 274, 3) by decide +kernel) rfl (la_o hL (by decide) rfl) eμ7 ?_
    replace hL := hL.same (hm_pI_s eμ7)
    refine tr_aload_n (pc' := 46) (show decode cX10_tells 45 = .ok (.aload_n 0, 1) by decide +kernel) rfl rfl rfl ?_
    refine tr_aload_n (pc' := 47) (show decode cX10_tells 46 = .ok (.aload_n 0, 1) by decide +kernel) rfl rfl rfl ?_
    refine tr_getI (pc' := 50) fl_HandRingModel_274 (show decode cX10_tells 47 = .ok (.getfield 274, 3) by decide +kernel) rfl (la_o hL (by decide) rfl) ?_
    refine tr_aload_n (pc' := 51) (show decode cX10_tells 50 = .ok (.aload_n 0, 1) by decide +kernel) rfl rfl rfl ?_
    refine tr_getR (pc' := 54) fl_HandRingModel_24 (show decode cX10_tells 51 = .ok (.getfield 24, 3) by decide +kernel) rfl (la_o hL (by decide) rfl) (la_r hL 118 rfl) ?_
    refine tr_bipush (pc' := 56) (v := (58 : Int32)) (show decode cX10_tells 54 = .ok (.bipush 58, 2) by decide +kernel) rfl (by decide) ?_
    refine tr_aload_n (pc' := 57) (show decode cX10_tells 56 = .ok (.aload_n 0, 1) by decide +kernel) rfl rfl rfl ?_
    refine tr_getR (pc' := 60) fl_HandRingModel_24 (show decode cX10_tells 57 = .ok (.getfield 24, 3) by decide +kernel) rfl (la_o hL (by decide) rfl) (la_r hL 118 rfl) ?_
    refine tr_bipush (pc' := 62) (v := (57 : Int32)) (show decode cX10_tells 60 = .ok (.bipush 57, 2) by decide +kernel) rfl (by decide) ?_
    obtain ⟨x8, ex8, h⟩ := hm_bs h
    refine tp_ldI (pc' := 63) (show decode cX10_tells 62 = .ok (.iaload, 1) by decide +kernel) rfl (la_a hL (by decide) rfl) ex8 ?_
    refine tr_iadd (pc' := 64) (show decode cX10_tells 63 = .ok (.iadd, 1) by decide +kernel) rfl ?_
    obtain ⟨x9, ex9, h⟩ := hm_bs h
    refine tp_ldI (pc' := 65) (show decode cX10_tells 64 = .ok (.iaload, 1) by decide +kernel) rfl (la_a hL (by decide) rfl) ex9 ?_
    refine tr_iadd (pc' := 66) (show decode cX10_tells 65 = .ok (.iadd, 1) by decide +kernel) rfl ?_
    obtain ⟨μ10, eμ10, h⟩ := hm_bs h
    refine tp_pI (pc' := 69) fl_HandRingModel_271 (show decode cX10_tells 66 = .ok (.putfield 271, 3) by decide +kernel) rfl (la_o hL (by decide) rfl) eμ10 ?_
    replace hL := hL.same (hm_pI_s eμ10)
    refine hm_fgt [true, true, false, false, true, false, true, false, false, false, false, false, false] (lv' := [some (.ref 179), some (.int v1), none, none, some (.int v4), none, some (.long v5.toInt64), none, none, none, none, none, none]) rfl ?_
    refine ok_X10_tells_L69 hfr _ _ _ _ _ _ ?_ _ v5.toInt64 μ10 hL h
    · intro z22_6 μz22 hL h
      refine tr_lload (pc' := 224) (show decode cX10_tells 222 = .ok (.lload 6, 2) by decide +kernel) rfl rfl ?_
      refine tr_l2i (pc' := 225) (show decode cX10_tells 224 = .ok (.l2i, 1) by decide +kernel) rfl ?_
      cases h
      exact tr_iret rfl (show decode cX10_tells 225 = .ok (.ireturn, 1) by decide +kernel) hL
def f_X10_isBarred (v1 : Int32) (v2 : Int32) (μ : hm_M) : Option (Int32 × hm_M) :=
  Option.bind (f_X10_lesser v1 v2) fun x2 =>
  Option.bind (f_X10_greater v1 v2) fun x3 =>
  hm_b2 (f_X10_tells (3 : Int32) x2 x3 (1 : Int32) (0 : Int32) μ) fun x4 μ5 =>
  (if x4 = (1 : Int32) then
  some ((1 : Int32), μ5)
  else
  some ((0 : Int32), μ5))
set_option maxRecDepth 100000 in
theorem ok_X10_isBarred {fr : Nat} (hfr : 88 ≤ fr) {ν : hm_N} {r : Int32} {μR : hm_M}  (v1 : Int32) (v2 : Int32)  (μ : hm_M) (hL : hm_LL ν μ) (h : f_X10_isBarred v1 v2 μ = some (r, μR)) : hm_CC (hm_LL ν) m_X10_isBarred fr 0 0 [.ref 179, .int v1, .int v2] μ (some (.int r)) μR := by
  refine hm_enter (lv := [some (.ref 179), some (.int v1), some (.int v2)]) (by decide) rfl (Nat.le_of_ble_eq_true rfl) ?_
  unfold f_X10_isBarred at h
  refine tr_aload_n (pc' := 1) (show decode cX10_isBarred 0 = .ok (.aload_n 0, 1) by decide +kernel) rfl rfl rfl ?_
  refine tr_iconst (pc' := 2) (v := (3 : Int32)) (show decode cX10_isBarred 1 = .ok (.iconst 3, 1) by decide +kernel) rfl (by decide) ?_
  refine tr_iload_n (pc' := 3) (show decode cX10_isBarred 2 = .ok (.iload_n 1, 1) by decide +kernel) rfl rfl rfl ?_
  refine tr_iload_n (pc' := 4) (show decode cX10_isBarred 3 = .ok (.iload_n 2, 1) by decide +kernel) rfl rfl rfl ?_
  obtain ⟨x2, ex2, h⟩ := hm_bs h
  have cx2 := ok_X10_lesser (fr := fr - 1) (ν := ν) (by omega) v1 v2 μ hL ex2
  refine tp_callS (pc' := 7) (As := [.int v1, .int v2]) (fr1 := fr - 1) okm_X10_lesser lk_HandRingModel_340 (show decode cX10_isBarred 4 = .ok (.invokestatic 340, 3) by decide +kernel) rfl rfl rfl (Nat.le_of_ble_eq_true rfl) (by omega) cx2 (st' := [.int x2, .int (3 : Int32), .ref 179]) rfl ?_
  refine tr_iload_n (pc' := 8) (show decode cX10_isBarred 7 = .ok (.iload_n 1, 1) by decide +kernel) rfl rfl rfl ?_
  refine tr_iload_n (pc' := 9) (show decode cX10_isBarred 8 = .ok (.iload_n 2, 1) by decide +kernel) rfl rfl rfl ?_
  obtain ⟨x3, ex3, h⟩ := hm_bs h
  have cx3 := ok_X10_greater (fr := fr - 1) (ν := ν) (by omega) v1 v2 μ hL ex3
  refine tp_callS (pc' := 12) (As := [.int v1, .int v2]) (fr1 := fr - 1) okm_X10_greater lk_HandRingModel_343 (show decode cX10_isBarred 9 = .ok (.invokestatic 343, 3) by decide +kernel) rfl rfl rfl (Nat.le_of_ble_eq_true rfl) (by omega) cx3 (st' := [.int x3, .int x2, .int (3 : Int32), .ref 179]) rfl ?_
  refine tr_iconst (pc' := 13) (v := (1 : Int32)) (show decode cX10_isBarred 12 = .ok (.iconst 1, 1) by decide +kernel) rfl (by decide) ?_
  refine tr_iconst (pc' := 14) (v := (0 : Int32)) (show decode cX10_isBarred 13 = .ok (.iconst 0, 1) by decide +kernel) rfl (by decide) ?_
  obtain ⟨x4, μ5, ex4, h⟩ := hm_b2s h
  have cx4 := ok_X10_tells (fr := fr - 1) (ν := ν) (by omega) (3 : Int32) x2 x3 (1 : Int32) (0 : Int32) μ hL ex4
  refine tp_callV (pc' := 17) (As := [.int (3 : Int32), .int x2, .int x3, .int (1 : Int32), .int (0 : Int32)]) (fr1 := fr - 1) (ci := 10) okm_X10_tells lk_HandRingModel_346 (show decode cX10_isBarred 14 = .ok (.invokevirtual 346, 3) by decide +kernel) rfl rfl rfl (by decide) (la_o hL (by decide) rfl) rfl rfl (Nat.le_of_ble_eq_true rfl) (by omega) cx4 (st' := [.int x4]) rfl ?_
  replace hL := cx4.1
  refine tr_iconst (pc' := 18) (v := (1 : Int32)) (show decode cX10_isBarred 17 = .ok (.iconst 1, 1) by decide +kernel) rfl (by decide) ?_
  rcases hm_is h with ⟨hc, h⟩ | ⟨hc, h⟩
  · refine tr_icmp_ne_f (tgt := 25) (pc' := 21) hc (show decode cX10_isBarred 18 = .ok (.if_icmp .ne 7, 3) by decide +kernel) (by decide) rfl ?_
    refine tr_iconst (pc' := 22) (v := (1 : Int32)) (show decode cX10_isBarred 21 = .ok (.iconst 1, 1) by decide +kernel) rfl (by decide) ?_
    refine tr_goto (tgt := 26) (show decode cX10_isBarred 22 = .ok (.goto 4, 3) by decide +kernel) rfl ?_
    cases h
    exact tr_zret rfl (by decide) (show decode cX10_isBarred 26 = .ok (.ireturn, 1) by decide +kernel) hL
  · refine tr_icmp_ne_t (tgt := 25) hc (show decode cX10_isBarred 18 = .ok (.if_icmp .ne 7, 3) by decide +kernel) (by decide) ?_
    refine tr_iconst (pc' := 26) (v := (0 : Int32)) (show decode cX10_isBarred 25 = .ok (.iconst 0, 1) by decide +kernel) rfl (by decide) ?_
    cases h
    exact tr_zret rfl (by decide) (show decode cX10_isBarred 26 = .ok (.ireturn, 1) by decide +kernel) hL
def f_X10_canHold (v1 : Int32) (v2 : Int32) (μ : hm_M) : Option (Int32 × hm_M) :=
  Option.bind (f_X10_areNear v1 v2 μ) fun x2 =>
  (if x2 = 0 then
  some ((0 : Int32), μ)
  else
  hm_b2 (f_X10_isBarred v1 v2 μ) fun x3 μ4 =>
  (if x3 = 0 then
  some ((1 : Int32), μ4)
  else
  some ((0 : Int32), μ4)))
set_option maxRecDepth 100000 in
theorem ok_X10_canHold {fr : Nat} (hfr : 89 ≤ fr) {ν : hm_N} {r : Int32} {μR : hm_M}  (v1 : Int32) (v2 : Int32)  (μ : hm_M) (hL : hm_LL ν μ) (h : f_X10_canHold v1 v2 μ = some (r, μR)) : hm_CC (hm_LL ν) m_X10_canHold fr 0 0 [.ref 179, .int v1, .int v2] μ (some (.int r)) μR := by
  refine hm_enter (lv := [some (.ref 179), some (.int v1), some (.int v2)]) (by decide) rfl (Nat.le_of_ble_eq_true rfl) ?_
  unfold f_X10_canHold at h
  refine tr_aload_n (pc' := 1) (show decode cX10_canHold 0 = .ok (.aload_n 0, 1) by decide +kernel) rfl rfl rfl ?_
  refine tr_iload_n (pc' := 2) (show decode cX10_canHold 1 = .ok (.iload_n 1, 1) by decide +kernel) rfl rfl rfl ?_
  refine tr_iload_n (pc' := 3) (show decode cX10_canHold 2 = .ok (.iload_n 2, 1) by decide +kernel) rfl rfl rfl ?_
  obtain ⟨x2, ex2, h⟩ := hm_bs h
  have cx2 := ok_X10_areNear (fr := fr - 1) (ν := ν) (by omega) v1 v2 μ hL ex2
  refine tp_callV (pc' := 6) (As := [.int v1, .int v2]) (fr1 := fr - 1) (ci := 10) okm_X10_areNear lk_HandRingModel_350 (show decode cX10_canHold 3 = .ok (.invokevirtual 350, 3) by decide +kernel) rfl rfl rfl (by decide) (la_o hL (by decide) rfl) rfl rfl (Nat.le_of_ble_eq_true rfl) (by omega) cx2 (st' := [.int x2]) rfl ?_
  rcases hm_is h with ⟨hc, h⟩ | ⟨hc, h⟩
  · refine tr_if_eq_t (tgt := 22) hc (show decode cX10_canHold 6 = .ok (.ifCond .eq 16, 3) by decide +kernel) (by decide) ?_
    refine tr_iconst (pc' := 23) (v := (0 : Int32)) (show decode cX10_canHold 22 = .ok (.iconst 0, 1) by decide +kernel) rfl (by decide) ?_
    cases h
    exact tr_zret rfl (by decide) (show decode cX10_canHold 23 = .ok (.ireturn, 1) by decide +kernel) hL
  · refine tr_if_eq_f (tgt := 22) (pc' := 9) hc (show decode cX10_canHold 6 = .ok (.ifCond .eq 16, 3) by decide +kernel) (by decide) rfl ?_
    refine tr_aload_n (pc' := 10) (show decode cX10_canHold 9 = .ok (.aload_n 0, 1) by decide +kernel) rfl rfl rfl ?_
    refine tr_iload_n (pc' := 11) (show decode cX10_canHold 10 = .ok (.iload_n 1, 1) by decide +kernel) rfl rfl rfl ?_
    refine tr_iload_n (pc' := 12) (show decode cX10_canHold 11 = .ok (.iload_n 2, 1) by decide +kernel) rfl rfl rfl ?_
    obtain ⟨x3, μ4, ex3, h⟩ := hm_b2s h
    have cx3 := ok_X10_isBarred (fr := fr - 1) (ν := ν) (by omega) v1 v2 μ hL ex3
    refine tp_callV (pc' := 15) (As := [.int v1, .int v2]) (fr1 := fr - 1) (ci := 10) okm_X10_isBarred lk_HandRingModel_153 (show decode cX10_canHold 12 = .ok (.invokevirtual 153, 3) by decide +kernel) rfl rfl rfl (by decide) (la_o hL (by decide) rfl) rfl rfl (Nat.le_of_ble_eq_true rfl) (by omega) cx3 (st' := [.int x3]) rfl ?_
    replace hL := cx3.1
    rcases hm_is h with ⟨hc, h⟩ | ⟨hc, h⟩
    · refine tr_if_ne_f (tgt := 22) (pc' := 18) hc (show decode cX10_canHold 15 = .ok (.ifCond .ne 7, 3) by decide +kernel) (by decide) rfl ?_
      refine tr_iconst (pc' := 19) (v := (1 : Int32)) (show decode cX10_canHold 18 = .ok (.iconst 1, 1) by decide +kernel) rfl (by decide) ?_
      refine tr_goto (tgt := 23) (show decode cX10_canHold 19 = .ok (.goto 4, 3) by decide +kernel) rfl ?_
      cases h
      exact tr_zret rfl (by decide) (show decode cX10_canHold 23 = .ok (.ireturn, 1) by decide +kernel) hL
    · refine tr_if_ne_t (tgt := 22) hc (show decode cX10_canHold 15 = .ok (.ifCond .ne 7, 3) by decide +kernel) (by decide) ?_
      refine tr_iconst (pc' := 23) (v := (0 : Int32)) (show decode cX10_canHold 22 = .ok (.iconst 0, 1) by decide +kernel) rfl (by decide) ?_
      cases h
      exact tr_zret rfl (by decide) (show decode cX10_canHold 23 = .ok (.ireturn, 1) by decide +kernel) hL
def f_X10_whoCan_J34 (v1 : Int32) (c4 : Int32 → Int32 → hm_M → Option (Int32 × hm_M)) (e42 : Int32 → hm_M → Option (Int32 × hm_M)) (s0 : Int32) (s1 : Int32) (y3 : Int32) (μ1 : hm_M) : Option (Int32 × hm_M) :=
  c4 (s1 ||| s0) (y3 + (1 : Int32)) μ1
theorem ok_X10_whoCan_J34 {fr : Nat} (hfr : 90 ≤ fr) {ν : hm_N} {r : Int32} {μR : hm_M}  (v1 : Int32) (c4 : Int32 → Int32 → hm_M → Option (Int32 × hm_M)) (e42 : Int32 → hm_M → Option (Int32 × hm_M)) (hc4 : ∀ (y2 : Int32) (y3 : Int32)  (μ1 : hm_M), hm_LL ν μ1 → c4 y2 y3 μ1 = some (r, μR) → hm_T (hm_LL ν) m_X10_whoCan fr 0 0 (some (.int r)) μR 4 [some (.ref 179), some (.int v1), some (.int y2), some (.int y3)] [] μ1) (he42 : ∀ (y2 : Int32)  (μ1 : hm_M), hm_LL ν μ1 → e42 y2 μ1 = some (r, μR) → hm_T (hm_LL ν) m_X10_whoCan fr 0 0 (some (.int r)) μR 42 [none, none, some (.int y2), none] [] μ1)  (s0 : Int32) (s1 : Int32) (y3 : Int32) (μ1 : hm_M) (hL : hm_LL ν μ1) (h : f_X10_whoCan_J34 v1 c4 e42 s0 s1 y3 μ1 = some (r, μR)) : hm_T (hm_LL ν) m_X10_whoCan fr 0 0 (some (.int r)) μR 34 [some (.ref 179), some (.int v1), none, some (.int y3)] [.int s0, .int s1] μ1 := by
  unfold f_X10_whoCan_J34 at h
  refine tr_ior (pc' := 35) (show decode cX10_whoCan 34 = .ok (.ior, 1) by decide +kernel) rfl ?_
  refine tr_istore_n (pc' := 36) (lv' := [some (.ref 179), some (.int v1), some (.int (s1 ||| s0)), some (.int y3)]) (show decode cX10_whoCan 35 = .ok (.istore_n 2, 1) by decide +kernel) rfl rfl (Nat.le_of_ble_eq_true rfl) rfl rfl ?_
  refine tr_iinc (pc' := 39) (v := y3 + (1 : Int32)) (lv' := [some (.ref 179), some (.int v1), some (.int (s1 ||| s0)), some (.int (y3 + (1 : Int32)))]) (show decode cX10_whoCan 36 = .ok (.iinc 3 1, 3) by decide +kernel) rfl rfl rfl (Nat.le_of_ble_eq_true rfl) rfl rfl ?_
  refine tr_goto (tgt := 4) (show decode cX10_whoCan 39 = .ok (.goto (-35), 3) by decide +kernel) rfl ?_
  exact hc4 (s1 ||| s0) (y3 + (1 : Int32)) μ1 hL h
def f_X10_whoCan_J33 (v1 : Int32) (c4 : Int32 → Int32 → hm_M → Option (Int32 × hm_M)) (e42 : Int32 → hm_M → Option (Int32 × hm_M)) (s0 : Int32) (y3 : Int32) (μ1 : hm_M) : Option (Int32 × hm_M) :=
  f_X10_whoCan_J34 v1 c4 e42 (0 : Int32) s0 y3 μ1
theorem ok_X10_whoCan_J33 {fr : Nat} (hfr : 90 ≤ fr) {ν : hm_N} {r : Int32} {μR : hm_M}  (v1 : Int32) (c4 : Int32 → Int32 → hm_M → Option (Int32 × hm_M)) (e42 : Int32 → hm_M → Option (Int32 × hm_M)) (hc4 : ∀ (y2 : Int32) (y3 : Int32)  (μ1 : hm_M), hm_LL ν μ1 → c4 y2 y3 μ1 = some (r, μR) → hm_T (hm_LL ν) m_X10_whoCan fr 0 0 (some (.int r)) μR 4 [some (.ref 179), some (.int v1), some (.int y2), some (.int y3)] [] μ1) (he42 : ∀ (y2 : Int32)  (μ1 : hm_M), hm_LL ν μ1 → e42 y2 μ1 = some (r, μR) → hm_T (hm_LL ν) m_X10_whoCan fr 0 0 (some (.int r)) μR 42 [none, none, some (.int y2), none] [] μ1)  (s0 : Int32) (y3 : Int32) (μ1 : hm_M) (hL : hm_LL ν μ1) (h : f_X10_whoCan_J33 v1 c4 e42 s0 y3 μ1 = some (r, μR)) : hm_T (hm_LL ν) m_X10_whoCan fr 0 0 (some (.int r)) μR 33 [some (.ref 179), some (.int v1), none, some (.int y3)] [.int s0] μ1 := by
  unfold f_X10_whoCan_J33 at h
  refine tr_iconst (pc' := 34) (v := (0 : Int32)) (show decode cX10_whoCan 33 = .ok (.iconst 0, 1) by decide +kernel) rfl (by decide) ?_
  exact ok_X10_whoCan_J34 hfr _ c4 e42 hc4 he42 (0 : Int32) s0 y3 μ1 hL h
def f_X10_whoCan_L4 (v1 : Int32) (e42 : Int32 → hm_M → Option (Int32 × hm_M)) : Nat → Int32 → Int32 → hm_M → Option (Int32 × hm_M)
  | 0, _, _, _ => none
  | n + 1, y2, y3, μ1 => Option.bind (f_X10_many μ1) fun x2 =>
  (if x2 ≤ y3 then
  e42 y2 μ1
  else
  (if y3 = v1 then
  f_X10_whoCan_J33 v1 (f_X10_whoCan_L4 v1 e42 n) e42 y2 y3 μ1
  else
  hm_b2 (f_X10_canHold v1 y3 μ1) fun x3 μ4 =>
  (if x3 = 0 then
  f_X10_whoCan_J33 v1 (f_X10_whoCan_L4 v1 e42 n) e42 y2 y3 μ4
  else
  f_X10_whoCan_J34 v1 (f_X10_whoCan_L4 v1 e42 n) e42 ((1 : Int32) <<< (y3 &&& 31)) y2 y3 μ4)))
theorem ok_X10_whoCan_L4 {fr : Nat} (hfr : 90 ≤ fr) {ν : hm_N} {r : Int32} {μR : hm_M}  (v1 : Int32) (e42 : Int32 → hm_M → Option (Int32 × hm_M))  (he42 : ∀ (y2 : Int32)  (μ1 : hm_M), hm_LL ν μ1 → e42 y2 μ1 = some (r, μR) → hm_T (hm_LL ν) m_X10_whoCan fr 0 0 (some (.int r)) μR 42 [none, none, some (.int y2), none] [] μ1)  : ∀ (n : Nat) (y2 : Int32) (y3 : Int32)  (μ1 : hm_M), hm_LL ν μ1 → f_X10_whoCan_L4 v1 e42 n y2 y3 μ1 = some (r, μR) → hm_T (hm_LL ν) m_X10_whoCan fr 0 0 (some (.int r)) μR 4 [some (.ref 179), some (.int v1), some (.int y2), some (.int y3)] [] μ1 := by
  intro n
  induction n with
  | zero =>
    intro y2 y3 μ1 hL h
    unfold f_X10_whoCan_L4 at h
    cases h
  | succ n ih =>
    intro y2 y3 μ1 hL h
    unfold f_X10_whoCan_L4 at h
    refine tr_iload_n (pc' := 5) (show decode cX10_whoCan 4 = .ok (.iload_n 3, 1) by decide +kernel) rfl rfl rfl ?_
    refine tr_aload_n (pc' := 6) (show decode cX10_whoCan 5 = .ok (.aload_n 0, 1) by decide +kernel) rfl rfl rfl ?_
    obtain ⟨x2, ex2, h⟩ := hm_bs h
    have cx2 := ok_X10_many (fr := fr - 1) (ν := ν) (by omega) μ1 hL ex2
    refine tp_callV (pc' := 9) (As := []) (fr1 := fr - 1) (ci := 10) okm_X10_many lk_HandRingModel_118 (show decode cX10_whoCan 6 = .ok (.invokevirtual 118, 3) by decide +kernel) rfl rfl rfl (by decide) (la_o hL (by decide) rfl) rfl rfl (Nat.le_of_ble_eq_true rfl) (by omega) cx2 (st' := [.int x2, .int y3]) rfl ?_
    rcases hm_is h with ⟨hc, h⟩ | ⟨hc, h⟩
    · refine tr_icmp_ge_t (tgt := 42) hc (show decode cX10_whoCan 9 = .ok (.if_icmp .ge 33, 3) by decide +kernel) (by decide) ?_
      refine hm_fgt [false, false, true, false] (lv' := [none, none, some (.int y2), none]) rfl ?_
      exact he42 y2 μ1 hL h
    · refine tr_icmp_ge_f (tgt := 42) (pc' := 12) hc (show decode cX10_whoCan 9 = .ok (.if_icmp .ge 33, 3) by decide +kernel) (by decide) rfl ?_
      refine tr_iload_n (pc' := 13) (show decode cX10_whoCan 12 = .ok (.iload_n 2, 1) by decide +kernel) rfl rfl rfl ?_
      refine tr_iload_n (pc' := 14) (show decode cX10_whoCan 13 = .ok (.iload_n 3, 1) by decide +kernel) rfl rfl rfl ?_
      refine tr_iload_n (pc' := 15) (show decode cX10_whoCan 14 = .ok (.iload_n 1, 1) by decide +kernel) rfl rfl rfl ?_
      rcases hm_is h with ⟨hc, h⟩ | ⟨hc, h⟩
      · refine tr_icmp_eq_t (tgt := 33) hc (show decode cX10_whoCan 15 = .ok (.if_icmp .eq 18, 3) by decide +kernel) (by decide) ?_
        refine hm_fgt [true, true, false, true] (lv' := [some (.ref 179), some (.int v1), none, some (.int y3)]) rfl ?_
        exact ok_X10_whoCan_J33 hfr _ (f_X10_whoCan_L4 v1 e42 n) e42 ih he42 y2 y3 μ1 hL h
      · refine tr_icmp_eq_f (tgt := 33) (pc' := 18) hc (show decode cX10_whoCan 15 = .ok (.if_icmp .eq 18, 3) by decide +kernel) (by decide) rfl ?_
        refine tr_aload_n (pc' := 19) (show decode cX10_whoCan 18 = .ok (.aload_n 0, 1) by decide +kernel) rfl rfl rfl ?_
        refine tr_iload_n (pc' := 20) (show decode cX10_whoCan 19 = .ok (.iload_n 1, 1) by decide +kernel) rfl rfl rfl ?_
        refine tr_iload_n (pc' := 21) (show decode cX10_whoCan 20 = .ok (.iload_n 3, 1) by decide +kernel) rfl rfl rfl ?_
        obtain ⟨x3, μ4, ex3, h⟩ := hm_b2s h
        have cx3 := ok_X10_canHold (fr := fr - 1) (ν := ν) (by omega) v1 y3 μ1 hL ex3
        refine tp_callV (pc' := 24) (As := [.int v1, .int y3]) (fr1 := fr - 1) (ci := 10) okm_X10_canHold lk_HandRingModel_353 (show decode cX10_whoCan 21 = .ok (.invokevirtual 353, 3) by decide +kernel) rfl rfl rfl (by decide) (la_o hL (by decide) rfl) rfl rfl (Nat.le_of_ble_eq_true rfl) (by omega) cx3 (st' := [.int x3, .int y2]) rfl ?_
        replace hL := cx3.1
        rcases hm_is h with ⟨hc, h⟩ | ⟨hc, h⟩
        · refine tr_if_eq_t (tgt := 33) hc (show decode cX10_whoCan 24 = .ok (.ifCond .eq 9, 3) by decide +kernel) (by decide) ?_
          refine hm_fgt [true, true, false, true] (lv' := [some (.ref 179), some (.int v1), none, some (.int y3)]) rfl ?_
          exact ok_X10_whoCan_J33 hfr _ (f_X10_whoCan_L4 v1 e42 n) e42 ih he42 y2 y3 μ4 hL h
        · refine tr_if_eq_f (tgt := 33) (pc' := 27) hc (show decode cX10_whoCan 24 = .ok (.ifCond .eq 9, 3) by decide +kernel) (by decide) rfl ?_
          refine tr_iconst (pc' := 28) (v := (1 : Int32)) (show decode cX10_whoCan 27 = .ok (.iconst 1, 1) by decide +kernel) rfl (by decide) ?_
          refine tr_iload_n (pc' := 29) (show decode cX10_whoCan 28 = .ok (.iload_n 3, 1) by decide +kernel) rfl rfl rfl ?_
          refine tr_ishl (pc' := 30) (show decode cX10_whoCan 29 = .ok (.ishl, 1) by decide +kernel) rfl ?_
          refine tr_goto (tgt := 34) (show decode cX10_whoCan 30 = .ok (.goto 4, 3) by decide +kernel) rfl ?_
          refine hm_fgt [true, true, false, true] (lv' := [some (.ref 179), some (.int v1), none, some (.int y3)]) rfl ?_
          exact ok_X10_whoCan_J34 hfr _ (f_X10_whoCan_L4 v1 e42 n) e42 ih he42 ((1 : Int32) <<< (y3 &&& 31)) y2 y3 μ4 hL h
def f_X10_whoCan (v1 : Int32) (μ : hm_M) : Option (Int32 × hm_M) :=
  f_X10_whoCan_L4 v1 (fun z5_2 μz5 => some (z5_2, μz5)) hm_fu (0 : Int32) (0 : Int32) μ
set_option maxRecDepth 100000 in
theorem ok_X10_whoCan {fr : Nat} (hfr : 90 ≤ fr) {ν : hm_N} {r : Int32} {μR : hm_M}  (v1 : Int32)  (μ : hm_M) (hL : hm_LL ν μ) (h : f_X10_whoCan v1 μ = some (r, μR)) : hm_CC (hm_LL ν) m_X10_whoCan fr 0 0 [.ref 179, .int v1] μ (some (.int r)) μR := by
  refine hm_enter (lv := [some (.ref 179), some (.int v1), none, none]) (by decide) rfl (Nat.le_of_ble_eq_true rfl) ?_
  unfold f_X10_whoCan at h
  refine tr_iconst (pc' := 1) (v := (0 : Int32)) (show decode cX10_whoCan 0 = .ok (.iconst 0, 1) by decide +kernel) rfl (by decide) ?_
  refine tr_istore_n (pc' := 2) (lv' := [some (.ref 179), some (.int v1), some (.int (0 : Int32)), none]) (show decode cX10_whoCan 1 = .ok (.istore_n 2, 1) by decide +kernel) rfl rfl (Nat.le_of_ble_eq_true rfl) rfl rfl ?_
  refine tr_iconst (pc' := 3) (v := (0 : Int32)) (show decode cX10_whoCan 2 = .ok (.iconst 0, 1) by decide +kernel) rfl (by decide) ?_
  refine tr_istore_n (pc' := 4) (lv' := [some (.ref 179), some (.int v1), some (.int (0 : Int32)), some (.int (0 : Int32))]) (show decode cX10_whoCan 3 = .ok (.istore_n 3, 1) by decide +kernel) rfl rfl (Nat.le_of_ble_eq_true rfl) rfl rfl ?_
  refine ok_X10_whoCan_L4 hfr _ _ ?_ _ (0 : Int32) (0 : Int32) μ hL h
  · intro z5_2 μz5 hL h
    refine tr_iload_n (pc' := 43) (show decode cX10_whoCan 42 = .ok (.iload_n 2, 1) by decide +kernel) rfl rfl rfl ?_
    cases h
    exact tr_iret rfl (show decode cX10_whoCan 43 = .ok (.ireturn, 1) by decide +kernel) hL
def f_X10_tiresBy (v1 : Int32) (μ : hm_M) : Option (Int32 × hm_M) :=
  hm_b2 (f_X10_tells (2 : Int32) v1 (-1 : Int32) (4 : Int32) (0 : Int32) μ) fun x2 μ3 =>
  some (x2, μ3)
set_option maxRecDepth 100000 in
theorem ok_X10_tiresBy {fr : Nat} (hfr : 88 ≤ fr) {ν : hm_N} {r : Int32} {μR : hm_M}  (v1 : Int32)  (μ : hm_M) (hL : hm_LL ν μ) (h : f_X10_tiresBy v1 μ = some (r, μR)) : hm_CC (hm_LL ν) m_X10_tiresBy fr 0 0 [.ref 179, .int v1] μ (some (.int r)) μR := by
  refine hm_enter (lv := [some (.ref 179), some (.int v1)]) (by decide) rfl (Nat.le_of_ble_eq_true rfl) ?_
  unfold f_X10_tiresBy at h
  refine tr_aload_n (pc' := 1) (show decode cX10_tiresBy 0 = .ok (.aload_n 0, 1) by decide +kernel) rfl rfl rfl ?_
  refine tr_iconst (pc' := 2) (v := (2 : Int32)) (show decode cX10_tiresBy 1 = .ok (.iconst 2, 1) by decide +kernel) rfl (by decide) ?_
  refine tr_iload_n (pc' := 3) (show decode cX10_tiresBy 2 = .ok (.iload_n 1, 1) by decide +kernel) rfl rfl rfl ?_
  refine tr_iconst (pc' := 4) (v := (-1 : Int32)) (show decode cX10_tiresBy 3 = .ok (.iconst (-1), 1) by decide +kernel) rfl (by decide) ?_
  refine tr_iconst (pc' := 5) (v := (4 : Int32)) (show decode cX10_tiresBy 4 = .ok (.iconst 4, 1) by decide +kernel) rfl (by decide) ?_
  refine tr_iconst (pc' := 6) (v := (0 : Int32)) (show decode cX10_tiresBy 5 = .ok (.iconst 0, 1) by decide +kernel) rfl (by decide) ?_
  obtain ⟨x2, μ3, ex2, h⟩ := hm_b2s h
  have cx2 := ok_X10_tells (fr := fr - 1) (ν := ν) (by omega) (2 : Int32) v1 (-1 : Int32) (4 : Int32) (0 : Int32) μ hL ex2
  refine tp_callV (pc' := 9) (As := [.int (2 : Int32), .int v1, .int (-1 : Int32), .int (4 : Int32), .int (0 : Int32)]) (fr1 := fr - 1) (ci := 10) okm_X10_tells lk_HandRingModel_346 (show decode cX10_tiresBy 6 = .ok (.invokevirtual 346, 3) by decide +kernel) rfl rfl rfl (by decide) (la_o hL (by decide) rfl) rfl rfl (Nat.le_of_ble_eq_true rfl) (by omega) cx2 (st' := [.int x2]) rfl ?_
  replace hL := cx2.1
  cases h
  exact tr_iret rfl (show decode cX10_tiresBy 9 = .ok (.ireturn, 1) by decide +kernel) hL
def f_X10_of (v1 : Int32) (v2 : Int32) (μ : hm_M) : Option (Int32 × hm_M) :=
  Option.bind (f_X10_isPerson v1 μ) fun x2 =>
  (if x2 = 0 then
  some ((-1 : Int32), μ)
  else
  (if v2 < (0 : Int32) ∨ (5 : Int32) < v2 then
  some ((-1 : Int32), μ)
  else
  (if v2 = (0 : Int32) then
  Option.bind (hm_ld μ 181 5665 ((0 : Int32) + v1)) fun x10 =>
  some (x10, μ)
  else
  (if v2 = (1 : Int32) then
  Option.bind (hm_ld μ 181 5665 ((8 : Int32) + v1)) fun x9 =>
  some (x9, μ)
  else
  (if v2 = (2 : Int32) then
  Option.bind (hm_ld μ 181 5665 ((25 : Int32) + v1)) fun x8 =>
  some (x8, μ)
  else
  (if v2 = (3 : Int32) then
  Option.bind (hm_ld μ 181 5665 ((16 : Int32) + v1)) fun x7 =>
  some (x7, μ)
  else
  (if v2 = (4 : Int32) then
  hm_b2 (f_X10_whoCan v1 μ) fun x5 μ6 =>
  some (x5, μ6)
  else
  (if v2 = (5 : Int32) then
  hm_b2 (f_X10_tiresBy v1 μ) fun x3 μ4 =>
  some (x3, μ4)
  else
  none))))))))
set_option maxRecDepth 100000 in
theorem ok_X10_of {fr : Nat} (hfr : 91 ≤ fr) {ν : hm_N} {r : Int32} {μR : hm_M}  (v1 : Int32) (v2 : Int32)  (μ : hm_M) (hL : hm_LL ν μ) (h : f_X10_of v1 v2 μ = some (r, μR)) : hm_CC (hm_LL ν) m_X10_of fr 0 0 [.ref 179, .int v1, .int v2] μ (some (.int r)) μR := by
  refine hm_enter (lv := [some (.ref 179), some (.int v1), some (.int v2)]) (by decide) rfl (Nat.le_of_ble_eq_true rfl) ?_
  unfold f_X10_of at h
  refine tr_aload_n (pc' := 1) (show decode cX10_of 0 = .ok (.aload_n 0, 1) by decide +kernel) rfl rfl rfl ?_
  refine tr_iload_n (pc' := 2) (show decode cX10_of 1 = .ok (.iload_n 1, 1) by decide +kernel) rfl rfl rfl ?_
  obtain ⟨x2, ex2, h⟩ := hm_bs h
  have cx2 := ok_X10_isPerson (fr := fr - 1) (ν := ν) (by omega) v1 μ hL ex2
  refine tp_callV (pc' := 5) (As := [.int v1]) (fr1 := fr - 1) (ci := 10) okm_X10_isPerson lk_HandRingModel_122 (show decode cX10_of 2 = .ok (.invokevirtual 122, 3) by decide +kernel) rfl rfl rfl (by decide) (la_o hL (by decide) rfl) rfl rfl (Nat.le_of_ble_eq_true rfl) (by omega) cx2 (st' := [.int x2]) rfl ?_
  rcases hm_is h with ⟨hc, h⟩ | ⟨hc, h⟩
  · refine tr_if_ne_f (tgt := 10) (pc' := 8) hc (show decode cX10_of 5 = .ok (.ifCond .ne 5, 3) by decide +kernel) (by decide) rfl ?_
    refine tr_iconst (pc' := 9) (v := (-1 : Int32)) (show decode cX10_of 8 = .ok (.iconst (-1), 1) by decide +kernel) rfl (by decide) ?_
    cases h
    exact tr_iret rfl (show decode cX10_of 9 = .ok (.ireturn, 1) by decide +kernel) hL
  · refine tr_if_ne_t (tgt := 10) hc (show decode cX10_of 5 = .ok (.ifCond .ne 5, 3) by decide +kernel) (by decide) ?_
    refine tr_iload_n (pc' := 11) (show decode cX10_of 10 = .ok (.iload_n 2, 1) by decide +kernel) rfl rfl rfl ?_
    rcases hm_is h with ⟨hc, h⟩ | ⟨-, h⟩
    · refine tp_tout (tgt := 99) hc (by decide) (by decide) (show decode cX10_of 11 = .ok (.tableswitch 88 0 5 #[37, 46, 56, 66, 76, 82], 37) by decide +kernel) (by decide) ?_
      refine tr_iconst (pc' := 100) (v := (-1 : Int32)) (show decode cX10_of 99 = .ok (.iconst (-1), 1) by decide +kernel) rfl (by decide) ?_
      cases h
      exact tr_iret rfl (show decode cX10_of 100 = .ok (.ireturn, 1) by decide +kernel) hL
    · rcases hm_is h with ⟨hc, h⟩ | ⟨-, h⟩
      · refine tp_tin (tgt := 48) (off := 37) hc (show decode cX10_of 11 = .ok (.tableswitch 88 0 5 #[37, 46, 56, 66, 76, 82], 37) by decide +kernel) (by decide) (by decide) (by decide) (by decide) ?_
        refine tr_aload_n (pc' := 49) (show decode cX10_of 48 = .ok (.aload_n 0, 1) by decide +kernel) rfl rfl rfl ?_
        refine tr_getR (pc' := 52) fl_HandRingModel_24 (show decode cX10_of 49 = .ok (.getfield 24, 3) by decide +kernel) rfl (la_o hL (by decide) rfl) (la_r hL 118 rfl) ?_
        refine tr_iconst (pc' := 53) (v := (0 : Int32)) (show decode cX10_of 52 = .ok (.iconst 0, 1) by decide +kernel) rfl (by decide) ?_
        refine tr_iload_n (pc' := 54) (show decode cX10_of 53 = .ok (.iload_n 1, 1) by decide +kernel) rfl rfl rfl ?_
        refine tr_iadd (pc' := 55) (show decode cX10_of 54 = .ok (.iadd, 1) by decide +kernel) rfl ?_
        obtain ⟨x10, ex10, h⟩ := hm_bs h
        refine tp_ldI (pc' := 56) (show decode cX10_of 55 = .ok (.iaload, 1) by decide +kernel) rfl (la_a hL (by decide) rfl) ex10 ?_
        cases h
        exact tr_iret rfl (show decode cX10_of 56 = .ok (.ireturn, 1) by decide +kernel) hL
      · rcases hm_is h with ⟨hc, h⟩ | ⟨-, h⟩
        · refine tp_tin (tgt := 57) (off := 46) hc (show decode cX10_of 11 = .ok (.tableswitch 88 0 5 #[37, 46, 56, 66, 76, 82], 37) by decide +kernel) (by decide) (by decide) (by decide) (by decide) ?_
          refine tr_aload_n (pc' := 58) (show decode cX10_of 57 = .ok (.aload_n 0, 1) by decide +kernel) rfl rfl rfl ?_
          refine tr_getR (pc' := 61) fl_HandRingModel_24 (show decode cX10_of 58 = .ok (.getfield 24, 3) by decide +kernel) rfl (la_o hL (by decide) rfl) (la_r hL 118 rfl) ?_
          refine tr_bipush (pc' := 63) (v := (8 : Int32)) (show decode cX10_of 61 = .ok (.bipush 8, 2) by decide +kernel) rfl (by decide) ?_
          refine tr_iload_n (pc' := 64) (show decode cX10_of 63 = .ok (.iload_n 1, 1) by decide +kernel) rfl rfl rfl ?_
          refine tr_iadd (pc' := 65) (show decode cX10_of 64 = .ok (.iadd, 1) by decide +kernel) rfl ?_
          obtain ⟨x9, ex9, h⟩ := hm_bs h
          refine tp_ldI (pc' := 66) (show decode cX10_of 65 = .ok (.iaload, 1) by decide +kernel) rfl (la_a hL (by decide) rfl) ex9 ?_
          cases h
          exact tr_iret rfl (show decode cX10_of 66 = .ok (.ireturn, 1) by decide +kernel) hL
        · rcases hm_is h with ⟨hc, h⟩ | ⟨-, h⟩
          · refine tp_tin (tgt := 67) (off := 56) hc (show decode cX10_of 11 = .ok (.tableswitch 88 0 5 #[37, 46, 56, 66, 76, 82], 37) by decide +kernel) (by decide) (by decide) (by decide) (by decide) ?_
            refine tr_aload_n (pc' := 68) (show decode cX10_of 67 = .ok (.aload_n 0, 1) by decide +kernel) rfl rfl rfl ?_
            refine tr_getR (pc' := 71) fl_HandRingModel_24 (show decode cX10_of 68 = .ok (.getfield 24, 3) by decide +kernel) rfl (la_o hL (by decide) rfl) (la_r hL 118 rfl) ?_
            refine tr_bipush (pc' := 73) (v := (25 : Int32)) (show decode cX10_of 71 = .ok (.bipush 25, 2) by decide +kernel) rfl (by decide) ?_
            refine tr_iload_n (pc' := 74) (show decode cX10_of 73 = .ok (.iload_n 1, 1) by decide +kernel) rfl rfl rfl ?_
            refine tr_iadd (pc' := 75) (show decode cX10_of 74 = .ok (.iadd, 1) by decide +kernel) rfl ?_
            obtain ⟨x8, ex8, h⟩ := hm_bs h
            refine tp_ldI (pc' := 76) (show decode cX10_of 75 = .ok (.iaload, 1) by decide +kernel) rfl (la_a hL (by decide) rfl) ex8 ?_
            cases h
            exact tr_iret rfl (show decode cX10_of 76 = .ok (.ireturn, 1) by decide +kernel) hL
          · rcases hm_is h with ⟨hc, h⟩ | ⟨-, h⟩
            · refine tp_tin (tgt := 77) (off := 66) hc (show decode cX10_of 11 = .ok (.tableswitch 88 0 5 #[37, 46, 56, 66, 76, 82], 37) by decide +kernel) (by decide) (by decide) (by decide) (by decide) ?_
              refine tr_aload_n (pc' := 78) (show decode cX10_of 77 = .ok (.aload_n 0, 1) by decide +kernel) rfl rfl rfl ?_
              refine tr_getR (pc' := 81) fl_HandRingModel_24 (show decode cX10_of 78 = .ok (.getfield 24, 3) by decide +kernel) rfl (la_o hL (by decide) rfl) (la_r hL 118 rfl) ?_
              refine tr_bipush (pc' := 83) (v := (16 : Int32)) (show decode cX10_of 81 = .ok (.bipush 16, 2) by decide +kernel) rfl (by decide) ?_
              refine tr_iload_n (pc' := 84) (show decode cX10_of 83 = .ok (.iload_n 1, 1) by decide +kernel) rfl rfl rfl ?_
              refine tr_iadd (pc' := 85) (show decode cX10_of 84 = .ok (.iadd, 1) by decide +kernel) rfl ?_
              obtain ⟨x7, ex7, h⟩ := hm_bs h
              refine tp_ldI (pc' := 86) (show decode cX10_of 85 = .ok (.iaload, 1) by decide +kernel) rfl (la_a hL (by decide) rfl) ex7 ?_
              cases h
              exact tr_iret rfl (show decode cX10_of 86 = .ok (.ireturn, 1) by decide +kernel) hL
            · rcases hm_is h with ⟨hc, h⟩ | ⟨-, h⟩
              · refine tp_tin (tgt := 87) (off := 76) hc (show decode cX10_of 11 = .ok (.tableswitch 88 0 5 #[37, 46, 56, 66, 76, 82], 37) by decide +kernel) (by decide) (by decide) (by decide) (by decide) ?_
                refine tr_aload_n (pc' := 88) (show decode cX10_of 87 = .ok (.aload_n 0, 1) by decide +kernel) rfl rfl rfl ?_
                refine tr_iload_n (pc' := 89) (show decode cX10_of 88 = .ok (.iload_n 1, 1) by decide +kernel) rfl rfl rfl ?_
                obtain ⟨x5, μ6, ex5, h⟩ := hm_b2s h
                have cx5 := ok_X10_whoCan (fr := fr - 1) (ν := ν) (by omega) v1 μ hL ex5
                refine tp_callV (pc' := 92) (As := [.int v1]) (fr1 := fr - 1) (ci := 10) okm_X10_whoCan lk_HandRingModel_133 (show decode cX10_of 89 = .ok (.invokevirtual 133, 3) by decide +kernel) rfl rfl rfl (by decide) (la_o hL (by decide) rfl) rfl rfl (Nat.le_of_ble_eq_true rfl) (by omega) cx5 (st' := [.int x5]) rfl ?_
                replace hL := cx5.1
                cases h
                exact tr_iret rfl (show decode cX10_of 92 = .ok (.ireturn, 1) by decide +kernel) hL
              · rcases hm_is h with ⟨hc, h⟩ | ⟨-, h⟩
                · refine tp_tin (tgt := 93) (off := 82) hc (show decode cX10_of 11 = .ok (.tableswitch 88 0 5 #[37, 46, 56, 66, 76, 82], 37) by decide +kernel) (by decide) (by decide) (by decide) (by decide) ?_
                  refine tr_aload_n (pc' := 94) (show decode cX10_of 93 = .ok (.aload_n 0, 1) by decide +kernel) rfl rfl rfl ?_
                  refine tr_iload_n (pc' := 95) (show decode cX10_of 94 = .ok (.iload_n 1, 1) by decide +kernel) rfl rfl rfl ?_
                  obtain ⟨x3, μ4, ex3, h⟩ := hm_b2s h
                  have cx3 := ok_X10_tiresBy (fr := fr - 1) (ν := ν) (by omega) v1 μ hL ex3
                  refine tp_callV (pc' := 98) (As := [.int v1]) (fr1 := fr - 1) (ci := 10) okm_X10_tiresBy lk_HandRingModel_136 (show decode cX10_of 95 = .ok (.invokevirtual 136, 3) by decide +kernel) rfl rfl rfl (by decide) (la_o hL (by decide) rfl) rfl rfl (Nat.le_of_ble_eq_true rfl) (by omega) cx3 (st' := [.int x3]) rfl ?_
                  replace hL := cx3.1
                  cases h
                  exact tr_iret rfl (show decode cX10_of 98 = .ok (.ireturn, 1) by decide +kernel) hL
                · cases h
def f_X10_lostOf (v1 : Int32) (v2 : Int32) (μ : hm_M) : Option (Int32 × hm_M) :=
  Option.bind (f_X10_lesser v1 v2) fun x2 =>
  Option.bind (f_X10_greater v1 v2) fun x3 =>
  Option.bind (f_X10_farOf v1 v2 μ) fun x4 =>
  hm_b2 (f_X10_tells (1 : Int32) x2 x3 (9 : Int32) x4 μ) fun x5 μ6 =>
  some (x5, μ6)
set_option maxRecDepth 100000 in
theorem ok_X10_lostOf {fr : Nat} (hfr : 88 ≤ fr) {ν : hm_N} {r : Int32} {μR : hm_M}  (v1 : Int32) (v2 : Int32)  (μ : hm_M) (hL : hm_LL ν μ) (h : f_X10_lostOf v1 v2 μ = some (r, μR)) : hm_CC (hm_LL ν) m_X10_lostOf fr 0 0 [.ref 179, .int v1, .int v2] μ (some (.int r)) μR := by
  refine hm_enter (lv := [some (.ref 179), some (.int v1), some (.int v2)]) (by decide) rfl (Nat.le_of_ble_eq_true rfl) ?_
  unfold f_X10_lostOf at h
  refine tr_aload_n (pc' := 1) (show decode cX10_lostOf 0 = .ok (.aload_n 0, 1) by decide +kernel) rfl rfl rfl ?_
  refine tr_iconst (pc' := 2) (v := (1 : Int32)) (show decode cX10_lostOf 1 = .ok (.iconst 1, 1) by decide +kernel) rfl (by decide) ?_
  refine tr_iload_n (pc' := 3) (show decode cX10_lostOf 2 = .ok (.iload_n 1, 1) by decide +kernel) rfl rfl rfl ?_
  refine tr_iload_n (pc' := 4) (show decode cX10_lostOf 3 = .ok (.iload_n 2, 1) by decide +kernel) rfl rfl rfl ?_
  obtain ⟨x2, ex2, h⟩ := hm_bs h
  have cx2 := ok_X10_lesser (fr := fr - 1) (ν := ν) (by omega) v1 v2 μ hL ex2
  refine tp_callS (pc' := 7) (As := [.int v1, .int v2]) (fr1 := fr - 1) okm_X10_lesser lk_HandRingModel_340 (show decode cX10_lostOf 4 = .ok (.invokestatic 340, 3) by decide +kernel) rfl rfl rfl (Nat.le_of_ble_eq_true rfl) (by omega) cx2 (st' := [.int x2, .int (1 : Int32), .ref 179]) rfl ?_
  refine tr_iload_n (pc' := 8) (show decode cX10_lostOf 7 = .ok (.iload_n 1, 1) by decide +kernel) rfl rfl rfl ?_
  refine tr_iload_n (pc' := 9) (show decode cX10_lostOf 8 = .ok (.iload_n 2, 1) by decide +kernel) rfl rfl rfl ?_
  obtain ⟨x3, ex3, h⟩ := hm_bs h
  have cx3 := ok_X10_greater (fr := fr - 1) (ν := ν) (by omega) v1 v2 μ hL ex3
  refine tp_callS (pc' := 12) (As := [.int v1, .int v2]) (fr1 := fr - 1) okm_X10_greater lk_HandRingModel_343 (show decode cX10_lostOf 9 = .ok (.invokestatic 343, 3) by decide +kernel) rfl rfl rfl (Nat.le_of_ble_eq_true rfl) (by omega) cx3 (st' := [.int x3, .int x2, .int (1 : Int32), .ref 179]) rfl ?_
  refine tr_bipush (pc' := 14) (v := (9 : Int32)) (show decode cX10_lostOf 12 = .ok (.bipush 9, 2) by decide +kernel) rfl (by decide) ?_
  refine tr_aload_n (pc' := 15) (show decode cX10_lostOf 14 = .ok (.aload_n 0, 1) by decide +kernel) rfl rfl rfl ?_
  refine tr_iload_n (pc' := 16) (show decode cX10_lostOf 15 = .ok (.iload_n 1, 1) by decide +kernel) rfl rfl rfl ?_
  refine tr_iload_n (pc' := 17) (show decode cX10_lostOf 16 = .ok (.iload_n 2, 1) by decide +kernel) rfl rfl rfl ?_
  obtain ⟨x4, ex4, h⟩ := hm_bs h
  have cx4 := ok_X10_farOf (fr := fr - 1) (ν := ν) (by omega) v1 v2 μ hL ex4
  refine tp_callV (pc' := 20) (As := [.int v1, .int v2]) (fr1 := fr - 1) (ci := 10) okm_X10_farOf lk_HandRingModel_147 (show decode cX10_lostOf 17 = .ok (.invokevirtual 147, 3) by decide +kernel) rfl rfl rfl (by decide) (la_o hL (by decide) rfl) rfl rfl (Nat.le_of_ble_eq_true rfl) (by omega) cx4 (st' := [.int x4, .int (9 : Int32), .int x3, .int x2, .int (1 : Int32), .ref 179]) rfl ?_
  obtain ⟨x5, μ6, ex5, h⟩ := hm_b2s h
  have cx5 := ok_X10_tells (fr := fr - 1) (ν := ν) (by omega) (1 : Int32) x2 x3 (9 : Int32) x4 μ hL ex5
  refine tp_callV (pc' := 23) (As := [.int (1 : Int32), .int x2, .int x3, .int (9 : Int32), .int x4]) (fr1 := fr - 1) (ci := 10) okm_X10_tells lk_HandRingModel_346 (show decode cX10_lostOf 20 = .ok (.invokevirtual 346, 3) by decide +kernel) rfl rfl rfl (by decide) (la_o hL (by decide) rfl) rfl rfl (Nat.le_of_ble_eq_true rfl) (by omega) cx5 (st' := [.int x5]) rfl ?_
  replace hL := cx5.1
  cases h
  exact tr_iret rfl (show decode cX10_lostOf 23 = .ok (.ireturn, 1) by decide +kernel) hL
def f_X10_asks (v1 : Int32) (v2 : Int32) (v3 : Int32) (μ : hm_M) : Option (Int32 × hm_M) :=
  Option.bind (f_X10_areTwo v1 v2 μ) fun x2 =>
  (if x2 = 0 then
  some ((-1 : Int32), μ)
  else
  (if v3 < (0 : Int32) ∨ (2 : Int32) < v3 then
  some ((-1 : Int32), μ)
  else
  (if v3 = (0 : Int32) then
  Option.bind (f_X10_farOf v1 v2 μ) fun x7 =>
  some (x7, μ)
  else
  (if v3 = (1 : Int32) then
  hm_b2 (f_X10_lostOf v1 v2 μ) fun x5 μ6 =>
  some (x5, μ6)
  else
  (if v3 = (2 : Int32) then
  hm_b2 (f_X10_isBarred v1 v2 μ) fun x3 μ4 =>
  (if x3 = 0 then
  some ((0 : Int32), μ4)
  else
  some ((1 : Int32), μ4))
  else
  none)))))
set_option maxRecDepth 100000 in
theorem ok_X10_asks {fr : Nat} (hfr : 89 ≤ fr) {ν : hm_N} {r : Int32} {μR : hm_M}  (v1 : Int32) (v2 : Int32) (v3 : Int32)  (μ : hm_M) (hL : hm_LL ν μ) (h : f_X10_asks v1 v2 v3 μ = some (r, μR)) : hm_CC (hm_LL ν) m_X10_asks fr 0 0 [.ref 179, .int v1, .int v2, .int v3] μ (some (.int r)) μR := by
  refine hm_enter (lv := [some (.ref 179), some (.int v1), some (.int v2), some (.int v3)]) (by decide) rfl (Nat.le_of_ble_eq_true rfl) ?_
  unfold f_X10_asks at h
  refine tr_aload_n (pc' := 1) (show decode cX10_asks 0 = .ok (.aload_n 0, 1) by decide +kernel) rfl rfl rfl ?_
  refine tr_iload_n (pc' := 2) (show decode cX10_asks 1 = .ok (.iload_n 1, 1) by decide +kernel) rfl rfl rfl ?_
  refine tr_iload_n (pc' := 3) (show decode cX10_asks 2 = .ok (.iload_n 2, 1) by decide +kernel) rfl rfl rfl ?_
  obtain ⟨x2, ex2, h⟩ := hm_bs h
  have cx2 := ok_X10_areTwo (fr := fr - 1) (ν := ν) (by omega) v1 v2 μ hL ex2
  refine tp_callV (pc' := 6) (As := [.int v1, .int v2]) (fr1 := fr - 1) (ci := 10) okm_X10_areTwo lk_HandRingModel_143 (show decode cX10_asks 3 = .ok (.invokevirtual 143, 3) by decide +kernel) rfl rfl rfl (by decide) (la_o hL (by decide) rfl) rfl rfl (Nat.le_of_ble_eq_true rfl) (by omega) cx2 (st' := [.int x2]) rfl ?_
  rcases hm_is h with ⟨hc, h⟩ | ⟨hc, h⟩
  · refine tr_if_ne_f (tgt := 11) (pc' := 9) hc (show decode cX10_asks 6 = .ok (.ifCond .ne 5, 3) by decide +kernel) (by decide) rfl ?_
    refine tr_iconst (pc' := 10) (v := (-1 : Int32)) (show decode cX10_asks 9 = .ok (.iconst (-1), 1) by decide +kernel) rfl (by decide) ?_
    cases h
    exact tr_iret rfl (show decode cX10_asks 10 = .ok (.ireturn, 1) by decide +kernel) hL
  · refine tr_if_ne_t (tgt := 11) hc (show decode cX10_asks 6 = .ok (.ifCond .ne 5, 3) by decide +kernel) (by decide) ?_
    refine tr_iload_n (pc' := 12) (show decode cX10_asks 11 = .ok (.iload_n 3, 1) by decide +kernel) rfl rfl rfl ?_
    rcases hm_is h with ⟨hc, h⟩ | ⟨-, h⟩
    · refine tp_tout (tgt := 69) hc (by decide) (by decide) (show decode cX10_asks 12 = .ok (.tableswitch 57 0 2 #[28, 35, 42], 28) by decide +kernel) (by decide) ?_
      refine tr_iconst (pc' := 70) (v := (-1 : Int32)) (show decode cX10_asks 69 = .ok (.iconst (-1), 1) by decide +kernel) rfl (by decide) ?_
      cases h
      exact tr_iret rfl (show decode cX10_asks 70 = .ok (.ireturn, 1) by decide +kernel) hL
    · rcases hm_is h with ⟨hc, h⟩ | ⟨-, h⟩
      · refine tp_tin (tgt := 40) (off := 28) hc (show decode cX10_asks 12 = .ok (.tableswitch 57 0 2 #[28, 35, 42], 28) by decide +kernel) (by decide) (by decide) (by decide) (by decide) ?_
        refine tr_aload_n (pc' := 41) (show decode cX10_asks 40 = .ok (.aload_n 0, 1) by decide +kernel) rfl rfl rfl ?_
        refine tr_iload_n (pc' := 42) (show decode cX10_asks 41 = .ok (.iload_n 1, 1) by decide +kernel) rfl rfl rfl ?_
        refine tr_iload_n (pc' := 43) (show decode cX10_asks 42 = .ok (.iload_n 2, 1) by decide +kernel) rfl rfl rfl ?_
        obtain ⟨x7, ex7, h⟩ := hm_bs h
        have cx7 := ok_X10_farOf (fr := fr - 1) (ν := ν) (by omega) v1 v2 μ hL ex7
        refine tp_callV (pc' := 46) (As := [.int v1, .int v2]) (fr1 := fr - 1) (ci := 10) okm_X10_farOf lk_HandRingModel_147 (show decode cX10_asks 43 = .ok (.invokevirtual 147, 3) by decide +kernel) rfl rfl rfl (by decide) (la_o hL (by decide) rfl) rfl rfl (Nat.le_of_ble_eq_true rfl) (by omega) cx7 (st' := [.int x7]) rfl ?_
        cases h
        exact tr_iret rfl (show decode cX10_asks 46 = .ok (.ireturn, 1) by decide +kernel) hL
      · rcases hm_is h with ⟨hc, h⟩ | ⟨-, h⟩
        · refine tp_tin (tgt := 47) (off := 35) hc (show decode cX10_asks 12 = .ok (.tableswitch 57 0 2 #[28, 35, 42], 28) by decide +kernel) (by decide) (by decide) (by decide) (by decide) ?_
          refine tr_aload_n (pc' := 48) (show decode cX10_asks 47 = .ok (.aload_n 0, 1) by decide +kernel) rfl rfl rfl ?_
          refine tr_iload_n (pc' := 49) (show decode cX10_asks 48 = .ok (.iload_n 1, 1) by decide +kernel) rfl rfl rfl ?_
          refine tr_iload_n (pc' := 50) (show decode cX10_asks 49 = .ok (.iload_n 2, 1) by decide +kernel) rfl rfl rfl ?_
          obtain ⟨x5, μ6, ex5, h⟩ := hm_b2s h
          have cx5 := ok_X10_lostOf (fr := fr - 1) (ν := ν) (by omega) v1 v2 μ hL ex5
          refine tp_callV (pc' := 53) (As := [.int v1, .int v2]) (fr1 := fr - 1) (ci := 10) okm_X10_lostOf lk_HandRingModel_150 (show decode cX10_asks 50 = .ok (.invokevirtual 150, 3) by decide +kernel) rfl rfl rfl (by decide) (la_o hL (by decide) rfl) rfl rfl (Nat.le_of_ble_eq_true rfl) (by omega) cx5 (st' := [.int x5]) rfl ?_
          replace hL := cx5.1
          cases h
          exact tr_iret rfl (show decode cX10_asks 53 = .ok (.ireturn, 1) by decide +kernel) hL
        · rcases hm_is h with ⟨hc, h⟩ | ⟨-, h⟩
          · refine tp_tin (tgt := 54) (off := 42) hc (show decode cX10_asks 12 = .ok (.tableswitch 57 0 2 #[28, 35, 42], 28) by decide +kernel) (by decide) (by decide) (by decide) (by decide) ?_
            refine tr_aload_n (pc' := 55) (show decode cX10_asks 54 = .ok (.aload_n 0, 1) by decide +kernel) rfl rfl rfl ?_
            refine tr_iload_n (pc' := 56) (show decode cX10_asks 55 = .ok (.iload_n 1, 1) by decide +kernel) rfl rfl rfl ?_
            refine tr_iload_n (pc' := 57) (show decode cX10_asks 56 = .ok (.iload_n 2, 1) by decide +kernel) rfl rfl rfl ?_
            obtain ⟨x3, μ4, ex3, h⟩ := hm_b2s h
            have cx3 := ok_X10_isBarred (fr := fr - 1) (ν := ν) (by omega) v1 v2 μ hL ex3
            refine tp_callV (pc' := 60) (As := [.int v1, .int v2]) (fr1 := fr - 1) (ci := 10) okm_X10_isBarred lk_HandRingModel_153 (show decode cX10_asks 57 = .ok (.invokevirtual 153, 3) by decide +kernel) rfl rfl rfl (by decide) (la_o hL (by decide) rfl) rfl rfl (Nat.le_of_ble_eq_true rfl) (by omega) cx3 (st' := [.int x3]) rfl ?_
            replace hL := cx3.1
            rcases hm_is h with ⟨hc, h⟩ | ⟨hc, h⟩
            · refine tr_if_eq_t (tgt := 67) hc (show decode cX10_asks 60 = .ok (.ifCond .eq 7, 3) by decide +kernel) (by decide) ?_
              refine tr_iconst (pc' := 68) (v := (0 : Int32)) (show decode cX10_asks 67 = .ok (.iconst 0, 1) by decide +kernel) rfl (by decide) ?_
              cases h
              exact tr_iret rfl (show decode cX10_asks 68 = .ok (.ireturn, 1) by decide +kernel) hL
            · refine tr_if_eq_f (tgt := 67) (pc' := 63) hc (show decode cX10_asks 60 = .ok (.ifCond .eq 7, 3) by decide +kernel) (by decide) rfl ?_
              refine tr_iconst (pc' := 64) (v := (1 : Int32)) (show decode cX10_asks 63 = .ok (.iconst 1, 1) by decide +kernel) rfl (by decide) ?_
              refine tr_goto (tgt := 68) (show decode cX10_asks 64 = .ok (.goto 4, 3) by decide +kernel) rfl ?_
              cases h
              exact tr_iret rfl (show decode cX10_asks 68 = .ok (.ireturn, 1) by decide +kernel) hL
          · cases h
def f_X10_isTerm (v0 : Int32) (v1 : Int32) : Option Int32 :=
  (if v0 < (0 : Int32) ∨ (3 : Int32) < v0 then
  some (0 : Int32)
  else
  (if v0 = (0 : Int32) then
  Option.bind (f_X10_lies v1 (0 : Int32) (999 : Int32)) fun x8 =>
  hm_rz x8
  else
  (if v0 = (1 : Int32) then
  Option.bind (f_X10_lies v1 (0 : Int32) (10 : Int32)) fun x6 =>
  hm_rz x6
  else
  (if v0 = (2 : Int32) then
  Option.bind (f_X10_lies v1 (0 : Int32) (9 : Int32)) fun x4 =>
  hm_rz x4
  else
  (if v0 = (3 : Int32) then
  Option.bind (f_X10_lies v1 (0 : Int32) (99 : Int32)) fun x2 =>
  hm_rz x2
  else
  none)))))
set_option maxRecDepth 100000 in
theorem ok_X10_isTerm {fr : Nat} (hfr : 1 ≤ fr) {ν : hm_N} {r : Int32}  (v0 : Int32) (v1 : Int32)  (μ : hm_M) (hL : hm_LL ν μ) (h : f_X10_isTerm v0 v1 = some r) : hm_CC (hm_LL ν) m_X10_isTerm fr 0 0 [.int v0, .int v1] μ (some (.int r)) μ := by
  refine hm_enter (lv := [some (.int v0), some (.int v1)]) (by decide) rfl (Nat.le_of_ble_eq_true rfl) ?_
  unfold f_X10_isTerm at h
  refine tr_iload_n (pc' := 1) (show decode cX10_isTerm 0 = .ok (.iload_n 0, 1) by decide +kernel) rfl rfl rfl ?_
  rcases hm_is h with ⟨hc, h⟩ | ⟨-, h⟩
  · refine tp_tout (tgt := 65) hc (by decide) (by decide) (show decode cX10_isTerm 1 = .ok (.tableswitch 64 0 3 #[31, 40, 48, 56], 31) by decide +kernel) (by decide) ?_
    refine tr_iconst (pc' := 66) (v := (0 : Int32)) (show decode cX10_isTerm 65 = .ok (.iconst 0, 1) by decide +kernel) rfl (by decide) ?_
    cases h
    exact tr_zret rfl (by decide) (show decode cX10_isTerm 66 = .ok (.ireturn, 1) by decide +kernel) hL
  · rcases hm_is h with ⟨hc, h⟩ | ⟨-, h⟩
    · refine tp_tin (tgt := 32) (off := 31) hc (show decode cX10_isTerm 1 = .ok (.tableswitch 64 0 3 #[31, 40, 48, 56], 31) by decide +kernel) (by decide) (by decide) (by decide) (by decide) ?_
      refine tr_iload_n (pc' := 33) (show decode cX10_isTerm 32 = .ok (.iload_n 1, 1) by decide +kernel) rfl rfl rfl ?_
      refine tr_iconst (pc' := 34) (v := (0 : Int32)) (show decode cX10_isTerm 33 = .ok (.iconst 0, 1) by decide +kernel) rfl (by decide) ?_
      refine tr_sipush (pc' := 37) (v := (999 : Int32)) (show decode cX10_isTerm 34 = .ok (.sipush 999, 3) by decide +kernel) rfl (by decide) ?_
      obtain ⟨x8, ex8, h⟩ := hm_bs h
      have cx8 := ok_X10_lies (fr := fr - 1) (ν := ν) (by omega) v1 (0 : Int32) (999 : Int32) μ hL ex8
      refine tp_callS (pc' := 40) (As := [.int v1, .int (0 : Int32), .int (999 : Int32)]) (fr1 := fr - 1) okm_X10_lies lk_HandRingModel_108 (show decode cX10_isTerm 37 = .ok (.invokestatic 108, 3) by decide +kernel) rfl rfl rfl (Nat.le_of_ble_eq_true rfl) (by omega) cx8 (st' := [.int x8]) rfl ?_
      exact tp_zret rfl (show decode cX10_isTerm 40 = .ok (.ireturn, 1) by decide +kernel) h hL
    · rcases hm_is h with ⟨hc, h⟩ | ⟨-, h⟩
      · refine tp_tin (tgt := 41) (off := 40) hc (show decode cX10_isTerm 1 = .ok (.tableswitch 64 0 3 #[31, 40, 48, 56], 31) by decide +kernel) (by decide) (by decide) (by decide) (by decide) ?_
        refine tr_iload_n (pc' := 42) (show decode cX10_isTerm 41 = .ok (.iload_n 1, 1) by decide +kernel) rfl rfl rfl ?_
        refine tr_iconst (pc' := 43) (v := (0 : Int32)) (show decode cX10_isTerm 42 = .ok (.iconst 0, 1) by decide +kernel) rfl (by decide) ?_
        refine tr_bipush (pc' := 45) (v := (10 : Int32)) (show decode cX10_isTerm 43 = .ok (.bipush 10, 2) by decide +kernel) rfl (by decide) ?_
        obtain ⟨x6, ex6, h⟩ := hm_bs h
        have cx6 := ok_X10_lies (fr := fr - 1) (ν := ν) (by omega) v1 (0 : Int32) (10 : Int32) μ hL ex6
        refine tp_callS (pc' := 48) (As := [.int v1, .int (0 : Int32), .int (10 : Int32)]) (fr1 := fr - 1) okm_X10_lies lk_HandRingModel_108 (show decode cX10_isTerm 45 = .ok (.invokestatic 108, 3) by decide +kernel) rfl rfl rfl (Nat.le_of_ble_eq_true rfl) (by omega) cx6 (st' := [.int x6]) rfl ?_
        exact tp_zret rfl (show decode cX10_isTerm 48 = .ok (.ireturn, 1) by decide +kernel) h hL
      · rcases hm_is h with ⟨hc, h⟩ | ⟨-, h⟩
        · refine tp_tin (tgt := 49) (off := 48) hc (show decode cX10_isTerm 1 = .ok (.tableswitch 64 0 3 #[31, 40, 48, 56], 31) by decide +kernel) (by decide) (by decide) (by decide) (by decide) ?_
          refine tr_iload_n (pc' := 50) (show decode cX10_isTerm 49 = .ok (.iload_n 1, 1) by decide +kernel) rfl rfl rfl ?_
          refine tr_iconst (pc' := 51) (v := (0 : Int32)) (show decode cX10_isTerm 50 = .ok (.iconst 0, 1) by decide +kernel) rfl (by decide) ?_
          refine tr_bipush (pc' := 53) (v := (9 : Int32)) (show decode cX10_isTerm 51 = .ok (.bipush 9, 2) by decide +kernel) rfl (by decide) ?_
          obtain ⟨x4, ex4, h⟩ := hm_bs h
          have cx4 := ok_X10_lies (fr := fr - 1) (ν := ν) (by omega) v1 (0 : Int32) (9 : Int32) μ hL ex4
          refine tp_callS (pc' := 56) (As := [.int v1, .int (0 : Int32), .int (9 : Int32)]) (fr1 := fr - 1) okm_X10_lies lk_HandRingModel_108 (show decode cX10_isTerm 53 = .ok (.invokestatic 108, 3) by decide +kernel) rfl rfl rfl (Nat.le_of_ble_eq_true rfl) (by omega) cx4 (st' := [.int x4]) rfl ?_
          exact tp_zret rfl (show decode cX10_isTerm 56 = .ok (.ireturn, 1) by decide +kernel) h hL
        · rcases hm_is h with ⟨hc, h⟩ | ⟨-, h⟩
          · refine tp_tin (tgt := 57) (off := 56) hc (show decode cX10_isTerm 1 = .ok (.tableswitch 64 0 3 #[31, 40, 48, 56], 31) by decide +kernel) (by decide) (by decide) (by decide) (by decide) ?_
            refine tr_iload_n (pc' := 58) (show decode cX10_isTerm 57 = .ok (.iload_n 1, 1) by decide +kernel) rfl rfl rfl ?_
            refine tr_iconst (pc' := 59) (v := (0 : Int32)) (show decode cX10_isTerm 58 = .ok (.iconst 0, 1) by decide +kernel) rfl (by decide) ?_
            refine tr_bipush (pc' := 61) (v := (99 : Int32)) (show decode cX10_isTerm 59 = .ok (.bipush 99, 2) by decide +kernel) rfl (by decide) ?_
            obtain ⟨x2, ex2, h⟩ := hm_bs h
            have cx2 := ok_X10_lies (fr := fr - 1) (ν := ν) (by omega) v1 (0 : Int32) (99 : Int32) μ hL ex2
            refine tp_callS (pc' := 64) (As := [.int v1, .int (0 : Int32), .int (99 : Int32)]) (fr1 := fr - 1) okm_X10_lies lk_HandRingModel_108 (show decode cX10_isTerm 61 = .ok (.invokestatic 108, 3) by decide +kernel) rfl rfl rfl (Nat.le_of_ble_eq_true rfl) (by omega) cx2 (st' := [.int x2]) rfl ?_
            exact tp_zret rfl (show decode cX10_isTerm 64 = .ok (.ireturn, 1) by decide +kernel) h hL
          · cases h
def f_X10_termAt (v0 : Int32) : Option Int32 :=
  (if v0 = 0 then
  some (24 : Int32)
  else
  (if v0 = (1 : Int32) then
  some (51 : Int32)
  else
  (if v0 = (2 : Int32) then
  some (52 : Int32)
  else
  some (53 : Int32))))
set_option maxRecDepth 100000 in
theorem ok_X10_termAt {fr : Nat} (hfr : 0 ≤ fr) {ν : hm_N} {r : Int32}  (v0 : Int32)  (μ : hm_M) (hL : hm_LL ν μ) (h : f_X10_termAt v0 = some r) : hm_CC (hm_LL ν) m_X10_termAt fr 0 0 [.int v0] μ (some (.int r)) μ := by
  refine hm_enter (lv := [some (.int v0)]) (by decide) rfl (Nat.le_of_ble_eq_true rfl) ?_
  unfold f_X10_termAt at h
  refine tr_iload_n (pc' := 1) (show decode cX10_termAt 0 = .ok (.iload_n 0, 1) by decide +kernel) rfl rfl rfl ?_
  rcases hm_is h with ⟨hc, h⟩ | ⟨hc, h⟩
  · refine tr_if_ne_f (tgt := 9) (pc' := 4) hc (show decode cX10_termAt 1 = .ok (.ifCond .ne 8, 3) by decide +kernel) (by decide) rfl ?_
    refine tr_bipush (pc' := 6) (v := (24 : Int32)) (show decode cX10_termAt 4 = .ok (.bipush 24, 2) by decide +kernel) rfl (by decide) ?_
    refine tr_goto (tgt := 31) (show decode cX10_termAt 6 = .ok (.goto 25, 3) by decide +kernel) rfl ?_
    cases h
    exact tr_iret rfl (show decode cX10_termAt 31 = .ok (.ireturn, 1) by decide +kernel) hL
  · refine tr_if_ne_t (tgt := 9) hc (show decode cX10_termAt 1 = .ok (.ifCond .ne 8, 3) by decide +kernel) (by decide) ?_
    refine tr_iload_n (pc' := 10) (show decode cX10_termAt 9 = .ok (.iload_n 0, 1) by decide +kernel) rfl rfl rfl ?_
    refine tr_iconst (pc' := 11) (v := (1 : Int32)) (show decode cX10_termAt 10 = .ok (.iconst 1, 1) by decide +kernel) rfl (by decide) ?_
    rcases hm_is h with ⟨hc, h⟩ | ⟨hc, h⟩
    · refine tr_icmp_ne_f (tgt := 19) (pc' := 14) hc (show decode cX10_termAt 11 = .ok (.if_icmp .ne 8, 3) by decide +kernel) (by decide) rfl ?_
      refine tr_bipush (pc' := 16) (v := (51 : Int32)) (show decode cX10_termAt 14 = .ok (.bipush 51, 2) by decide +kernel) rfl (by decide) ?_
      refine tr_goto (tgt := 31) (show decode cX10_termAt 16 = .ok (.goto 15, 3) by decide +kernel) rfl ?_
      cases h
      exact tr_iret rfl (show decode cX10_termAt 31 = .ok (.ireturn, 1) by decide +kernel) hL
    · refine tr_icmp_ne_t (tgt := 19) hc (show decode cX10_termAt 11 = .ok (.if_icmp .ne 8, 3) by decide +kernel) (by decide) ?_
      refine tr_iload_n (pc' := 20) (show decode cX10_termAt 19 = .ok (.iload_n 0, 1) by decide +kernel) rfl rfl rfl ?_
      refine tr_iconst (pc' := 21) (v := (2 : Int32)) (show decode cX10_termAt 20 = .ok (.iconst 2, 1) by decide +kernel) rfl (by decide) ?_
      rcases hm_is h with ⟨hc, h⟩ | ⟨hc, h⟩
      · refine tr_icmp_ne_f (tgt := 29) (pc' := 24) hc (show decode cX10_termAt 21 = .ok (.if_icmp .ne 8, 3) by decide +kernel) (by decide) rfl ?_
        refine tr_bipush (pc' := 26) (v := (52 : Int32)) (show decode cX10_termAt 24 = .ok (.bipush 52, 2) by decide +kernel) rfl (by decide) ?_
        refine tr_goto (tgt := 31) (show decode cX10_termAt 26 = .ok (.goto 5, 3) by decide +kernel) rfl ?_
        cases h
        exact tr_iret rfl (show decode cX10_termAt 31 = .ok (.ireturn, 1) by decide +kernel) hL
      · refine tr_icmp_ne_t (tgt := 29) hc (show decode cX10_termAt 21 = .ok (.if_icmp .ne 8, 3) by decide +kernel) (by decide) ?_
        refine tr_bipush (pc' := 31) (v := (53 : Int32)) (show decode cX10_termAt 29 = .ok (.bipush 53, 2) by decide +kernel) rfl (by decide) ?_
        cases h
        exact tr_iret rfl (show decode cX10_termAt 31 = .ok (.ireturn, 1) by decide +kernel) hL
def f_X10_terms (v1 : Int32) (v2 : Int32) (μ : hm_M) : Option (Int32 × hm_M) :=
  Option.bind (f_X10_isTerm v1 v2) fun x2 =>
  (if x2 = 0 then
  hm_b2 (f_X10_refuses (-1 : Int32) μ) fun x9 μ10 =>
  some (x9, μ10)
  else
  Option.bind (f_X10_termAt v1) fun x3 =>
  Option.bind (hm_ld μ 181 5665 x3) fun x4 =>
  Option.bind (f_X10_termAt v1) fun x5 =>
  Option.bind (hm_sd μ 181 5665 x5 v2) fun μ6 =>
  hm_b2 (f_X10_settled x4 μ6) fun x7 μ8 =>
  some (x7, μ8))
set_option maxRecDepth 100000 in
theorem ok_X10_terms {fr : Nat} (hfr : 2 ≤ fr) {ν : hm_N} {r : Int32} {μR : hm_M}  (v1 : Int32) (v2 : Int32)  (μ : hm_M) (hL : hm_LL ν μ) (h : f_X10_terms v1 v2 μ = some (r, μR)) : hm_CC (hm_LL ν) m_X10_terms fr 0 0 [.ref 179, .int v1, .int v2] μ (some (.int r)) μR := by
  refine hm_enter (lv := [some (.ref 179), some (.int v1), some (.int v2), none]) (by decide) rfl (Nat.le_of_ble_eq_true rfl) ?_
  unfold f_X10_terms at h
  refine tr_iload_n (pc' := 1) (show decode cX10_terms 0 = .ok (.iload_n 1, 1) by decide +kernel) rfl rfl rfl ?_
  refine tr_iload_n (pc' := 2) (show decode cX10_terms 1 = .ok (.iload_n 2, 1) by decide +kernel) rfl rfl rfl ?_
  obtain ⟨x2, ex2, h⟩ := hm_bs h
  have cx2 := ok_X10_isTerm (fr := fr - 1) (ν := ν) (by omega) v1 v2 μ hL ex2
  refine tp_callS (pc' := 5) (As := [.int v1, .int v2]) (fr1 := fr - 1) okm_X10_isTerm lk_HandRingModel_156 (show decode cX10_terms 2 = .ok (.invokestatic 156, 3) by decide +kernel) rfl rfl rfl (Nat.le_of_ble_eq_true rfl) (by omega) cx2 (st' := [.int x2]) rfl ?_
  rcases hm_is h with ⟨hc, h⟩ | ⟨hc, h⟩
  · refine tr_if_ne_f (tgt := 14) (pc' := 8) hc (show decode cX10_terms 5 = .ok (.ifCond .ne 9, 3) by decide +kernel) (by decide) rfl ?_
    refine tr_aload_n (pc' := 9) (show decode cX10_terms 8 = .ok (.aload_n 0, 1) by decide +kernel) rfl rfl rfl ?_
    refine tr_iconst (pc' := 10) (v := (-1 : Int32)) (show decode cX10_terms 9 = .ok (.iconst (-1), 1) by decide +kernel) rfl (by decide) ?_
    obtain ⟨x9, μ10, ex9, h⟩ := hm_b2s h
    have cx9 := ok_X10_refuses (fr := fr - 1) (ν := ν) (by omega) (-1 : Int32) μ hL ex9
    refine tp_callV (pc' := 13) (As := [.int (-1 : Int32)]) (fr1 := fr - 1) (ci := 10) okm_X10_refuses lk_HandRingModel_112 (show decode cX10_terms 10 = .ok (.invokevirtual 112, 3) by decide +kernel) rfl rfl rfl (by decide) (la_o hL (by decide) rfl) rfl rfl (Nat.le_of_ble_eq_true rfl) (by omega) cx9 (st' := [.int x9]) rfl ?_
    replace hL := cx9.1
    cases h
    exact tr_iret rfl (show decode cX10_terms 13 = .ok (.ireturn, 1) by decide +kernel) hL
  · refine tr_if_ne_t (tgt := 14) hc (show decode cX10_terms 5 = .ok (.ifCond .ne 9, 3) by decide +kernel) (by decide) ?_
    refine tr_aload_n (pc' := 15) (show decode cX10_terms 14 = .ok (.aload_n 0, 1) by decide +kernel) rfl rfl rfl ?_
    refine tr_getR (pc' := 18) fl_HandRingModel_24 (show decode cX10_terms 15 = .ok (.getfield 24, 3) by decide +kernel) rfl (la_o hL (by decide) rfl) (la_r hL 118 rfl) ?_
    refine tr_iload_n (pc' := 19) (show decode cX10_terms 18 = .ok (.iload_n 1, 1) by decide +kernel) rfl rfl rfl ?_
    obtain ⟨x3, ex3, h⟩ := hm_bs h
    have cx3 := ok_X10_termAt (fr := fr - 1) (ν := ν) (by omega) v1 μ hL ex3
    refine tp_callS (pc' := 22) (As := [.int v1]) (fr1 := fr - 1) okm_X10_termAt lk_HandRingModel_159 (show decode cX10_terms 19 = .ok (.invokestatic 159, 3) by decide +kernel) rfl rfl rfl (Nat.le_of_ble_eq_true rfl) (by omega) cx3 (st' := [.int x3, .ref 181]) rfl ?_
    obtain ⟨x4, ex4, h⟩ := hm_bs h
    refine tp_ldI (pc' := 23) (show decode cX10_terms 22 = .ok (.iaload, 1) by decide +kernel) rfl (la_a hL (by decide) rfl) ex4 ?_
    refine tr_istore_n (pc' := 24) (lv' := [some (.ref 179), some (.int v1), some (.int v2), some (.int x4)]) (show decode cX10_terms 23 = .ok (.istore_n 3, 1) by decide +kernel) rfl rfl (Nat.le_of_ble_eq_true rfl) rfl rfl ?_
    refine tr_aload_n (pc' := 25) (show decode cX10_terms 24 = .ok (.aload_n 0, 1) by decide +kernel) rfl rfl rfl ?_
    refine tr_getR (pc' := 28) fl_HandRingModel_24 (show decode cX10_terms 25 = .ok (.getfield 24, 3) by decide +kernel) rfl (la_o hL (by decide) rfl) (la_r hL 118 rfl) ?_
    refine tr_iload_n (pc' := 29) (show decode cX10_terms 28 = .ok (.iload_n 1, 1) by decide +kernel) rfl rfl rfl ?_
    obtain ⟨x5, ex5, h⟩ := hm_bs h
    have cx5 := ok_X10_termAt (fr := fr - 1) (ν := ν) (by omega) v1 μ hL ex5
    refine tp_callS (pc' := 32) (As := [.int v1]) (fr1 := fr - 1) okm_X10_termAt lk_HandRingModel_159 (show decode cX10_terms 29 = .ok (.invokestatic 159, 3) by decide +kernel) rfl rfl rfl (Nat.le_of_ble_eq_true rfl) (by omega) cx5 (st' := [.int x5, .ref 181]) rfl ?_
    refine tr_iload_n (pc' := 33) (show decode cX10_terms 32 = .ok (.iload_n 2, 1) by decide +kernel) rfl rfl rfl ?_
    obtain ⟨μ6, eμ6, h⟩ := hm_bs h
    refine tp_sdI (pc' := 34) (show decode cX10_terms 33 = .ok (.iastore, 1) by decide +kernel) rfl (la_a hL (by decide) rfl) eμ6 ?_
    replace hL := hL.same (hm_sd_s eμ6)
    refine tr_aload_n (pc' := 35) (show decode cX10_terms 34 = .ok (.aload_n 0, 1) by decide +kernel) rfl rfl rfl ?_
    refine tr_iload_n (pc' := 36) (show decode cX10_terms 35 = .ok (.iload_n 3, 1) by decide +kernel) rfl rfl rfl ?_
    obtain ⟨x7, μ8, ex7, h⟩ := hm_b2s h
    have cx7 := ok_X10_settled (fr := fr - 1) (ν := ν) (by omega) x4 μ6 hL ex7
    refine tp_callV (pc' := 39) (As := [.int x4]) (fr1 := fr - 1) (ci := 10) okm_X10_settled lk_HandRingModel_115 (show decode cX10_terms 36 = .ok (.invokevirtual 115, 3) by decide +kernel) rfl rfl rfl (by decide) (la_o hL (by decide) rfl) rfl rfl (Nat.le_of_ble_eq_true rfl) (by omega) cx7 (st' := [.int x7]) rfl ?_
    replace hL := cx7.1
    cases h
    exact tr_iret rfl (show decode cX10_terms 39 = .ok (.ireturn, 1) by decide +kernel) hL
def f_X10_row_J150 (w40_1 : Int32) (c40 : Int32 → Int32 → hm_M → Option (Int32 × hm_M)) (e160 : Int32 → hm_M → Option (Int32 × hm_M)) (s0 : Int32) (s1 : Int32) (y2 : Int32) (y3 : Int32) (μ1 : hm_M) : Option (Int32 × hm_M) :=
  Option.bind (hm_pI μ1 179 6 (s1 + s0)) fun μ5 =>
  c40 y2 (y3 + (3 : Int32)) μ5
theorem ok_X10_row_J150 {fr : Nat} (hfr : 2 ≤ fr) {ν : hm_N} {r : Int32} {μR : hm_M}  (w40_1 : Int32) (c40 : Int32 → Int32 → hm_M → Option (Int32 × hm_M)) (e160 : Int32 → hm_M → Option (Int32 × hm_M)) (hc40 : ∀ (y2 : Int32) (y3 : Int32)  (μ1 : hm_M), hm_LL ν μ1 → c40 y2 y3 μ1 = some (r, μR) → hm_T (hm_LL ν) m_X10_row fr 0 0 (some (.int r)) μR 40 [some (.ref 179), some (.int w40_1), some (.int y2), some (.int y3), none] [] μ1) (he160 : ∀ (y2 : Int32)  (μ1 : hm_M), hm_LL ν μ1 → e160 y2 μ1 = some (r, μR) → hm_T (hm_LL ν) m_X10_row fr 0 0 (some (.int r)) μR 160 [some (.ref 179), none, some (.int y2), none, none] [] μ1)  (s0 : Int32) (s1 : Int32) (y2 : Int32) (y3 : Int32) (μ1 : hm_M) (hL : hm_LL ν μ1) (h : f_X10_row_J150 w40_1 c40 e160 s0 s1 y2 y3 μ1 = some (r, μR)) : hm_T (hm_LL ν) m_X10_row fr 0 0 (some (.int r)) μR 150 [some (.ref 179), some (.int w40_1), some (.int y2), some (.int y3), none] [.int s0, .int s1, .ref 179] μ1 := by
  unfold f_X10_row_J150 at h
  refine tr_iadd (pc' := 151) (show decode cX10_row 150 = .ok (.iadd, 1) by decide +kernel) rfl ?_
  obtain ⟨μ5, eμ5, h⟩ := hm_bs h
  refine tp_pI (pc' := 154) fl_HandRingModel_165 (show decode cX10_row 151 = .ok (.putfield 165, 3) by decide +kernel) rfl (la_o hL (by decide) rfl) eμ5 ?_
  replace hL := hL.same (hm_pI_s eμ5)
  refine tr_iinc (pc' := 157) (v := y3 + (3 : Int32)) (lv' := [some (.ref 179), some (.int w40_1), some (.int y2), some (.int (y3 + (3 : Int32))), none]) (show decode cX10_row 154 = .ok (.iinc 3 3, 3) by decide +kernel) rfl rfl rfl (Nat.le_of_ble_eq_true rfl) rfl rfl ?_
  refine tr_goto (tgt := 40) (show decode cX10_row 157 = .ok (.goto (-117), 3) by decide +kernel) rfl ?_
  exact hc40 y2 (y3 + (3 : Int32)) μ5 hL h
def f_X10_row_J133 (w40_1 : Int32) (c40 : Int32 → Int32 → hm_M → Option (Int32 × hm_M)) (e160 : Int32 → hm_M → Option (Int32 × hm_M)) (s0 : Int32) (s1 : Int32) (y3 : Int32) (y4 : Int32) (μ1 : hm_M) : Option (Int32 × hm_M) :=
  (if y4 = 0 then
  f_X10_row_J150 w40_1 c40 e160 (1 : Int32) (μ1.1 179 6) (s1 + s0) y3 μ1
  else
  f_X10_row_J150 w40_1 c40 e160 (0 : Int32) (μ1.1 179 6) (s1 + s0) y3 μ1)
theorem ok_X10_row_J133 {fr : Nat} (hfr : 2 ≤ fr) {ν : hm_N} {r : Int32} {μR : hm_M}  (w40_1 : Int32) (c40 : Int32 → Int32 → hm_M → Option (Int32 × hm_M)) (e160 : Int32 → hm_M → Option (Int32 × hm_M)) (hc40 : ∀ (y2 : Int32) (y3 : Int32)  (μ1 : hm_M), hm_LL ν μ1 → c40 y2 y3 μ1 = some (r, μR) → hm_T (hm_LL ν) m_X10_row fr 0 0 (some (.int r)) μR 40 [some (.ref 179), some (.int w40_1), some (.int y2), some (.int y3), none] [] μ1) (he160 : ∀ (y2 : Int32)  (μ1 : hm_M), hm_LL ν μ1 → e160 y2 μ1 = some (r, μR) → hm_T (hm_LL ν) m_X10_row fr 0 0 (some (.int r)) μR 160 [some (.ref 179), none, some (.int y2), none, none] [] μ1)  (s0 : Int32) (s1 : Int32) (y3 : Int32) (y4 : Int32) (μ1 : hm_M) (hL : hm_LL ν μ1) (h : f_X10_row_J133 w40_1 c40 e160 s0 s1 y3 y4 μ1 = some (r, μR)) : hm_T (hm_LL ν) m_X10_row fr 0 0 (some (.int r)) μR 133 [some (.ref 179), some (.int w40_1), none, some (.int y3), some (.int y4)] [.int s0, .int s1] μ1 := by
  unfold f_X10_row_J133 at h
  refine tr_iadd (pc' := 134) (show decode cX10_row 133 = .ok (.iadd, 1) by decide +kernel) rfl ?_
  refine tr_istore_n (pc' := 135) (lv' := [some (.ref 179), some (.int w40_1), some (.int (s1 + s0)), some (.int y3), some (.int y4)]) (show decode cX10_row 134 = .ok (.istore_n 2, 1) by decide +kernel) rfl rfl (Nat.le_of_ble_eq_true rfl) rfl rfl ?_
  refine tr_aload_n (pc' := 136) (show decode cX10_row 135 = .ok (.aload_n 0, 1) by decide +kernel) rfl rfl rfl ?_
  refine tr_dup (pc' := 137) (show decode cX10_row 136 = .ok (.dup, 1) by decide +kernel) rfl rfl ?_
  refine tr_getI (pc' := 140) fl_HandRingModel_165 (show decode cX10_row 137 = .ok (.getfield 165, 3) by decide +kernel) rfl (la_o hL (by decide) rfl) ?_
  refine tr_iload (pc' := 142) (show decode cX10_row 140 = .ok (.iload 4, 2) by decide +kernel) rfl rfl ?_
  rcases hm_is h with ⟨hc, h⟩ | ⟨hc, h⟩
  · refine tr_if_eq_t (tgt := 149) hc (show decode cX10_row 142 = .ok (.ifCond .eq 7, 3) by decide +kernel) (by decide) ?_
    refine tr_iconst (pc' := 150) (v := (1 : Int32)) (show decode cX10_row 149 = .ok (.iconst 1, 1) by decide +kernel) rfl (by decide) ?_
    refine hm_fgt [true, true, true, true, false] (lv' := [some (.ref 179), some (.int w40_1), some (.int (s1 + s0)), some (.int y3), none]) rfl ?_
    exact ok_X10_row_J150 hfr w40_1 c40 e160 hc40 he160 (1 : Int32) (μ1.1 179 6) (s1 + s0) y3 μ1 hL h
  · refine tr_if_eq_f (tgt := 149) (pc' := 145) hc (show decode cX10_row 142 = .ok (.ifCond .eq 7, 3) by decide +kernel) (by decide) rfl ?_
    refine tr_iconst (pc' := 146) (v := (0 : Int32)) (show decode cX10_row 145 = .ok (.iconst 0, 1) by decide +kernel) rfl (by decide) ?_
    refine tr_goto (tgt := 150) (show decode cX10_row 146 = .ok (.goto 4, 3) by decide +kernel) rfl ?_
    refine hm_fgt [true, true, true, true, false] (lv' := [some (.ref 179), some (.int w40_1), some (.int (s1 + s0)), some (.int y3), none]) rfl ?_
    exact ok_X10_row_J150 hfr w40_1 c40 e160 hc40 he160 (0 : Int32) (μ1.1 179 6) (s1 + s0) y3 μ1 hL h
def f_X10_row_J122 (w40_1 : Int32) (c40 : Int32 → Int32 → hm_M → Option (Int32 × hm_M)) (e160 : Int32 → hm_M → Option (Int32 × hm_M)) (y2 : Int32) (y3 : Int32) (y4 : Int32) (μ1 : hm_M) : Option (Int32 × hm_M) :=
  (if y4 = 0 then
  f_X10_row_J133 w40_1 c40 e160 (0 : Int32) y2 y3 y4 μ1
  else
  f_X10_row_J133 w40_1 c40 e160 (1 : Int32) y2 y3 y4 μ1)
theorem ok_X10_row_J122 {fr : Nat} (hfr : 2 ≤ fr) {ν : hm_N} {r : Int32} {μR : hm_M}  (w40_1 : Int32) (c40 : Int32 → Int32 → hm_M → Option (Int32 × hm_M)) (e160 : Int32 → hm_M → Option (Int32 × hm_M)) (hc40 : ∀ (y2 : Int32) (y3 : Int32)  (μ1 : hm_M), hm_LL ν μ1 → c40 y2 y3 μ1 = some (r, μR) → hm_T (hm_LL ν) m_X10_row fr 0 0 (some (.int r)) μR 40 [some (.ref 179), some (.int w40_1), some (.int y2), some (.int y3), none] [] μ1) (he160 : ∀ (y2 : Int32)  (μ1 : hm_M), hm_LL ν μ1 → e160 y2 μ1 = some (r, μR) → hm_T (hm_LL ν) m_X10_row fr 0 0 (some (.int r)) μR 160 [some (.ref 179), none, some (.int y2), none, none] [] μ1)  (y2 : Int32) (y3 : Int32) (y4 : Int32) (μ1 : hm_M) (hL : hm_LL ν μ1) (h : f_X10_row_J122 w40_1 c40 e160 y2 y3 y4 μ1 = some (r, μR)) : hm_T (hm_LL ν) m_X10_row fr 0 0 (some (.int r)) μR 122 [some (.ref 179), some (.int w40_1), some (.int y2), some (.int y3), some (.int y4)] [] μ1 := by
  unfold f_X10_row_J122 at h
  refine tr_iload_n (pc' := 123) (show decode cX10_row 122 = .ok (.iload_n 2, 1) by decide +kernel) rfl rfl rfl ?_
  refine tr_iload (pc' := 125) (show decode cX10_row 123 = .ok (.iload 4, 2) by decide +kernel) rfl rfl ?_
  rcases hm_is h with ⟨hc, h⟩ | ⟨hc, h⟩
  · refine tr_if_eq_t (tgt := 132) hc (show decode cX10_row 125 = .ok (.ifCond .eq 7, 3) by decide +kernel) (by decide) ?_
    refine tr_iconst (pc' := 133) (v := (0 : Int32)) (show decode cX10_row 132 = .ok (.iconst 0, 1) by decide +kernel) rfl (by decide) ?_
    refine hm_fgt [true, true, false, true, true] (lv' := [some (.ref 179), some (.int w40_1), none, some (.int y3), some (.int y4)]) rfl ?_
    exact ok_X10_row_J133 hfr w40_1 c40 e160 hc40 he160 (0 : Int32) y2 y3 y4 μ1 hL h
  · refine tr_if_eq_f (tgt := 132) (pc' := 128) hc (show decode cX10_row 125 = .ok (.ifCond .eq 7, 3) by decide +kernel) (by decide) rfl ?_
    refine tr_iconst (pc' := 129) (v := (1 : Int32)) (show decode cX10_row 128 = .ok (.iconst 1, 1) by decide +kernel) rfl (by decide) ?_
    refine tr_goto (tgt := 133) (show decode cX10_row 129 = .ok (.goto 4, 3) by decide +kernel) rfl ?_
    refine hm_fgt [true, true, false, true, true] (lv' := [some (.ref 179), some (.int w40_1), none, some (.int y3), some (.int y4)]) rfl ?_
    exact ok_X10_row_J133 hfr w40_1 c40 e160 hc40 he160 (1 : Int32) y2 y3 y4 μ1 hL h
def f_X10_row_J89 (w40_1 : Int32) (c40 : Int32 → Int32 → hm_M → Option (Int32 × hm_M)) (e160 : Int32 → hm_M → Option (Int32 × hm_M)) (s0 : Int32) (y2 : Int32) (y3 : Int32) (μ1 : hm_M) : Option (Int32 × hm_M) :=
  (if s0 = 0 then
  f_X10_row_J122 w40_1 c40 e160 y2 y3 s0 μ1
  else
  Option.bind (hm_ld μ1 186 400 y3) fun x6 =>
  Option.bind (hm_ld μ1 186 400 (y3 + (1 : Int32))) fun x7 =>
  Option.bind (hm_ld μ1 186 400 (y3 + (2 : Int32))) fun x8 =>
  Option.bind (f_X10_adds x6 x7 x8 μ1) fun μ10 =>
  f_X10_row_J122 w40_1 c40 e160 y2 y3 s0 μ10)
theorem ok_X10_row_J89 {fr : Nat} (hfr : 2 ≤ fr) {ν : hm_N} {r : Int32} {μR : hm_M}  (w40_1 : Int32) (c40 : Int32 → Int32 → hm_M → Option (Int32 × hm_M)) (e160 : Int32 → hm_M → Option (Int32 × hm_M)) (hc40 : ∀ (y2 : Int32) (y3 : Int32)  (μ1 : hm_M), hm_LL ν μ1 → c40 y2 y3 μ1 = some (r, μR) → hm_T (hm_LL ν) m_X10_row fr 0 0 (some (.int r)) μR 40 [some (.ref 179), some (.int w40_1), some (.int y2), some (.int y3), none] [] μ1) (he160 : ∀ (y2 : Int32)  (μ1 : hm_M), hm_LL ν μ1 → e160 y2 μ1 = some (r, μR) → hm_T (hm_LL ν) m_X10_row fr 0 0 (some (.int r)) μR 160 [some (.ref 179), none, some (.int y2), none, none] [] μ1)  (s0 : Int32) (y2 : Int32) (y3 : Int32) (μ1 : hm_M) (hL : hm_LL ν μ1) (h : f_X10_row_J89 w40_1 c40 e160 s0 y2 y3 μ1 = some (r, μR)) : hm_T (hm_LL ν) m_X10_row fr 0 0 (some (.int r)) μR 89 [some (.ref 179), some (.int w40_1), some (.int y2), some (.int y3), none] [.int s0] μ1 := by
  unfold f_X10_row_J89 at h
  refine tr_istore (pc' := 91) (lv' := [some (.ref 179), some (.int w40_1), some (.int y2), some (.int y3), some (.int s0)]) (show decode cX10_row 89 = .ok (.istore 4, 2) by decide +kernel) rfl (Nat.le_of_ble_eq_true rfl) rfl rfl ?_
  refine tr_iload (pc' := 93) (show decode cX10_row 91 = .ok (.iload 4, 2) by decide +kernel) rfl rfl ?_
  rcases hm_is h with ⟨hc, h⟩ | ⟨hc, h⟩
  · refine tr_if_eq_t (tgt := 122) hc (show decode cX10_row 93 = .ok (.ifCond .eq 29, 3) by decide +kernel) (by decide) ?_
    exact ok_X10_row_J122 hfr w40_1 c40 e160 hc40 he160 y2 y3 s0 μ1 hL h
  · refine tr_if_eq_f (tgt := 122) (pc' := 96) hc (show decode cX10_row 93 = .ok (.ifCond .eq 29, 3) by decide +kernel) (by decide) rfl ?_
    refine tr_aload_n (pc' := 97) (show decode cX10_row 96 = .ok (.aload_n 0, 1) by decide +kernel) rfl rfl rfl ?_
    refine tr_aload_n (pc' := 98) (show decode cX10_row 97 = .ok (.aload_n 0, 1) by decide +kernel) rfl rfl rfl ?_
    refine tr_getR (pc' := 101) fl_HandRingModel_41 (show decode cX10_row 98 = .ok (.getfield 41, 3) by decide +kernel) rfl (la_o hL (by decide) rfl) (la_r hL 123 rfl) ?_
    refine tr_iload_n (pc' := 102) (show decode cX10_row 101 = .ok (.iload_n 3, 1) by decide +kernel) rfl rfl rfl ?_
    obtain ⟨x6, ex6, h⟩ := hm_bs h
    refine tp_ldB (pc' := 103) (show decode cX10_row 102 = .ok (.baload, 1) by decide +kernel) rfl (la_a hL (by decide) rfl) ex6 ?_
    refine tr_aload_n (pc' := 104) (show decode cX10_row 103 = .ok (.aload_n 0, 1) by decide +kernel) rfl rfl rfl ?_
    refine tr_getR (pc' := 107) fl_HandRingModel_41 (show decode cX10_row 104 = .ok (.getfield 41, 3) by decide +kernel) rfl (la_o hL (by decide) rfl) (la_r hL 123 rfl) ?_
    refine tr_iload_n (pc' := 108) (show decode cX10_row 107 = .ok (.iload_n 3, 1) by decide +kernel) rfl rfl rfl ?_
    refine tr_iconst (pc' := 109) (v := (1 : Int32)) (show decode cX10_row 108 = .ok (.iconst 1, 1) by decide +kernel) rfl (by decide) ?_
    refine tr_iadd (pc' := 110) (show decode cX10_row 109 = .ok (.iadd, 1) by decide +kernel) rfl ?_
    obtain ⟨x7, ex7, h⟩ := hm_bs h
    refine tp_ldB (pc' := 111) (show decode cX10_row 110 = .ok (.baload, 1) by decide +kernel) rfl (la_a hL (by decide) rfl) ex7 ?_
    refine tr_aload_n (pc' := 112) (show decode cX10_row 111 = .ok (.aload_n 0, 1) by decide +kernel) rfl rfl rfl ?_
    refine tr_getR (pc' := 115) fl_HandRingModel_41 (show decode cX10_row 112 = .ok (.getfield 41, 3) by decide +kernel) rfl (la_o hL (by decide) rfl) (la_r hL 123 rfl) ?_
    refine tr_iload_n (pc' := 116) (show decode cX10_row 115 = .ok (.iload_n 3, 1) by decide +kernel) rfl rfl rfl ?_
    refine tr_iconst (pc' := 117) (v := (2 : Int32)) (show decode cX10_row 116 = .ok (.iconst 2, 1) by decide +kernel) rfl (by decide) ?_
    refine tr_iadd (pc' := 118) (show decode cX10_row 117 = .ok (.iadd, 1) by decide +kernel) rfl ?_
    obtain ⟨x8, ex8, h⟩ := hm_bs h
    refine tp_ldB (pc' := 119) (show decode cX10_row 118 = .ok (.baload, 1) by decide +kernel) rfl (la_a hL (by decide) rfl) ex8 ?_
    obtain ⟨μ10, ex9, h⟩ := hm_bs h
    have cx9 := ok_X10_adds (fr := fr - 1) (ν := ν) (by omega) x6 x7 x8 μ1 hL ex9
    refine tp_callV (pc' := 122) (As := [.int x6, .int x7, .int x8]) (fr1 := fr - 1) (ci := 10) okm_X10_adds lk_HandRingModel_129 (show decode cX10_row 119 = .ok (.invokevirtual 129, 3) by decide +kernel) rfl rfl rfl (by decide) (la_o hL (by decide) rfl) rfl rfl (Nat.le_of_ble_eq_true rfl) (by omega) cx9 (st' := []) rfl ?_
    replace hL := cx9.1
    exact ok_X10_row_J122 hfr w40_1 c40 e160 hc40 he160 y2 y3 s0 μ10 hL h
def f_X10_row_J88 (w40_1 : Int32) (c40 : Int32 → Int32 → hm_M → Option (Int32 × hm_M)) (e160 : Int32 → hm_M → Option (Int32 × hm_M)) (y2 : Int32) (y3 : Int32) (μ1 : hm_M) : Option (Int32 × hm_M) :=
  f_X10_row_J89 w40_1 c40 e160 (0 : Int32) y2 y3 μ1
theorem ok_X10_row_J88 {fr : Nat} (hfr : 2 ≤ fr) {ν : hm_N} {r : Int32} {μR : hm_M}  (w40_1 : Int32) (c40 : Int32 → Int32 → hm_M → Option (Int32 × hm_M)) (e160 : Int32 → hm_M → Option (Int32 × hm_M)) (hc40 : ∀ (y2 : Int32) (y3 : Int32)  (μ1 : hm_M), hm_LL ν μ1 → c40 y2 y3 μ1 = some (r, μR) → hm_T (hm_LL ν) m_X10_row fr 0 0 (some (.int r)) μR 40 [some (.ref 179), some (.int w40_1), some (.int y2), some (.int y3), none] [] μ1) (he160 : ∀ (y2 : Int32)  (μ1 : hm_M), hm_LL ν μ1 → e160 y2 μ1 = some (r, μR) → hm_T (hm_LL ν) m_X10_row fr 0 0 (some (.int r)) μR 160 [some (.ref 179), none, some (.int y2), none, none] [] μ1)  (y2 : Int32) (y3 : Int32) (μ1 : hm_M) (hL : hm_LL ν μ1) (h : f_X10_row_J88 w40_1 c40 e160 y2 y3 μ1 = some (r, μR)) : hm_T (hm_LL ν) m_X10_row fr 0 0 (some (.int r)) μR 88 [some (.ref 179), some (.int w40_1), some (.int y2), some (.int y3), none] [] μ1 := by
  unfold f_X10_row_J88 at h
  refine tr_iconst (pc' := 89) (v := (0 : Int32)) (show decode cX10_row 88 = .ok (.iconst 0, 1) by decide +kernel) rfl (by decide) ?_
  exact ok_X10_row_J89 hfr w40_1 c40 e160 hc40 he160 (0 : Int32) y2 y3 μ1 hL h
def f_X10_row_L40 (w40_1 : Int32) (e160 : Int32 → hm_M → Option (Int32 × hm_M)) : Nat → Int32 → Int32 → hm_M → Option (Int32 × hm_M)
  | 0, _, _, _ => none
  | n + 1, y2, y3, μ1 => (if w40_1 < (y3 + (3 : Int32)) then
  e160 y2 μ1
  else
  Option.bind (f_X10_many μ1) fun x4 =>
  (if (8 : Int32) ≤ x4 then
  f_X10_row_J88 w40_1 (f_X10_row_L40 w40_1 e160 n) e160 y2 y3 μ1
  else
  Option.bind (hm_ld μ1 186 400 y3) fun x11 =>
  Option.bind (hm_ld μ1 186 400 (y3 + (1 : Int32))) fun x12 =>
  Option.bind (hm_ld μ1 186 400 (y3 + (2 : Int32))) fun x13 =>
  Option.bind (f_X10_canBe x11 x12 x13) fun x14 =>
  (if x14 = 0 then
  f_X10_row_J88 w40_1 (f_X10_row_L40 w40_1 e160 n) e160 y2 y3 μ1
  else
  f_X10_row_J89 w40_1 (f_X10_row_L40 w40_1 e160 n) e160 (1 : Int32) y2 y3 μ1)))
theorem ok_X10_row_L40 {fr : Nat} (hfr : 2 ≤ fr) {ν : hm_N} {r : Int32} {μR : hm_M}  (w40_1 : Int32) (e160 : Int32 → hm_M → Option (Int32 × hm_M))  (he160 : ∀ (y2 : Int32)  (μ1 : hm_M), hm_LL ν μ1 → e160 y2 μ1 = some (r, μR) → hm_T (hm_LL ν) m_X10_row fr 0 0 (some (.int r)) μR 160 [some (.ref 179), none, some (.int y2), none, none] [] μ1)  : ∀ (n : Nat) (y2 : Int32) (y3 : Int32)  (μ1 : hm_M), hm_LL ν μ1 → f_X10_row_L40 w40_1 e160 n y2 y3 μ1 = some (r, μR) → hm_T (hm_LL ν) m_X10_row fr 0 0 (some (.int r)) μR 40 [some (.ref 179), some (.int w40_1), some (.int y2), some (.int y3), none] [] μ1 := by
  intro n
  induction n with
  | zero =>
    intro y2 y3 μ1 hL h
    unfold f_X10_row_L40 at h
    cases h
  | succ n ih =>
    intro y2 y3 μ1 hL h
    unfold f_X10_row_L40 at h
    refine tr_iload_n (pc' := 41) (show decode cX10_row 40 = .ok (.iload_n 3, 1) by decide +kernel) rfl rfl rfl ?_
    refine tr_iconst (pc' := 42) (v := (3 : Int32)) (show decode cX10_row 41 = .ok (.iconst 3, 1) by decide +kernel) rfl (by decide) ?_
    refine tr_iadd (pc' := 43) (show decode cX10_row 42 = .ok (.iadd, 1) by decide +kernel) rfl ?_
    refine tr_iload_n (pc' := 44) (show decode cX10_row 43 = .ok (.iload_n 1, 1) by decide +kernel) rfl rfl rfl ?_
    rcases hm_is h with ⟨hc, h⟩ | ⟨hc, h⟩
    · refine tr_icmp_gt_t (tgt := 160) hc (show decode cX10_row 44 = .ok (.if_icmp .gt 116, 3) by decide +kernel) (by decide) ?_
      refine hm_fgt [true, false, true, false, false] (lv' := [some (.ref 179), none, some (.int y2), none, none]) rfl ?_
      exact he160 y2 μ1 hL h
    · refine tr_icmp_gt_f (tgt := 160) (pc' := 47) hc (show decode cX10_row 44 = .ok (.if_icmp .gt 116, 3) by decide +kernel) (by decide) rfl ?_
      refine tr_aload_n (pc' := 48) (show decode cX10_row 47 = .ok (.aload_n 0, 1) by decide +kernel) rfl rfl rfl ?_
      obtain ⟨x4, ex4, h⟩ := hm_bs h
      have cx4 := ok_X10_many (fr := fr - 1) (ν := ν) (by omega) μ1 hL ex4
      refine tp_callV (pc' := 51) (As := []) (fr1 := fr - 1) (ci := 10) okm_X10_many lk_HandRingModel_118 (show decode cX10_row 48 = .ok (.invokevirtual 118, 3) by decide +kernel) rfl rfl rfl (by decide) (la_o hL (by decide) rfl) rfl rfl (Nat.le_of_ble_eq_true rfl) (by omega) cx4 (st' := [.int x4]) rfl ?_
      refine tr_bipush (pc' := 53) (v := (8 : Int32)) (show decode cX10_row 51 = .ok (.bipush 8, 2) by decide +kernel) rfl (by decide) ?_
      rcases hm_is h with ⟨hc, h⟩ | ⟨hc, h⟩
      · refine tr_icmp_ge_t (tgt := 88) hc (show decode cX10_row 53 = .ok (.if_icmp .ge 35, 3) by decide +kernel) (by decide) ?_
        exact ok_X10_row_J88 hfr w40_1 (f_X10_row_L40 w40_1 e160 n) e160 ih he160 y2 y3 μ1 hL h
      · refine tr_icmp_ge_f (tgt := 88) (pc' := 56) hc (show decode cX10_row 53 = .ok (.if_icmp .ge 35, 3) by decide +kernel) (by decide) rfl ?_
        refine tr_aload_n (pc' := 57) (show decode cX10_row 56 = .ok (.aload_n 0, 1) by decide +kernel) rfl rfl rfl ?_
        refine tr_getR (pc' := 60) fl_HandRingModel_41 (show decode cX10_row 57 = .ok (.getfield 41, 3) by decide +kernel) rfl (la_o hL (by decide) rfl) (la_r hL 123 rfl) ?_
        refine tr_iload_n (pc' := 61) (show decode cX10_row 60 = .ok (.iload_n 3, 1) by decide +kernel) rfl rfl rfl ?_
        obtain ⟨x11, ex11, h⟩ := hm_bs h
        refine tp_ldB (pc' := 62) (show decode cX10_row 61 = .ok (.baload, 1) by decide +kernel) rfl (la_a hL (by decide) rfl) ex11 ?_
        refine tr_aload_n (pc' := 63) (show decode cX10_row 62 = .ok (.aload_n 0, 1) by decide +kernel) rfl rfl rfl ?_
        refine tr_getR (pc' := 66) fl_HandRingModel_41 (show decode cX10_row 63 = .ok (.getfield 41, 3) by decide +kernel) rfl (la_o hL (by decide) rfl) (la_r hL 123 rfl) ?_
        refine tr_iload_n (pc' := 67) (show decode cX10_row 66 = .ok (.iload_n 3, 1) by decide +kernel) rfl rfl rfl ?_
        refine tr_iconst (pc' := 68) (v := (1 : Int32)) (show decode cX10_row 67 = .ok (.iconst 1, 1) by decide +kernel) rfl (by decide) ?_
        refine tr_iadd (pc' := 69) (show decode cX10_row 68 = .ok (.iadd, 1) by decide +kernel) rfl ?_
        obtain ⟨x12, ex12, h⟩ := hm_bs h
        refine tp_ldB (pc' := 70) (show decode cX10_row 69 = .ok (.baload, 1) by decide +kernel) rfl (la_a hL (by decide) rfl) ex12 ?_
        refine tr_aload_n (pc' := 71) (show decode cX10_row 70 = .ok (.aload_n 0, 1) by decide +kernel) rfl rfl rfl ?_
        refine tr_getR (pc' := 74) fl_HandRingModel_41 (show decode cX10_row 71 = .ok (.getfield 41, 3) by decide +kernel) rfl (la_o hL (by decide) rfl) (la_r hL 123 rfl) ?_
        refine tr_iload_n (pc' := 75) (show decode cX10_row 74 = .ok (.iload_n 3, 1) by decide +kernel) rfl rfl rfl ?_
        refine tr_iconst (pc' := 76) (v := (2 : Int32)) (show decode cX10_row 75 = .ok (.iconst 2, 1) by decide +kernel) rfl (by decide) ?_
        refine tr_iadd (pc' := 77) (show decode cX10_row 76 = .ok (.iadd, 1) by decide +kernel) rfl ?_
        obtain ⟨x13, ex13, h⟩ := hm_bs h
        refine tp_ldB (pc' := 78) (show decode cX10_row 77 = .ok (.baload, 1) by decide +kernel) rfl (la_a hL (by decide) rfl) ex13 ?_
        obtain ⟨x14, ex14, h⟩ := hm_bs h
        have cx14 := ok_X10_canBe (fr := fr - 1) (ν := ν) (by omega) x11 x12 x13 μ1 hL ex14
        refine tp_callS (pc' := 81) (As := [.int x11, .int x12, .int x13]) (fr1 := fr - 1) okm_X10_canBe lk_HandRingModel_126 (show decode cX10_row 78 = .ok (.invokestatic 126, 3) by decide +kernel) rfl rfl rfl (Nat.le_of_ble_eq_true rfl) (by omega) cx14 (st' := [.int x14]) rfl ?_
        rcases hm_is h with ⟨hc, h⟩ | ⟨hc, h⟩
        · refine tr_if_eq_t (tgt := 88) hc (show decode cX10_row 81 = .ok (.ifCond .eq 7, 3) by decide +kernel) (by decide) ?_
          exact ok_X10_row_J88 hfr w40_1 (f_X10_row_L40 w40_1 e160 n) e160 ih he160 y2 y3 μ1 hL h
        · refine tr_if_eq_f (tgt := 88) (pc' := 84) hc (show decode cX10_row 81 = .ok (.ifCond .eq 7, 3) by decide +kernel) (by decide) rfl ?_
          refine tr_iconst (pc' := 85) (v := (1 : Int32)) (show decode cX10_row 84 = .ok (.iconst 1, 1) by decide +kernel) rfl (by decide) ?_
          refine tr_goto (tgt := 89) (show decode cX10_row 85 = .ok (.goto 4, 3) by decide +kernel) rfl ?_
          exact ok_X10_row_J89 hfr w40_1 (f_X10_row_L40 w40_1 e160 n) e160 ih he160 (1 : Int32) y2 y3 μ1 hL h
def f_X10_row_J35 (s0 : Int32) (y1 : Int32) (y2 : Int32) (μ1 : hm_M) : Option (Int32 × hm_M) :=
  Option.bind (hm_pI μ1 179 6 s0) fun μ3 =>
  f_X10_row_L40 y1 (fun z15_2 μz15 => hm_b2 (f_X10_settled z15_2 μz15) fun x16 μ17 =>
  some (x16, μ17)) hm_fu y2 (0 : Int32) μ3
theorem ok_X10_row_J35 {fr : Nat} (hfr : 2 ≤ fr) {ν : hm_N} {r : Int32} {μR : hm_M}      (s0 : Int32) (y1 : Int32) (y2 : Int32) (μ1 : hm_M) (hL : hm_LL ν μ1) (h : f_X10_row_J35 s0 y1 y2 μ1 = some (r, μR)) : hm_T (hm_LL ν) m_X10_row fr 0 0 (some (.int r)) μR 35 [some (.ref 179), some (.int y1), some (.int y2), none, none] [.int s0, .ref 179] μ1 := by
  unfold f_X10_row_J35 at h
  obtain ⟨μ3, eμ3, h⟩ := hm_bs h
  refine tp_pI (pc' := 38) fl_HandRingModel_165 (show decode cX10_row 35 = .ok (.putfield 165, 3) by decide +kernel) rfl (la_o hL (by decide) rfl) eμ3 ?_
  replace hL := hL.same (hm_pI_s eμ3)
  refine tr_iconst (pc' := 39) (v := (0 : Int32)) (show decode cX10_row 38 = .ok (.iconst 0, 1) by decide +kernel) rfl (by decide) ?_
  refine tr_istore_n (pc' := 40) (lv' := [some (.ref 179), some (.int y1), some (.int y2), some (.int (0 : Int32)), none]) (show decode cX10_row 39 = .ok (.istore_n 3, 1) by decide +kernel) rfl rfl (Nat.le_of_ble_eq_true rfl) rfl rfl ?_
  refine ok_X10_row_L40 hfr y1 _ ?_ _ y2 (0 : Int32) μ3 hL h
  · intro z15_2 μz15 hL h
    refine tr_aload_n (pc' := 161) (show decode cX10_row 160 = .ok (.aload_n 0, 1) by decide +kernel) rfl rfl rfl ?_
    refine tr_iload_n (pc' := 162) (show decode cX10_row 161 = .ok (.iload_n 2, 1) by decide +kernel) rfl rfl rfl ?_
    obtain ⟨x16, μ17, ex16, h⟩ := hm_b2s h
    have cx16 := ok_X10_settled (fr := fr - 1) (ν := ν) (by omega) z15_2 μz15 hL ex16
    refine tp_callV (pc' := 165) (As := [.int z15_2]) (fr1 := fr - 1) (ci := 10) okm_X10_settled lk_HandRingModel_115 (show decode cX10_row 162 = .ok (.invokevirtual 115, 3) by decide +kernel) rfl rfl rfl (by decide) (la_o hL (by decide) rfl) rfl rfl (Nat.le_of_ble_eq_true rfl) (by omega) cx16 (st' := [.int x16]) rfl ?_
    replace hL := cx16.1
    cases h
    exact tr_iret rfl (show decode cX10_row 165 = .ok (.ireturn, 1) by decide +kernel) hL
def f_X10_row (μ : hm_M) : Option (Int32 × hm_M) :=
  Option.bind (hm_pI μ 179 13 (0 : Int32)) fun μ2 =>
  (if (μ.1 179 13) = 0 then
  hm_b2 (f_X10_refuses (-6 : Int32) μ2) fun x18 μ19 =>
  some (x18, μ19)
  else
  (if ((μ.1 179 13) - (μ.1 179 13) / (3 : Int32) * (3 : Int32)) = 0 then
  f_X10_row_J35 (0 : Int32) (μ.1 179 13) (0 : Int32) μ2
  else
  f_X10_row_J35 (1 : Int32) (μ.1 179 13) (0 : Int32) μ2))
set_option maxRecDepth 100000 in
theorem ok_X10_row {fr : Nat} (hfr : 2 ≤ fr) {ν : hm_N} {r : Int32} {μR : hm_M}    (μ : hm_M) (hL : hm_LL ν μ) (h : f_X10_row μ = some (r, μR)) : hm_CC (hm_LL ν) m_X10_row fr 0 0 [.ref 179] μ (some (.int r)) μR := by
  refine hm_enter (lv := [some (.ref 179), none, none, none, none]) (by decide) rfl (Nat.le_of_ble_eq_true rfl) ?_
  unfold f_X10_row at h
  refine tr_aload_n (pc' := 1) (show decode cX10_row 0 = .ok (.aload_n 0, 1) by decide +kernel) rfl rfl rfl ?_
  refine tr_getI (pc' := 4) fl_HandRingModel_162 (show decode cX10_row 1 = .ok (.getfield 162, 3) by decide +kernel) rfl (la_o hL (by decide) rfl) ?_
  refine tr_istore_n (pc' := 5) (lv' := [some (.ref 179), some (.int (μ.1 179 13)), none, none, none]) (show decode cX10_row 4 = .ok (.istore_n 1, 1) by decide +kernel) rfl rfl (Nat.le_of_ble_eq_true rfl) rfl rfl ?_
  refine tr_aload_n (pc' := 6) (show decode cX10_row 5 = .ok (.aload_n 0, 1) by decide +kernel) rfl rfl rfl ?_
  refine tr_iconst (pc' := 7) (v := (0 : Int32)) (show decode cX10_row 6 = .ok (.iconst 0, 1) by decide +kernel) rfl (by decide) ?_
  obtain ⟨μ2, eμ2, h⟩ := hm_bs h
  refine tp_pI (pc' := 10) fl_HandRingModel_162 (show decode cX10_row 7 = .ok (.putfield 162, 3) by decide +kernel) rfl (la_o hL (by decide) rfl) eμ2 ?_
  replace hL := hL.same (hm_pI_s eμ2)
  refine tr_iload_n (pc' := 11) (show decode cX10_row 10 = .ok (.iload_n 1, 1) by decide +kernel) rfl rfl rfl ?_
  rcases hm_is h with ⟨hc, h⟩ | ⟨hc, h⟩
  · refine tr_if_ne_f (tgt := 21) (pc' := 14) hc (show decode cX10_row 11 = .ok (.ifCond .ne 10, 3) by decide +kernel) (by decide) rfl ?_
    refine tr_aload_n (pc' := 15) (show decode cX10_row 14 = .ok (.aload_n 0, 1) by decide +kernel) rfl rfl rfl ?_
    refine tr_bipush (pc' := 17) (v := (-6 : Int32)) (show decode cX10_row 15 = .ok (.bipush (-6), 2) by decide +kernel) rfl (by decide) ?_
    obtain ⟨x18, μ19, ex18, h⟩ := hm_b2s h
    have cx18 := ok_X10_refuses (fr := fr - 1) (ν := ν) (by omega) (-6 : Int32) μ2 hL ex18
    refine tp_callV (pc' := 20) (As := [.int (-6 : Int32)]) (fr1 := fr - 1) (ci := 10) okm_X10_refuses lk_HandRingModel_112 (show decode cX10_row 17 = .ok (.invokevirtual 112, 3) by decide +kernel) rfl rfl rfl (by decide) (la_o hL (by decide) rfl) rfl rfl (Nat.le_of_ble_eq_true rfl) (by omega) cx18 (st' := [.int x18]) rfl ?_
    replace hL := cx18.1
    cases h
    exact tr_iret rfl (show decode cX10_row 20 = .ok (.ireturn, 1) by decide +kernel) hL
  · refine tr_if_ne_t (tgt := 21) hc (show decode cX10_row 11 = .ok (.ifCond .ne 10, 3) by decide +kernel) (by decide) ?_
    refine tr_iconst (pc' := 22) (v := (0 : Int32)) (show decode cX10_row 21 = .ok (.iconst 0, 1) by decide +kernel) rfl (by decide) ?_
    refine tr_istore_n (pc' := 23) (lv' := [some (.ref 179), some (.int (μ.1 179 13)), some (.int (0 : Int32)), none, none]) (show decode cX10_row 22 = .ok (.istore_n 2, 1) by decide +kernel) rfl rfl (Nat.le_of_ble_eq_true rfl) rfl rfl ?_
    refine tr_aload_n (pc' := 24) (show decode cX10_row 23 = .ok (.aload_n 0, 1) by decide +kernel) rfl rfl rfl ?_
    refine tr_iload_n (pc' := 25) (show decode cX10_row 24 = .ok (.iload_n 1, 1) by decide +kernel) rfl rfl rfl ?_
    refine tr_iconst (pc' := 26) (v := (3 : Int32)) (show decode cX10_row 25 = .ok (.iconst 3, 1) by decide +kernel) rfl (by decide) ?_
    refine tr_irem (pc' := 27) (show decode cX10_row 26 = .ok (.irem, 1) by decide +kernel) rfl (by decide) ?_
    rcases hm_is h with ⟨hc, h⟩ | ⟨hc, h⟩
    · refine tr_if_ne_f (tgt := 34) (pc' := 30) hc (show decode cX10_row 27 = .ok (.ifCond .ne 7, 3) by decide +kernel) (by decide) rfl ?_
      refine tr_iconst (pc' := 31) (v := (0 : Int32)) (show decode cX10_row 30 = .ok (.iconst 0, 1) by decide +kernel) rfl (by decide) ?_
      refine tr_goto (tgt := 35) (show decode cX10_row 31 = .ok (.goto 4, 3) by decide +kernel) rfl ?_
      exact ok_X10_row_J35 hfr (0 : Int32) (μ.1 179 13) (0 : Int32) μ2 hL h
    · refine tr_if_ne_t (tgt := 34) hc (show decode cX10_row 27 = .ok (.ifCond .ne 7, 3) by decide +kernel) (by decide) ?_
      refine tr_iconst (pc' := 35) (v := (1 : Int32)) (show decode cX10_row 34 = .ok (.iconst 1, 1) by decide +kernel) rfl (by decide) ?_
      exact ok_X10_row_J35 hfr (1 : Int32) (μ.1 179 13) (0 : Int32) μ2 hL h
def f_X10_gaps (μ : hm_M) : Option Int32 :=
  some (μ.1 179 6)
set_option maxRecDepth 100000 in
theorem ok_X10_gaps {fr : Nat} (hfr : 0 ≤ fr) {ν : hm_N} {r : Int32}    (μ : hm_M) (hL : hm_LL ν μ) (h : f_X10_gaps μ = some r) : hm_CC (hm_LL ν) m_X10_gaps fr 0 0 [.ref 179] μ (some (.int r)) μ := by
  refine hm_enter (lv := [some (.ref 179)]) (by decide) rfl (Nat.le_of_ble_eq_true rfl) ?_
  unfold f_X10_gaps at h
  refine tr_aload_n (pc' := 1) (show decode cX10_gaps 0 = .ok (.aload_n 0, 1) by decide +kernel) rfl rfl rfl ?_
  refine tr_getI (pc' := 4) fl_HandRingModel_165 (show decode cX10_gaps 1 = .ok (.getfield 165, 3) by decide +kernel) rfl (la_o hL (by decide) rfl) ?_
  cases h
  exact tr_iret rfl (show decode cX10_gaps 4 = .ok (.ireturn, 1) by decide +kernel) hL
def f_X10_feed_L55 (v1 : Int32) (v2 : Int32) (v3 : Int32) (v4 : Int32) (v5 : Int32) (e101 : hm_M → Option (Int32 × hm_M)) : Nat → Int32 → hm_M → Option (Int32 × hm_M)
  | 0, _, _ => none
  | n + 1, y6, μ1 => (if (20 : Int32) ≤ y6 then
  e101 μ1
  else
  Option.bind (hm_ld μ1 187 5 (y6 / (4 : Int32))) fun x7 =>
  Option.bind (hm_sd μ1 186 400 ((μ1.1 179 13) + y6) (vp_nar .byte ((x7 >>> (((24 : Int32) - ((8 : Int32) * (y6 - y6 / (4 : Int32) * (4 : Int32)))) &&& 31)).toInt8.toInt32))) fun μ8 =>
  (f_X10_feed_L55 v1 v2 v3 v4 v5 e101 n) (y6 + (1 : Int32)) μ8)
theorem ok_X10_feed_L55 {fr : Nat} (hfr : 0 ≤ fr) {ν : hm_N} {r : Int32} {μR : hm_M}  (v1 : Int32) (v2 : Int32) (v3 : Int32) (v4 : Int32) (v5 : Int32) (e101 : hm_M → Option (Int32 × hm_M))  (he101 : ∀   (μ1 : hm_M), hm_LL ν μ1 → e101 μ1 = some (r, μR) → hm_T (hm_LL ν) m_X10_feed fr 0 0 (some (.int r)) μR 101 [some (.ref 179), none, none, none, none, none, none] [] μ1)  : ∀ (n : Nat) (y6 : Int32)  (μ1 : hm_M), hm_LL ν μ1 → f_X10_feed_L55 v1 v2 v3 v4 v5 e101 n y6 μ1 = some (r, μR) → hm_T (hm_LL ν) m_X10_feed fr 0 0 (some (.int r)) μR 55 [some (.ref 179), none, none, none, none, none, some (.int y6)] [] μ1 := by
  intro n
  induction n with
  | zero =>
    intro y6 μ1 hL h
    unfold f_X10_feed_L55 at h
    cases h
  | succ n ih =>
    intro y6 μ1 hL h
    unfold f_X10_feed_L55 at h
    refine tr_iload (pc' := 57) (show decode cX10_feed 55 = .ok (.iload 6, 2) by decide +kernel) rfl rfl ?_
    refine tr_bipush (pc' := 59) (v := (20 : Int32)) (show decode cX10_feed 57 = .ok (.bipush 20, 2) by decide +kernel) rfl (by decide) ?_
    rcases hm_is h with ⟨hc, h⟩ | ⟨hc, h⟩
    · refine tr_icmp_ge_t (tgt := 101) hc (show decode cX10_feed 59 = .ok (.if_icmp .ge 42, 3) by decide +kernel) (by decide) ?_
      refine hm_fgt [true, false, false, false, false, false, false] (lv' := [some (.ref 179), none, none, none, none, none, none]) rfl ?_
      exact he101 μ1 hL h
    · refine tr_icmp_ge_f (tgt := 101) (pc' := 62) hc (show decode cX10_feed 59 = .ok (.if_icmp .ge 42, 3) by decide +kernel) (by decide) rfl ?_
      refine tr_aload_n (pc' := 63) (show decode cX10_feed 62 = .ok (.aload_n 0, 1) by decide +kernel) rfl rfl rfl ?_
      refine tr_getR (pc' := 66) fl_HandRingModel_41 (show decode cX10_feed 63 = .ok (.getfield 41, 3) by decide +kernel) rfl (la_o hL (by decide) rfl) (la_r hL 123 rfl) ?_
      refine tr_aload_n (pc' := 67) (show decode cX10_feed 66 = .ok (.aload_n 0, 1) by decide +kernel) rfl rfl rfl ?_
      refine tr_getI (pc' := 70) fl_HandRingModel_162 (show decode cX10_feed 67 = .ok (.getfield 162, 3) by decide +kernel) rfl (la_o hL (by decide) rfl) ?_
      refine tr_iload (pc' := 72) (show decode cX10_feed 70 = .ok (.iload 6, 2) by decide +kernel) rfl rfl ?_
      refine tr_iadd (pc' := 73) (show decode cX10_feed 72 = .ok (.iadd, 1) by decide +kernel) rfl ?_
      refine tr_aload_n (pc' := 74) (show decode cX10_feed 73 = .ok (.aload_n 0, 1) by decide +kernel) rfl rfl rfl ?_
      refine tr_getR (pc' := 77) fl_HandRingModel_44 (show decode cX10_feed 74 = .ok (.getfield 44, 3) by decide +kernel) rfl (la_o hL (by decide) rfl) (la_r hL 124 rfl) ?_
      refine tr_iload (pc' := 79) (show decode cX10_feed 77 = .ok (.iload 6, 2) by decide +kernel) rfl rfl ?_
      refine tr_iconst (pc' := 80) (v := (4 : Int32)) (show decode cX10_feed 79 = .ok (.iconst 4, 1) by decide +kernel) rfl (by decide) ?_
      refine tr_idiv (pc' := 81) (show decode cX10_feed 80 = .ok (.idiv, 1) by decide +kernel) rfl (by decide) ?_
      obtain ⟨x7, ex7, h⟩ := hm_bs h
      refine tp_ldI (pc' := 82) (show decode cX10_feed 81 = .ok (.iaload, 1) by decide +kernel) rfl (la_a hL (by decide) rfl) ex7 ?_
      refine tr_bipush (pc' := 84) (v := (24 : Int32)) (show decode cX10_feed 82 = .ok (.bipush 24, 2) by decide +kernel) rfl (by decide) ?_
      refine tr_bipush (pc' := 86) (v := (8 : Int32)) (show decode cX10_feed 84 = .ok (.bipush 8, 2) by decide +kernel) rfl (by decide) ?_
      refine tr_iload (pc' := 88) (show decode cX10_feed 86 = .ok (.iload 6, 2) by decide +kernel) rfl rfl ?_
      refine tr_iconst (pc' := 89) (v := (4 : Int32)) (show decode cX10_feed 88 = .ok (.iconst 4, 1) by decide +kernel) rfl (by decide) ?_
      refine tr_irem (pc' := 90) (show decode cX10_feed 89 = .ok (.irem, 1) by decide +kernel) rfl (by decide) ?_
      refine tr_imul (pc' := 91) (show decode cX10_feed 90 = .ok (.imul, 1) by decide +kernel) rfl ?_
      refine tr_isub (pc' := 92) (show decode cX10_feed 91 = .ok (.isub, 1) by decide +kernel) rfl ?_
      refine tr_ishr (pc' := 93) (show decode cX10_feed 92 = .ok (.ishr, 1) by decide +kernel) rfl ?_
      refine tr_i2b (pc' := 94) (show decode cX10_feed 93 = .ok (.i2b, 1) by decide +kernel) rfl ?_
      obtain ⟨μ8, eμ8, h⟩ := hm_bs h
      refine tp_sdB (pc' := 95) (show decode cX10_feed 94 = .ok (.bastore, 1) by decide +kernel) rfl (la_a hL (by decide) rfl) eμ8 ?_
      replace hL := hL.same (hm_sd_s eμ8)
      refine tr_iinc (pc' := 98) (v := y6 + (1 : Int32)) (lv' := [some (.ref 179), none, none, none, none, none, some (.int (y6 + (1 : Int32)))]) (show decode cX10_feed 95 = .ok (.iinc 6 1, 3) by decide +kernel) rfl rfl rfl (Nat.le_of_ble_eq_true rfl) rfl rfl ?_
      refine tr_goto (tgt := 55) (show decode cX10_feed 98 = .ok (.goto (-43), 3) by decide +kernel) rfl ?_
      exact ih (y6 + (1 : Int32)) μ8 hL h
def f_X10_feed (v1 : Int32) (v2 : Int32) (v3 : Int32) (v4 : Int32) (v5 : Int32) (μ : hm_M) : Option (Int32 × hm_M) :=
  (if ((μ.1 179 13) + (20 : Int32)) ≤ (400 : Int32) then
  Option.bind (hm_sd μ 187 5 (0 : Int32) v1) fun μ2 =>
  Option.bind (hm_sd μ2 187 5 (1 : Int32) v2) fun μ3 =>
  Option.bind (hm_sd μ3 187 5 (2 : Int32) v3) fun μ4 =>
  Option.bind (hm_sd μ4 187 5 (3 : Int32) v4) fun μ5 =>
  Option.bind (hm_sd μ5 187 5 (4 : Int32) v5) fun μ6 =>
  f_X10_feed_L55 v1 v2 v3 v4 v5 (fun μz9 => Option.bind (hm_pI μz9 179 13 ((μz9.1 179 13) + (20 : Int32))) fun μ10 =>
  some (μ10.1 179 13, μ10)) hm_fu (0 : Int32) μ6
  else
  some ((-1 : Int32), μ))
set_option maxRecDepth 100000 in
theorem ok_X10_feed {fr : Nat} (hfr : 0 ≤ fr) {ν : hm_N} {r : Int32} {μR : hm_M}  (v1 : Int32) (v2 : Int32) (v3 : Int32) (v4 : Int32) (v5 : Int32)  (μ : hm_M) (hL : hm_LL ν μ) (h : f_X10_feed v1 v2 v3 v4 v5 μ = some (r, μR)) : hm_CC (hm_LL ν) m_X10_feed fr 0 0 [.ref 179, .int v1, .int v2, .int v3, .int v4, .int v5] μ (some (.int r)) μR := by
  refine hm_enter (lv := [some (.ref 179), some (.int v1), some (.int v2), some (.int v3), some (.int v4), some (.int v5), none]) (by decide) rfl (Nat.le_of_ble_eq_true rfl) ?_
  unfold f_X10_feed at h
  refine tr_aload_n (pc' := 1) (show decode cX10_feed 0 = .ok (.aload_n 0, 1) by decide +kernel) rfl rfl rfl ?_
  refine tr_getI (pc' := 4) fl_HandRingModel_162 (show decode cX10_feed 1 = .ok (.getfield 162, 3) by decide +kernel) rfl (la_o hL (by decide) rfl) ?_
  refine tr_bipush (pc' := 6) (v := (20 : Int32)) (show decode cX10_feed 4 = .ok (.bipush 20, 2) by decide +kernel) rfl (by decide) ?_
  refine tr_iadd (pc' := 7) (show decode cX10_feed 6 = .ok (.iadd, 1) by decide +kernel) rfl ?_
  refine tr_sipush (pc' := 10) (v := (400 : Int32)) (show decode cX10_feed 7 = .ok (.sipush 400, 3) by decide +kernel) rfl (by decide) ?_
  rcases hm_is h with ⟨hc, h⟩ | ⟨hc, h⟩
  · refine tr_icmp_le_t (tgt := 15) hc (show decode cX10_feed 10 = .ok (.if_icmp .le 5, 3) by decide +kernel) (by decide) ?_
    refine tr_aload_n (pc' := 16) (show decode cX10_feed 15 = .ok (.aload_n 0, 1) by decide +kernel) rfl rfl rfl ?_
    refine tr_getR (pc' := 19) fl_HandRingModel_44 (show decode cX10_feed 16 = .ok (.getfield 44, 3) by decide +kernel) rfl (la_o hL (by decide) rfl) (la_r hL 124 rfl) ?_
    refine tr_iconst (pc' := 20) (v := (0 : Int32)) (show decode cX10_feed 19 = .ok (.iconst 0, 1) by decide +kernel) rfl (by decide) ?_
    refine tr_iload_n (pc' := 21) (show decode cX10_feed 20 = .ok (.iload_n 1, 1) by decide +kernel) rfl rfl rfl ?_
    obtain ⟨μ2, eμ2, h⟩ := hm_bs h
    refine tp_sdI (pc' := 22) (show decode cX10_feed 21 = .ok (.iastore, 1) by decide +kernel) rfl (la_a hL (by decide) rfl) eμ2 ?_
    replace hL := hL.same (hm_sd_s eμ2)
    refine tr_aload_n (pc' := 23) (show decode cX10_feed 22 = .ok (.aload_n 0, 1) by decide +kernel) rfl rfl rfl ?_
    refine tr_getR (pc' := 26) fl_HandRingModel_44 (show decode cX10_feed 23 = .ok (.getfield 44, 3) by decide +kernel) rfl (la_o hL (by decide) rfl) (la_r hL 124 rfl) ?_
    refine tr_iconst (pc' := 27) (v := (1 : Int32)) (show decode cX10_feed 26 = .ok (.iconst 1, 1) by decide +kernel) rfl (by decide) ?_
    refine tr_iload_n (pc' := 28) (show decode cX10_feed 27 = .ok (.iload_n 2, 1) by decide +kernel) rfl rfl rfl ?_
    obtain ⟨μ3, eμ3, h⟩ := hm_bs h
    refine tp_sdI (pc' := 29) (show decode cX10_feed 28 = .ok (.iastore, 1) by decide +kernel) rfl (la_a hL (by decide) rfl) eμ3 ?_
    replace hL := hL.same (hm_sd_s eμ3)
    refine tr_aload_n (pc' := 30) (show decode cX10_feed 29 = .ok (.aload_n 0, 1) by decide +kernel) rfl rfl rfl ?_
    refine tr_getR (pc' := 33) fl_HandRingModel_44 (show decode cX10_feed 30 = .ok (.getfield 44, 3) by decide +kernel) rfl (la_o hL (by decide) rfl) (la_r hL 124 rfl) ?_
    refine tr_iconst (pc' := 34) (v := (2 : Int32)) (show decode cX10_feed 33 = .ok (.iconst 2, 1) by decide +kernel) rfl (by decide) ?_
    refine tr_iload_n (pc' := 35) (show decode cX10_feed 34 = .ok (.iload_n 3, 1) by decide +kernel) rfl rfl rfl ?_
    obtain ⟨μ4, eμ4, h⟩ := hm_bs h
    refine tp_sdI (pc' := 36) (show decode cX10_feed 35 = .ok (.iastore, 1) by decide +kernel) rfl (la_a hL (by decide) rfl) eμ4 ?_
    replace hL := hL.same (hm_sd_s eμ4)
    refine tr_aload_n (pc' := 37) (show decode cX10_feed 36 = .ok (.aload_n 0, 1) by decide +kernel) rfl rfl rfl ?_
    refine tr_getR (pc' := 40) fl_HandRingModel_44 (show decode cX10_feed 37 = .ok (.getfield 44, 3) by decide +kernel) rfl (la_o hL (by decide) rfl) (la_r hL 124 rfl) ?_
    refine tr_iconst (pc' := 41) (v := (3 : Int32)) (show decode cX10_feed 40 = .ok (.iconst 3, 1) by decide +kernel) rfl (by decide) ?_
    refine tr_iload (pc' := 43) (show decode cX10_feed 41 = .ok (.iload 4, 2) by decide +kernel) rfl rfl ?_
    obtain ⟨μ5, eμ5, h⟩ := hm_bs h
    refine tp_sdI (pc' := 44) (show decode cX10_feed 43 = .ok (.iastore, 1) by decide +kernel) rfl (la_a hL (by decide) rfl) eμ5 ?_
    replace hL := hL.same (hm_sd_s eμ5)
    refine tr_aload_n (pc' := 45) (show decode cX10_feed 44 = .ok (.aload_n 0, 1) by decide +kernel) rfl rfl rfl ?_
    refine tr_getR (pc' := 48) fl_HandRingModel_44 (show decode cX10_feed 45 = .ok (.getfield 44, 3) by decide +kernel) rfl (la_o hL (by decide) rfl) (la_r hL 124 rfl) ?_
    refine tr_iconst (pc' := 49) (v := (4 : Int32)) (show decode cX10_feed 48 = .ok (.iconst 4, 1) by decide +kernel) rfl (by decide) ?_
    refine tr_iload (pc' := 51) (show decode cX10_feed 49 = .ok (.iload 5, 2) by decide +kernel) rfl rfl ?_
    obtain ⟨μ6, eμ6, h⟩ := hm_bs h
    refine tp_sdI (pc' := 52) (show decode cX10_feed 51 = .ok (.iastore, 1) by decide +kernel) rfl (la_a hL (by decide) rfl) eμ6 ?_
    replace hL := hL.same (hm_sd_s eμ6)
    refine tr_iconst (pc' := 53) (v := (0 : Int32)) (show decode cX10_feed 52 = .ok (.iconst 0, 1) by decide +kernel) rfl (by decide) ?_
    refine tr_istore (pc' := 55) (lv' := [some (.ref 179), some (.int v1), some (.int v2), some (.int v3), some (.int v4), some (.int v5), some (.int (0 : Int32))]) (show decode cX10_feed 53 = .ok (.istore 6, 2) by decide +kernel) rfl (Nat.le_of_ble_eq_true rfl) rfl rfl ?_
    refine hm_fgt [true, false, false, false, false, false, true] (lv' := [some (.ref 179), none, none, none, none, none, some (.int (0 : Int32))]) rfl ?_
    refine ok_X10_feed_L55 hfr _ _ _ _ _ _ ?_ _ (0 : Int32) μ6 hL h
    · intro μz9 hL h
      refine tr_aload_n (pc' := 102) (show decode cX10_feed 101 = .ok (.aload_n 0, 1) by decide +kernel) rfl rfl rfl ?_
      refine tr_dup (pc' := 103) (show decode cX10_feed 102 = .ok (.dup, 1) by decide +kernel) rfl rfl ?_
      refine tr_getI (pc' := 106) fl_HandRingModel_162 (show decode cX10_feed 103 = .ok (.getfield 162, 3) by decide +kernel) rfl (la_o hL (by decide) rfl) ?_
      refine tr_bipush (pc' := 108) (v := (20 : Int32)) (show decode cX10_feed 106 = .ok (.bipush 20, 2) by decide +kernel) rfl (by decide) ?_
      refine tr_iadd (pc' := 109) (show decode cX10_feed 108 = .ok (.iadd, 1) by decide +kernel) rfl ?_
      obtain ⟨μ10, eμ10, h⟩ := hm_bs h
      refine tp_pI (pc' := 112) fl_HandRingModel_162 (show decode cX10_feed 109 = .ok (.putfield 162, 3) by decide +kernel) rfl (la_o hL (by decide) rfl) eμ10 ?_
      replace hL := hL.same (hm_pI_s eμ10)
      refine tr_aload_n (pc' := 113) (show decode cX10_feed 112 = .ok (.aload_n 0, 1) by decide +kernel) rfl rfl rfl ?_
      refine tr_getI (pc' := 116) fl_HandRingModel_162 (show decode cX10_feed 113 = .ok (.getfield 162, 3) by decide +kernel) rfl (la_o hL (by decide) rfl) ?_
      cases h
      exact tr_iret rfl (show decode cX10_feed 116 = .ok (.ireturn, 1) by decide +kernel) hL
  · refine tr_icmp_le_f (tgt := 15) (pc' := 13) hc (show decode cX10_feed 10 = .ok (.if_icmp .le 5, 3) by decide +kernel) (by decide) rfl ?_
    refine tr_iconst (pc' := 14) (v := (-1 : Int32)) (show decode cX10_feed 13 = .ok (.iconst (-1), 1) by decide +kernel) rfl (by decide) ?_
    cases h
    exact tr_iret rfl (show decode cX10_feed 14 = .ok (.ireturn, 1) by decide +kernel) hL
def f_X10_end (v1 : Int32) (μ : hm_M) : Option (Int32 × hm_M) :=
  Option.bind (f_X10_lies v1 (0 : Int32) (μ.1 179 13)) fun x2 =>
  (if x2 = 0 then
  some ((-1 : Int32), μ)
  else
  Option.bind (hm_pI μ 179 13 v1) fun μ3 =>
  some (v1, μ3))
set_option maxRecDepth 100000 in
theorem ok_X10_end {fr : Nat} (hfr : 1 ≤ fr) {ν : hm_N} {r : Int32} {μR : hm_M}  (v1 : Int32)  (μ : hm_M) (hL : hm_LL ν μ) (h : f_X10_end v1 μ = some (r, μR)) : hm_CC (hm_LL ν) m_X10_end fr 0 0 [.ref 179, .int v1] μ (some (.int r)) μR := by
  refine hm_enter (lv := [some (.ref 179), some (.int v1)]) (by decide) rfl (Nat.le_of_ble_eq_true rfl) ?_
  unfold f_X10_end at h
  refine tr_iload_n (pc' := 1) (show decode cX10_end 0 = .ok (.iload_n 1, 1) by decide +kernel) rfl rfl rfl ?_
  refine tr_iconst (pc' := 2) (v := (0 : Int32)) (show decode cX10_end 1 = .ok (.iconst 0, 1) by decide +kernel) rfl (by decide) ?_
  refine tr_aload_n (pc' := 3) (show decode cX10_end 2 = .ok (.aload_n 0, 1) by decide +kernel) rfl rfl rfl ?_
  refine tr_getI (pc' := 6) fl_HandRingModel_162 (show decode cX10_end 3 = .ok (.getfield 162, 3) by decide +kernel) rfl (la_o hL (by decide) rfl) ?_
  obtain ⟨x2, ex2, h⟩ := hm_bs h
  have cx2 := ok_X10_lies (fr := fr - 1) (ν := ν) (by omega) v1 (0 : Int32) (μ.1 179 13) μ hL ex2
  refine tp_callS (pc' := 9) (As := [.int v1, .int (0 : Int32), .int (μ.1 179 13)]) (fr1 := fr - 1) okm_X10_lies lk_HandRingModel_108 (show decode cX10_end 6 = .ok (.invokestatic 108, 3) by decide +kernel) rfl rfl rfl (Nat.le_of_ble_eq_true rfl) (by omega) cx2 (st' := [.int x2]) rfl ?_
  rcases hm_is h with ⟨hc, h⟩ | ⟨hc, h⟩
  · refine tr_if_ne_f (tgt := 14) (pc' := 12) hc (show decode cX10_end 9 = .ok (.ifCond .ne 5, 3) by decide +kernel) (by decide) rfl ?_
    refine tr_iconst (pc' := 13) (v := (-1 : Int32)) (show decode cX10_end 12 = .ok (.iconst (-1), 1) by decide +kernel) rfl (by decide) ?_
    cases h
    exact tr_iret rfl (show decode cX10_end 13 = .ok (.ireturn, 1) by decide +kernel) hL
  · refine tr_if_ne_t (tgt := 14) hc (show decode cX10_end 9 = .ok (.ifCond .ne 5, 3) by decide +kernel) (by decide) ?_
    refine tr_aload_n (pc' := 15) (show decode cX10_end 14 = .ok (.aload_n 0, 1) by decide +kernel) rfl rfl rfl ?_
    refine tr_iload_n (pc' := 16) (show decode cX10_end 15 = .ok (.iload_n 1, 1) by decide +kernel) rfl rfl rfl ?_
    obtain ⟨μ3, eμ3, h⟩ := hm_bs h
    refine tp_pI (pc' := 19) fl_HandRingModel_162 (show decode cX10_end 16 = .ok (.putfield 162, 3) by decide +kernel) rfl (la_o hL (by decide) rfl) eμ3 ?_
    replace hL := hL.same (hm_pI_s eμ3)
    refine tr_iload_n (pc' := 20) (show decode cX10_end 19 = .ok (.iload_n 1, 1) by decide +kernel) rfl rfl rfl ?_
    cases h
    exact tr_iret rfl (show decode cX10_end 20 = .ok (.ireturn, 1) by decide +kernel) hL
def f_X10_isSmall (v0 : Int32) : Option Int32 :=
  (if v0 < (97 : Int32) then
  some (0 : Int32)
  else
  (if (122 : Int32) < v0 then
  some (0 : Int32)
  else
  some (1 : Int32)))
set_option maxRecDepth 100000 in
theorem ok_X10_isSmall {fr : Nat} (hfr : 0 ≤ fr) {ν : hm_N} {r : Int32}  (v0 : Int32)  (μ : hm_M) (hL : hm_LL ν μ) (h : f_X10_isSmall v0 = some r) : hm_CC (hm_LL ν) m_X10_isSmall fr 0 0 [.int v0] μ (some (.int r)) μ := by
  refine hm_enter (lv := [some (.int v0)]) (by decide) rfl (Nat.le_of_ble_eq_true rfl) ?_
  unfold f_X10_isSmall at h
  refine tr_iload_n (pc' := 1) (show decode cX10_isSmall 0 = .ok (.iload_n 0, 1) by decide +kernel) rfl rfl rfl ?_
  refine tr_bipush (pc' := 3) (v := (97 : Int32)) (show decode cX10_isSmall 1 = .ok (.bipush 97, 2) by decide +kernel) rfl (by decide) ?_
  rcases hm_is h with ⟨hc, h⟩ | ⟨hc, h⟩
  · refine tr_icmp_lt_t (tgt := 16) hc (show decode cX10_isSmall 3 = .ok (.if_icmp .lt 13, 3) by decide +kernel) (by decide) ?_
    refine tr_iconst (pc' := 17) (v := (0 : Int32)) (show decode cX10_isSmall 16 = .ok (.iconst 0, 1) by decide +kernel) rfl (by decide) ?_
    cases h
    exact tr_zret rfl (by decide) (show decode cX10_isSmall 17 = .ok (.ireturn, 1) by decide +kernel) hL
  · refine tr_icmp_lt_f (tgt := 16) (pc' := 6) hc (show decode cX10_isSmall 3 = .ok (.if_icmp .lt 13, 3) by decide +kernel) (by decide) rfl ?_
    refine tr_iload_n (pc' := 7) (show decode cX10_isSmall 6 = .ok (.iload_n 0, 1) by decide +kernel) rfl rfl rfl ?_
    refine tr_bipush (pc' := 9) (v := (122 : Int32)) (show decode cX10_isSmall 7 = .ok (.bipush 122, 2) by decide +kernel) rfl (by decide) ?_
    rcases hm_is h with ⟨hc, h⟩ | ⟨hc, h⟩
    · refine tr_icmp_gt_t (tgt := 16) hc (show decode cX10_isSmall 9 = .ok (.if_icmp .gt 7, 3) by decide +kernel) (by decide) ?_
      refine tr_iconst (pc' := 17) (v := (0 : Int32)) (show decode cX10_isSmall 16 = .ok (.iconst 0, 1) by decide +kernel) rfl (by decide) ?_
      cases h
      exact tr_zret rfl (by decide) (show decode cX10_isSmall 17 = .ok (.ireturn, 1) by decide +kernel) hL
    · refine tr_icmp_gt_f (tgt := 16) (pc' := 12) hc (show decode cX10_isSmall 9 = .ok (.if_icmp .gt 7, 3) by decide +kernel) (by decide) rfl ?_
      refine tr_iconst (pc' := 13) (v := (1 : Int32)) (show decode cX10_isSmall 12 = .ok (.iconst 1, 1) by decide +kernel) rfl (by decide) ?_
      refine tr_goto (tgt := 17) (show decode cX10_isSmall 13 = .ok (.goto 4, 3) by decide +kernel) rfl ?_
      cases h
      exact tr_zret rfl (by decide) (show decode cX10_isSmall 17 = .ok (.ireturn, 1) by decide +kernel) hL
def f_X10_isDigit (v0 : Int32) : Option Int32 :=
  (if v0 < (48 : Int32) then
  some (0 : Int32)
  else
  (if (57 : Int32) < v0 then
  some (0 : Int32)
  else
  some (1 : Int32)))
set_option maxRecDepth 100000 in
theorem ok_X10_isDigit {fr : Nat} (hfr : 0 ≤ fr) {ν : hm_N} {r : Int32}  (v0 : Int32)  (μ : hm_M) (hL : hm_LL ν μ) (h : f_X10_isDigit v0 = some r) : hm_CC (hm_LL ν) m_X10_isDigit fr 0 0 [.int v0] μ (some (.int r)) μ := by
  refine hm_enter (lv := [some (.int v0)]) (by decide) rfl (Nat.le_of_ble_eq_true rfl) ?_
  unfold f_X10_isDigit at h
  refine tr_iload_n (pc' := 1) (show decode cX10_isDigit 0 = .ok (.iload_n 0, 1) by decide +kernel) rfl rfl rfl ?_
  refine tr_bipush (pc' := 3) (v := (48 : Int32)) (show decode cX10_isDigit 1 = .ok (.bipush 48, 2) by decide +kernel) rfl (by decide) ?_
  rcases hm_is h with ⟨hc, h⟩ | ⟨hc, h⟩
  · refine tr_icmp_lt_t (tgt := 16) hc (show decode cX10_isDigit 3 = .ok (.if_icmp .lt 13, 3) by decide +kernel) (by decide) ?_
    refine tr_iconst (pc' := 17) (v := (0 : Int32)) (show decode cX10_isDigit 16 = .ok (.iconst 0, 1) by decide +kernel) rfl (by decide) ?_
    cases h
    exact tr_zret rfl (by decide) (show decode cX10_isDigit 17 = .ok (.ireturn, 1) by decide +kernel) hL
  · refine tr_icmp_lt_f (tgt := 16) (pc' := 6) hc (show decode cX10_isDigit 3 = .ok (.if_icmp .lt 13, 3) by decide +kernel) (by decide) rfl ?_
    refine tr_iload_n (pc' := 7) (show decode cX10_isDigit 6 = .ok (.iload_n 0, 1) by decide +kernel) rfl rfl rfl ?_
    refine tr_bipush (pc' := 9) (v := (57 : Int32)) (show decode cX10_isDigit 7 = .ok (.bipush 57, 2) by decide +kernel) rfl (by decide) ?_
    rcases hm_is h with ⟨hc, h⟩ | ⟨hc, h⟩
    · refine tr_icmp_gt_t (tgt := 16) hc (show decode cX10_isDigit 9 = .ok (.if_icmp .gt 7, 3) by decide +kernel) (by decide) ?_
      refine tr_iconst (pc' := 17) (v := (0 : Int32)) (show decode cX10_isDigit 16 = .ok (.iconst 0, 1) by decide +kernel) rfl (by decide) ?_
      cases h
      exact tr_zret rfl (by decide) (show decode cX10_isDigit 17 = .ok (.ireturn, 1) by decide +kernel) hL
    · refine tr_icmp_gt_f (tgt := 16) (pc' := 12) hc (show decode cX10_isDigit 9 = .ok (.if_icmp .gt 7, 3) by decide +kernel) (by decide) rfl ?_
      refine tr_iconst (pc' := 13) (v := (1 : Int32)) (show decode cX10_isDigit 12 = .ok (.iconst 1, 1) by decide +kernel) rfl (by decide) ?_
      refine tr_goto (tgt := 17) (show decode cX10_isDigit 13 = .ok (.goto 4, 3) by decide +kernel) rfl ?_
      cases h
      exact tr_zret rfl (by decide) (show decode cX10_isDigit 17 = .ok (.ireturn, 1) by decide +kernel) hL
def f_X10_wordOf_L18 (v1 : Int32) (v2 : Int32) (w18_3 : Int32) (w18_4 : Int32) (c5 : Int32 → Int32 → hm_M → Option Int32) (e126 : hm_M → Option Int32) (e39 : Int32 → hm_M → Option Int32) : Nat → Int32 → hm_M → Option Int32
  | 0, _, _ => none
  | n + 1, y5, μ1 => Option.bind (hm_ld μ1 185 143 (w18_4 + y5)) fun x2 =>
  (if x2 = (32 : Int32) then
  e39 y5 μ1
  else
  (f_X10_wordOf_L18 v1 v2 w18_3 w18_4 c5 e126 e39 n) (y5 + (1 : Int32)) μ1)
theorem ok_X10_wordOf_L18 {fr : Nat} (hfr : 0 ≤ fr) {ν : hm_N} {r : Int32}  (v1 : Int32) (v2 : Int32) (w18_3 : Int32) (w18_4 : Int32) (c5 : Int32 → Int32 → hm_M → Option Int32) (e126 : hm_M → Option Int32) (e39 : Int32 → hm_M → Option Int32) (hc5 : ∀ (y3 : Int32) (y4 : Int32)  (μ1 : hm_M), hm_LL ν μ1 → c5 y3 y4 μ1 = some r → hm_T (hm_LL ν) m_X10_wordOf fr 0 0 (some (.int r)) μ1 5 [some (.ref 179), some (.int v1), some (.int v2), some (.int y3), some (.int y4), none, none, none] [] μ1) (he126 : ∀   (μ1 : hm_M), hm_LL ν μ1 → e126 μ1 = some r → hm_T (hm_LL ν) m_X10_wordOf fr 0 0 (some (.int r)) μ1 126 [none, none, none, none, none, none, none, none] [] μ1) (he39 : ∀ (y5 : Int32)  (μ1 : hm_M), hm_LL ν μ1 → e39 y5 μ1 = some r → hm_T (hm_LL ν) m_X10_wordOf fr 0 0 (some (.int r)) μ1 39 [some (.ref 179), some (.int v1), some (.int v2), some (.int w18_3), some (.int w18_4), some (.int y5), none, none] [] μ1)  : ∀ (n : Nat) (y5 : Int32)  (μ1 : hm_M), hm_LL ν μ1 → f_X10_wordOf_L18 v1 v2 w18_3 w18_4 c5 e126 e39 n y5 μ1 = some r → hm_T (hm_LL ν) m_X10_wordOf fr 0 0 (some (.int r)) μ1 18 [some (.ref 179), some (.int v1), some (.int v2), some (.int w18_3), some (.int w18_4), some (.int y5), none, none] [] μ1 := by
  intro n
  induction n with
  | zero =>
    intro y5 μ1 hL h
    unfold f_X10_wordOf_L18 at h
    cases h
  | succ n ih =>
    intro y5 μ1 hL h
    unfold f_X10_wordOf_L18 at h
    refine tr_aload_n (pc' := 19) (show decode cX10_wordOf 18 = .ok (.aload_n 0, 1) by decide +kernel) rfl rfl rfl ?_
    refine tr_getR (pc' := 22) fl_HandRingModel_37 (show decode cX10_wordOf 19 = .ok (.getfield 37, 3) by decide +kernel) rfl (la_o hL (by decide) rfl) (la_r hL 122 rfl) ?_
    refine tr_iload (pc' := 24) (show decode cX10_wordOf 22 = .ok (.iload 4, 2) by decide +kernel) rfl rfl ?_
    refine tr_iload (pc' := 26) (show decode cX10_wordOf 24 = .ok (.iload 5, 2) by decide +kernel) rfl rfl ?_
    refine tr_iadd (pc' := 27) (show decode cX10_wordOf 26 = .ok (.iadd, 1) by decide +kernel) rfl ?_
    obtain ⟨x2, ex2, h⟩ := hm_bs h
    refine tp_ldB (pc' := 28) (show decode cX10_wordOf 27 = .ok (.baload, 1) by decide +kernel) rfl (la_a hL (by decide) rfl) ex2 ?_
    refine tr_bipush (pc' := 30) (v := (32 : Int32)) (show decode cX10_wordOf 28 = .ok (.bipush 32, 2) by decide +kernel) rfl (by decide) ?_
    rcases hm_is h with ⟨hc, h⟩ | ⟨hc, h⟩
    · refine tr_icmp_eq_t (tgt := 39) hc (show decode cX10_wordOf 30 = .ok (.if_icmp .eq 9, 3) by decide +kernel) (by decide) ?_
      exact he39 y5 μ1 hL h
    · refine tr_icmp_eq_f (tgt := 39) (pc' := 33) hc (show decode cX10_wordOf 30 = .ok (.if_icmp .eq 9, 3) by decide +kernel) (by decide) rfl ?_
      refine tr_iinc (pc' := 36) (v := y5 + (1 : Int32)) (lv' := [some (.ref 179), some (.int v1), some (.int v2), some (.int w18_3), some (.int w18_4), some (.int (y5 + (1 : Int32))), none, none]) (show decode cX10_wordOf 33 = .ok (.iinc 5 1, 3) by decide +kernel) rfl rfl rfl (Nat.le_of_ble_eq_true rfl) rfl rfl ?_
      refine tr_goto (tgt := 18) (show decode cX10_wordOf 36 = .ok (.goto (-18), 3) by decide +kernel) rfl ?_
      exact ih (y5 + (1 : Int32)) μ1 hL h
def f_X10_wordOf_J96 (v1 : Int32) (v2 : Int32) (w57_3 : Int32) (w57_4 : Int32) (w57_5 : Int32) (c5 : Int32 → Int32 → hm_M → Option Int32) (e126 : hm_M → Option Int32) (c57 : Int32 → Int32 → hm_M → Option Int32) (e104 : Int32 → hm_M → Option Int32) (s0 : Int32) (y7 : Int32) (μ1 : hm_M) : Option Int32 :=
  c57 s0 (y7 + (1 : Int32)) μ1
theorem ok_X10_wordOf_J96 {fr : Nat} (hfr : 0 ≤ fr) {ν : hm_N} {r : Int32}  (v1 : Int32) (v2 : Int32) (w57_3 : Int32) (w57_4 : Int32) (w57_5 : Int32) (c5 : Int32 → Int32 → hm_M → Option Int32) (e126 : hm_M → Option Int32) (c57 : Int32 → Int32 → hm_M → Option Int32) (e104 : Int32 → hm_M → Option Int32) (hc5 : ∀ (y3 : Int32) (y4 : Int32)  (μ1 : hm_M), hm_LL ν μ1 → c5 y3 y4 μ1 = some r → hm_T (hm_LL ν) m_X10_wordOf fr 0 0 (some (.int r)) μ1 5 [some (.ref 179), some (.int v1), some (.int v2), some (.int y3), some (.int y4), none, none, none] [] μ1) (he126 : ∀   (μ1 : hm_M), hm_LL ν μ1 → e126 μ1 = some r → hm_T (hm_LL ν) m_X10_wordOf fr 0 0 (some (.int r)) μ1 126 [none, none, none, none, none, none, none, none] [] μ1) (hc57 : ∀ (y6 : Int32) (y7 : Int32)  (μ1 : hm_M), hm_LL ν μ1 → c57 y6 y7 μ1 = some r → hm_T (hm_LL ν) m_X10_wordOf fr 0 0 (some (.int r)) μ1 57 [some (.ref 179), some (.int v1), some (.int v2), some (.int w57_3), some (.int w57_4), some (.int w57_5), some (.int y6), some (.int y7)] [] μ1) (he104 : ∀ (y6 : Int32)  (μ1 : hm_M), hm_LL ν μ1 → e104 y6 μ1 = some r → hm_T (hm_LL ν) m_X10_wordOf fr 0 0 (some (.int r)) μ1 104 [some (.ref 179), some (.int v1), some (.int v2), some (.int w57_3), some (.int w57_4), some (.int w57_5), some (.int y6), none] [] μ1)  (s0 : Int32) (y7 : Int32) (μ1 : hm_M) (hL : hm_LL ν μ1) (h : f_X10_wordOf_J96 v1 v2 w57_3 w57_4 w57_5 c5 e126 c57 e104 s0 y7 μ1 = some r) : hm_T (hm_LL ν) m_X10_wordOf fr 0 0 (some (.int r)) μ1 96 [some (.ref 179), some (.int v1), some (.int v2), some (.int w57_3), some (.int w57_4), some (.int w57_5), none, some (.int y7)] [.int s0] μ1 := by
  unfold f_X10_wordOf_J96 at h
  refine tr_istore (pc' := 98) (lv' := [some (.ref 179), some (.int v1), some (.int v2), some (.int w57_3), some (.int w57_4), some (.int w57_5), some (.int s0), some (.int y7)]) (show decode cX10_wordOf 96 = .ok (.istore 6, 2) by decide +kernel) rfl (Nat.le_of_ble_eq_true rfl) rfl rfl ?_
  refine tr_iinc (pc' := 101) (v := y7 + (1 : Int32)) (lv' := [some (.ref 179), some (.int v1), some (.int v2), some (.int w57_3), some (.int w57_4), some (.int w57_5), some (.int s0), some (.int (y7 + (1 : Int32)))]) (show decode cX10_wordOf 98 = .ok (.iinc 7 1, 3) by decide +kernel) rfl rfl rfl (Nat.le_of_ble_eq_true rfl) rfl rfl ?_
  refine tr_goto (tgt := 57) (show decode cX10_wordOf 101 = .ok (.goto (-44), 3) by decide +kernel) rfl ?_
  exact hc57 s0 (y7 + (1 : Int32)) μ1 hL h
def f_X10_wordOf_L57 (v1 : Int32) (v2 : Int32) (w57_3 : Int32) (w57_4 : Int32) (w57_5 : Int32) (c5 : Int32 → Int32 → hm_M → Option Int32) (e126 : hm_M → Option Int32) (e104 : Int32 → hm_M → Option Int32) : Nat → Int32 → Int32 → hm_M → Option Int32
  | 0, _, _, _ => none
  | n + 1, y6, y7, μ1 => (if w57_5 ≤ y7 then
  e104 y6 μ1
  else
  (if y6 = 0 then
  e104 y6 μ1
  else
  Option.bind (hm_ld μ1 185 143 (w57_4 + y7)) fun x4 =>
  Option.bind (hm_ld μ1 186 400 (v1 + y7)) fun x5 =>
  (if x4 = x5 then
  f_X10_wordOf_J96 v1 v2 w57_3 w57_4 w57_5 c5 e126 (f_X10_wordOf_L57 v1 v2 w57_3 w57_4 w57_5 c5 e126 e104 n) e104 (1 : Int32) y7 μ1
  else
  f_X10_wordOf_J96 v1 v2 w57_3 w57_4 w57_5 c5 e126 (f_X10_wordOf_L57 v1 v2 w57_3 w57_4 w57_5 c5 e126 e104 n) e104 (0 : Int32) y7 μ1)))
theorem ok_X10_wordOf_L57 {fr : Nat} (hfr : 0 ≤ fr) {ν : hm_N} {r : Int32}  (v1 : Int32) (v2 : Int32) (w57_3 : Int32) (w57_4 : Int32) (w57_5 : Int32) (c5 : Int32 → Int32 → hm_M → Option Int32) (e126 : hm_M → Option Int32) (e104 : Int32 → hm_M → Option Int32) (hc5 : ∀ (y3 : Int32) (y4 : Int32)  (μ1 : hm_M), hm_LL ν μ1 → c5 y3 y4 μ1 = some r → hm_T (hm_LL ν) m_X10_wordOf fr 0 0 (some (.int r)) μ1 5 [some (.ref 179), some (.int v1), some (.int v2), some (.int y3), some (.int y4), none, none, none] [] μ1) (he126 : ∀   (μ1 : hm_M), hm_LL ν μ1 → e126 μ1 = some r → hm_T (hm_LL ν) m_X10_wordOf fr 0 0 (some (.int r)) μ1 126 [none, none, none, none, none, none, none, none] [] μ1) (he104 : ∀ (y6 : Int32)  (μ1 : hm_M), hm_LL ν μ1 → e104 y6 μ1 = some r → hm_T (hm_LL ν) m_X10_wordOf fr 0 0 (some (.int r)) μ1 104 [some (.ref 179), some (.int v1), some (.int v2), some (.int w57_3), some (.int w57_4), some (.int w57_5), some (.int y6), none] [] μ1)  : ∀ (n : Nat) (y6 : Int32) (y7 : Int32)  (μ1 : hm_M), hm_LL ν μ1 → f_X10_wordOf_L57 v1 v2 w57_3 w57_4 w57_5 c5 e126 e104 n y6 y7 μ1 = some r → hm_T (hm_LL ν) m_X10_wordOf fr 0 0 (some (.int r)) μ1 57 [some (.ref 179), some (.int v1), some (.int v2), some (.int w57_3), some (.int w57_4), some (.int w57_5), some (.int y6), some (.int y7)] [] μ1 := by
  intro n
  induction n with
  | zero =>
    intro y6 y7 μ1 hL h
    unfold f_X10_wordOf_L57 at h
    cases h
  | succ n ih =>
    intro y6 y7 μ1 hL h
    unfold f_X10_wordOf_L57 at h
    refine tr_iload (pc' := 59) (show decode cX10_wordOf 57 = .ok (.iload 7, 2) by decide +kernel) rfl rfl ?_
    refine tr_iload (pc' := 61) (show decode cX10_wordOf 59 = .ok (.iload 5, 2) by decide +kernel) rfl rfl ?_
    rcases hm_is h with ⟨hc, h⟩ | ⟨hc, h⟩
    · refine tr_icmp_ge_t (tgt := 104) hc (show decode cX10_wordOf 61 = .ok (.if_icmp .ge 43, 3) by decide +kernel) (by decide) ?_
      refine hm_fgt [true, true, true, true, true, true, true, false] (lv' := [some (.ref 179), some (.int v1), some (.int v2), some (.int w57_3), some (.int w57_4), some (.int w57_5), some (.int y6), none]) rfl ?_
      exact he104 y6 μ1 hL h
    · refine tr_icmp_ge_f (tgt := 104) (pc' := 64) hc (show decode cX10_wordOf 61 = .ok (.if_icmp .ge 43, 3) by decide +kernel) (by decide) rfl ?_
      refine tr_iload (pc' := 66) (show decode cX10_wordOf 64 = .ok (.iload 6, 2) by decide +kernel) rfl rfl ?_
      rcases hm_is h with ⟨hc, h⟩ | ⟨hc, h⟩
      · refine tr_if_eq_t (tgt := 104) hc (show decode cX10_wordOf 66 = .ok (.ifCond .eq 38, 3) by decide +kernel) (by decide) ?_
        refine hm_fgt [true, true, true, true, true, true, true, false] (lv' := [some (.ref 179), some (.int v1), some (.int v2), some (.int w57_3), some (.int w57_4), some (.int w57_5), some (.int y6), none]) rfl ?_
        exact he104 y6 μ1 hL h
      · refine tr_if_eq_f (tgt := 104) (pc' := 69) hc (show decode cX10_wordOf 66 = .ok (.ifCond .eq 38, 3) by decide +kernel) (by decide) rfl ?_
        refine tr_aload_n (pc' := 70) (show decode cX10_wordOf 69 = .ok (.aload_n 0, 1) by decide +kernel) rfl rfl rfl ?_
        refine tr_getR (pc' := 73) fl_HandRingModel_37 (show decode cX10_wordOf 70 = .ok (.getfield 37, 3) by decide +kernel) rfl (la_o hL (by decide) rfl) (la_r hL 122 rfl) ?_
        refine tr_iload (pc' := 75) (show decode cX10_wordOf 73 = .ok (.iload 4, 2) by decide +kernel) rfl rfl ?_
        refine tr_iload (pc' := 77) (show decode cX10_wordOf 75 = .ok (.iload 7, 2) by decide +kernel) rfl rfl ?_
        refine tr_iadd (pc' := 78) (show decode cX10_wordOf 77 = .ok (.iadd, 1) by decide +kernel) rfl ?_
        obtain ⟨x4, ex4, h⟩ := hm_bs h
        refine tp_ldB (pc' := 79) (show decode cX10_wordOf 78 = .ok (.baload, 1) by decide +kernel) rfl (la_a hL (by decide) rfl) ex4 ?_
        refine tr_aload_n (pc' := 80) (show decode cX10_wordOf 79 = .ok (.aload_n 0, 1) by decide +kernel) rfl rfl rfl ?_
        refine tr_getR (pc' := 83) fl_HandRingModel_41 (show decode cX10_wordOf 80 = .ok (.getfield 41, 3) by decide +kernel) rfl (la_o hL (by decide) rfl) (la_r hL 123 rfl) ?_
        refine tr_iload_n (pc' := 84) (show decode cX10_wordOf 83 = .ok (.iload_n 1, 1) by decide +kernel) rfl rfl rfl ?_
        refine tr_iload (pc' := 86) (show decode cX10_wordOf 84 = .ok (.iload 7, 2) by decide +kernel) rfl rfl ?_
        refine tr_iadd (pc' := 87) (show decode cX10_wordOf 86 = .ok (.iadd, 1) by decide +kernel) rfl ?_
        obtain ⟨x5, ex5, h⟩ := hm_bs h
        refine tp_ldB (pc' := 88) (show decode cX10_wordOf 87 = .ok (.baload, 1) by decide +kernel) rfl (la_a hL (by decide) rfl) ex5 ?_
        rcases hm_is h with ⟨hc, h⟩ | ⟨hc, h⟩
        · refine tr_icmp_ne_f (tgt := 95) (pc' := 91) hc (show decode cX10_wordOf 88 = .ok (.if_icmp .ne 7, 3) by decide +kernel) (by decide) rfl ?_
          refine tr_iconst (pc' := 92) (v := (1 : Int32)) (show decode cX10_wordOf 91 = .ok (.iconst 1, 1) by decide +kernel) rfl (by decide) ?_
          refine tr_goto (tgt := 96) (show decode cX10_wordOf 92 = .ok (.goto 4, 3) by decide +kernel) rfl ?_
          refine hm_fgt [true, true, true, true, true, true, false, true] (lv' := [some (.ref 179), some (.int v1), some (.int v2), some (.int w57_3), some (.int w57_4), some (.int w57_5), none, some (.int y7)]) rfl ?_
          exact ok_X10_wordOf_J96 hfr _ _ w57_3 w57_4 w57_5 c5 e126 (f_X10_wordOf_L57 v1 v2 w57_3 w57_4 w57_5 c5 e126 e104 n) e104 hc5 he126 ih he104 (1 : Int32) y7 μ1 hL h
        · refine tr_icmp_ne_t (tgt := 95) hc (show decode cX10_wordOf 88 = .ok (.if_icmp .ne 7, 3) by decide +kernel) (by decide) ?_
          refine tr_iconst (pc' := 96) (v := (0 : Int32)) (show decode cX10_wordOf 95 = .ok (.iconst 0, 1) by decide +kernel) rfl (by decide) ?_
          refine hm_fgt [true, true, true, true, true, true, false, true] (lv' := [some (.ref 179), some (.int v1), some (.int v2), some (.int w57_3), some (.int w57_4), some (.int w57_5), none, some (.int y7)]) rfl ?_
          exact ok_X10_wordOf_J96 hfr _ _ w57_3 w57_4 w57_5 c5 e126 (f_X10_wordOf_L57 v1 v2 w57_3 w57_4 w57_5 c5 e126 e104 n) e104 hc5 he126 ih he104 (0 : Int32) y7 μ1 hL h
def f_X10_wordOf_J104 (v1 : Int32) (v2 : Int32) (c5 : Int32 → Int32 → hm_M → Option Int32) (e126 : hm_M → Option Int32) (y3 : Int32) (y4 : Int32) (y5 : Int32) (y6 : Int32) (μ1 : hm_M) : Option Int32 :=
  (if y6 = 0 then
  c5 (y3 + (1 : Int32)) (y4 + (y5 + (1 : Int32))) μ1
  else
  some y3)
theorem ok_X10_wordOf_J104 {fr : Nat} (hfr : 0 ≤ fr) {ν : hm_N} {r : Int32}  (v1 : Int32) (v2 : Int32) (c5 : Int32 → Int32 → hm_M → Option Int32) (e126 : hm_M → Option Int32) (hc5 : ∀ (y3 : Int32) (y4 : Int32)  (μ1 : hm_M), hm_LL ν μ1 → c5 y3 y4 μ1 = some r → hm_T (hm_LL ν) m_X10_wordOf fr 0 0 (some (.int r)) μ1 5 [some (.ref 179), some (.int v1), some (.int v2), some (.int y3), some (.int y4), none, none, none] [] μ1) (he126 : ∀   (μ1 : hm_M), hm_LL ν μ1 → e126 μ1 = some r → hm_T (hm_LL ν) m_X10_wordOf fr 0 0 (some (.int r)) μ1 126 [none, none, none, none, none, none, none, none] [] μ1)  (y3 : Int32) (y4 : Int32) (y5 : Int32) (y6 : Int32) (μ1 : hm_M) (hL : hm_LL ν μ1) (h : f_X10_wordOf_J104 v1 v2 c5 e126 y3 y4 y5 y6 μ1 = some r) : hm_T (hm_LL ν) m_X10_wordOf fr 0 0 (some (.int r)) μ1 104 [some (.ref 179), some (.int v1), some (.int v2), some (.int y3), some (.int y4), some (.int y5), some (.int y6), none] [] μ1 := by
  unfold f_X10_wordOf_J104 at h
  refine tr_iload (pc' := 106) (show decode cX10_wordOf 104 = .ok (.iload 6, 2) by decide +kernel) rfl rfl ?_
  rcases hm_is h with ⟨hc, h⟩ | ⟨hc, h⟩
  · refine tr_if_eq_t (tgt := 111) hc (show decode cX10_wordOf 106 = .ok (.ifCond .eq 5, 3) by decide +kernel) (by decide) ?_
    refine tr_iload (pc' := 113) (show decode cX10_wordOf 111 = .ok (.iload 4, 2) by decide +kernel) rfl rfl ?_
    refine tr_iload (pc' := 115) (show decode cX10_wordOf 113 = .ok (.iload 5, 2) by decide +kernel) rfl rfl ?_
    refine tr_iconst (pc' := 116) (v := (1 : Int32)) (show decode cX10_wordOf 115 = .ok (.iconst 1, 1) by decide +kernel) rfl (by decide) ?_
    refine tr_iadd (pc' := 117) (show decode cX10_wordOf 116 = .ok (.iadd, 1) by decide +kernel) rfl ?_
    refine tr_iadd (pc' := 118) (show decode cX10_wordOf 117 = .ok (.iadd, 1) by decide +kernel) rfl ?_
    refine tr_istore (pc' := 120) (lv' := [some (.ref 179), some (.int v1), some (.int v2), some (.int y3), some (.int (y4 + (y5 + (1 : Int32)))), some (.int y5), some (.int y6), none]) (show decode cX10_wordOf 118 = .ok (.istore 4, 2) by decide +kernel) rfl (Nat.le_of_ble_eq_true rfl) rfl rfl ?_
    refine tr_iinc (pc' := 123) (v := y3 + (1 : Int32)) (lv' := [some (.ref 179), some (.int v1), some (.int v2), some (.int (y3 + (1 : Int32))), some (.int (y4 + (y5 + (1 : Int32)))), some (.int y5), some (.int y6), none]) (show decode cX10_wordOf 120 = .ok (.iinc 3 1, 3) by decide +kernel) rfl rfl rfl (Nat.le_of_ble_eq_true rfl) rfl rfl ?_
    refine tr_goto (tgt := 5) (show decode cX10_wordOf 123 = .ok (.goto (-118), 3) by decide +kernel) rfl ?_
    refine hm_fgt [true, true, true, true, true, false, false, false] (lv' := [some (.ref 179), some (.int v1), some (.int v2), some (.int (y3 + (1 : Int32))), some (.int (y4 + (y5 + (1 : Int32)))), none, none, none]) rfl ?_
    exact hc5 (y3 + (1 : Int32)) (y4 + (y5 + (1 : Int32))) μ1 hL h
  · refine tr_if_eq_f (tgt := 111) (pc' := 109) hc (show decode cX10_wordOf 106 = .ok (.ifCond .eq 5, 3) by decide +kernel) (by decide) rfl ?_
    refine tr_iload_n (pc' := 110) (show decode cX10_wordOf 109 = .ok (.iload_n 3, 1) by decide +kernel) rfl rfl rfl ?_
    cases h
    exact tr_iret rfl (show decode cX10_wordOf 110 = .ok (.ireturn, 1) by decide +kernel) hL
def f_X10_wordOf_J52 (v1 : Int32) (v2 : Int32) (c5 : Int32 → Int32 → hm_M → Option Int32) (e126 : hm_M → Option Int32) (s0 : Int32) (y3 : Int32) (y4 : Int32) (y5 : Int32) (μ1 : hm_M) : Option Int32 :=
  f_X10_wordOf_L57 v1 v2 y3 y4 y5 c5 e126 (fun z6_6 μz6 => f_X10_wordOf_J104 v1 v2 c5 e126 y3 y4 y5 z6_6 μz6) hm_fu s0 (0 : Int32) μ1
theorem ok_X10_wordOf_J52 {fr : Nat} (hfr : 0 ≤ fr) {ν : hm_N} {r : Int32}  (v1 : Int32) (v2 : Int32) (c5 : Int32 → Int32 → hm_M → Option Int32) (e126 : hm_M → Option Int32) (hc5 : ∀ (y3 : Int32) (y4 : Int32)  (μ1 : hm_M), hm_LL ν μ1 → c5 y3 y4 μ1 = some r → hm_T (hm_LL ν) m_X10_wordOf fr 0 0 (some (.int r)) μ1 5 [some (.ref 179), some (.int v1), some (.int v2), some (.int y3), some (.int y4), none, none, none] [] μ1) (he126 : ∀   (μ1 : hm_M), hm_LL ν μ1 → e126 μ1 = some r → hm_T (hm_LL ν) m_X10_wordOf fr 0 0 (some (.int r)) μ1 126 [none, none, none, none, none, none, none, none] [] μ1)  (s0 : Int32) (y3 : Int32) (y4 : Int32) (y5 : Int32) (μ1 : hm_M) (hL : hm_LL ν μ1) (h : f_X10_wordOf_J52 v1 v2 c5 e126 s0 y3 y4 y5 μ1 = some r) : hm_T (hm_LL ν) m_X10_wordOf fr 0 0 (some (.int r)) μ1 52 [some (.ref 179), some (.int v1), some (.int v2), some (.int y3), some (.int y4), some (.int y5), none, none] [.int s0] μ1 := by
  unfold f_X10_wordOf_J52 at h
  refine tr_istore (pc' := 54) (lv' := [some (.ref 179), some (.int v1), some (.int v2), some (.int y3), some (.int y4), some (.int y5), some (.int s0), none]) (show decode cX10_wordOf 52 = .ok (.istore 6, 2) by decide +kernel) rfl (Nat.le_of_ble_eq_true rfl) rfl rfl ?_
  refine tr_iconst (pc' := 55) (v := (0 : Int32)) (show decode cX10_wordOf 54 = .ok (.iconst 0, 1) by decide +kernel) rfl (by decide) ?_
  refine tr_istore (pc' := 57) (lv' := [some (.ref 179), some (.int v1), some (.int v2), some (.int y3), some (.int y4), some (.int y5), some (.int s0), some (.int (0 : Int32))]) (show decode cX10_wordOf 55 = .ok (.istore 7, 2) by decide +kernel) rfl (Nat.le_of_ble_eq_true rfl) rfl rfl ?_
  refine ok_X10_wordOf_L57 hfr _ _ y3 y4 y5 c5 e126 _ hc5 he126 ?_ _ s0 (0 : Int32) μ1 hL h
  · intro z6_6 μz6 hL h
    exact ok_X10_wordOf_J104 hfr _ _ c5 e126 hc5 he126 y3 y4 y5 z6_6 μz6 hL h
def f_X10_wordOf_L5 (v1 : Int32) (v2 : Int32) (e126 : hm_M → Option Int32) : Nat → Int32 → Int32 → hm_M → Option Int32
  | 0, _, _, _ => none
  | n + 1, y3, y4, μ1 => (if (Int32.ofNat 143) ≤ y4 then
  e126 μ1
  else
  f_X10_wordOf_L18 v1 v2 y3 y4 (f_X10_wordOf_L5 v1 v2 e126 n) e126 (fun z3_5 μz3 => (if z3_5 = (v2 - v1) then
  f_X10_wordOf_J52 v1 v2 (f_X10_wordOf_L5 v1 v2 e126 n) e126 (1 : Int32) y3 y4 z3_5 μz3
  else
  f_X10_wordOf_J52 v1 v2 (f_X10_wordOf_L5 v1 v2 e126 n) e126 (0 : Int32) y3 y4 z3_5 μz3)) hm_fu (0 : Int32) μ1)
theorem ok_X10_wordOf_L5 {fr : Nat} (hfr : 0 ≤ fr) {ν : hm_N} {r : Int32}  (v1 : Int32) (v2 : Int32) (e126 : hm_M → Option Int32)  (he126 : ∀   (μ1 : hm_M), hm_LL ν μ1 → e126 μ1 = some r → hm_T (hm_LL ν) m_X10_wordOf fr 0 0 (some (.int r)) μ1 126 [none, none, none, none, none, none, none, none] [] μ1)  : ∀ (n : Nat) (y3 : Int32) (y4 : Int32)  (μ1 : hm_M), hm_LL ν μ1 → f_X10_wordOf_L5 v1 v2 e126 n y3 y4 μ1 = some r → hm_T (hm_LL ν) m_X10_wordOf fr 0 0 (some (.int r)) μ1 5 [some (.ref 179), some (.int v1), some (.int v2), some (.int y3), some (.int y4), none, none, none] [] μ1 := by
  intro n
  induction n with
  | zero =>
    intro y3 y4 μ1 hL h
    unfold f_X10_wordOf_L5 at h
    cases h
  | succ n ih =>
    intro y3 y4 μ1 hL h
    unfold f_X10_wordOf_L5 at h
    refine tr_iload (pc' := 7) (show decode cX10_wordOf 5 = .ok (.iload 4, 2) by decide +kernel) rfl rfl ?_
    refine tr_aload_n (pc' := 8) (show decode cX10_wordOf 7 = .ok (.aload_n 0, 1) by decide +kernel) rfl rfl rfl ?_
    refine tr_getR (pc' := 11) fl_HandRingModel_37 (show decode cX10_wordOf 8 = .ok (.getfield 37, 3) by decide +kernel) rfl (la_o hL (by decide) rfl) (la_r hL 122 rfl) ?_
    refine tr_alen (pc' := 12) (t0 := 0) (by decide) (fun _ => rfl) (show decode cX10_wordOf 11 = .ok (.arraylength, 1) by decide +kernel) rfl (la_a hL (by decide) rfl) ?_
    rcases hm_is h with ⟨hc, h⟩ | ⟨hc, h⟩
    · refine tr_icmp_ge_t (tgt := 126) hc (show decode cX10_wordOf 12 = .ok (.if_icmp .ge 114, 3) by decide +kernel) (by decide) ?_
      refine hm_fgt [false, false, false, false, false, false, false, false] (lv' := [none, none, none, none, none, none, none, none]) rfl ?_
      exact he126 μ1 hL h
    · refine tr_icmp_ge_f (tgt := 126) (pc' := 15) hc (show decode cX10_wordOf 12 = .ok (.if_icmp .ge 114, 3) by decide +kernel) (by decide) rfl ?_
      refine tr_iconst (pc' := 16) (v := (0 : Int32)) (show decode cX10_wordOf 15 = .ok (.iconst 0, 1) by decide +kernel) rfl (by decide) ?_
      refine tr_istore (pc' := 18) (lv' := [some (.ref 179), some (.int v1), some (.int v2), some (.int y3), some (.int y4), some (.int (0 : Int32)), none, none]) (show decode cX10_wordOf 16 = .ok (.istore 5, 2) by decide +kernel) rfl (Nat.le_of_ble_eq_true rfl) rfl rfl ?_
      refine ok_X10_wordOf_L18 hfr _ _ y3 y4 (f_X10_wordOf_L5 v1 v2 e126 n) e126 _ ih he126 ?_ _ (0 : Int32) μ1 hL h
      · intro z3_5 μz3 hL h
        refine tr_iload (pc' := 41) (show decode cX10_wordOf 39 = .ok (.iload 5, 2) by decide +kernel) rfl rfl ?_
        refine tr_iload_n (pc' := 42) (show decode cX10_wordOf 41 = .ok (.iload_n 2, 1) by decide +kernel) rfl rfl rfl ?_
        refine tr_iload_n (pc' := 43) (show decode cX10_wordOf 42 = .ok (.iload_n 1, 1) by decide +kernel) rfl rfl rfl ?_
        refine tr_isub (pc' := 44) (show decode cX10_wordOf 43 = .ok (.isub, 1) by decide +kernel) rfl ?_
        rcases hm_is h with ⟨hc, h⟩ | ⟨hc, h⟩
        · refine tr_icmp_ne_f (tgt := 51) (pc' := 47) hc (show decode cX10_wordOf 44 = .ok (.if_icmp .ne 7, 3) by decide +kernel) (by decide) rfl ?_
          refine tr_iconst (pc' := 48) (v := (1 : Int32)) (show decode cX10_wordOf 47 = .ok (.iconst 1, 1) by decide +kernel) rfl (by decide) ?_
          refine tr_goto (tgt := 52) (show decode cX10_wordOf 48 = .ok (.goto 4, 3) by decide +kernel) rfl ?_
          exact ok_X10_wordOf_J52 hfr _ _ (f_X10_wordOf_L5 v1 v2 e126 n) e126 ih he126 (1 : Int32) y3 y4 z3_5 μz3 hL h
        · refine tr_icmp_ne_t (tgt := 51) hc (show decode cX10_wordOf 44 = .ok (.if_icmp .ne 7, 3) by decide +kernel) (by decide) ?_
          refine tr_iconst (pc' := 52) (v := (0 : Int32)) (show decode cX10_wordOf 51 = .ok (.iconst 0, 1) by decide +kernel) rfl (by decide) ?_
          exact ok_X10_wordOf_J52 hfr _ _ (f_X10_wordOf_L5 v1 v2 e126 n) e126 ih he126 (0 : Int32) y3 y4 z3_5 μz3 hL h
def f_X10_wordOf (v1 : Int32) (v2 : Int32) (μ : hm_M) : Option Int32 :=
  f_X10_wordOf_L5 v1 v2 (fun μz7 => some (0 : Int32)) hm_fu (1 : Int32) (0 : Int32) μ
set_option maxRecDepth 100000 in
theorem ok_X10_wordOf {fr : Nat} (hfr : 0 ≤ fr) {ν : hm_N} {r : Int32}  (v1 : Int32) (v2 : Int32)  (μ : hm_M) (hL : hm_LL ν μ) (h : f_X10_wordOf v1 v2 μ = some r) : hm_CC (hm_LL ν) m_X10_wordOf fr 0 0 [.ref 179, .int v1, .int v2] μ (some (.int r)) μ := by
  refine hm_enter (lv := [some (.ref 179), some (.int v1), some (.int v2), none, none, none, none, none]) (by decide) rfl (Nat.le_of_ble_eq_true rfl) ?_
  unfold f_X10_wordOf at h
  refine tr_iconst (pc' := 1) (v := (1 : Int32)) (show decode cX10_wordOf 0 = .ok (.iconst 1, 1) by decide +kernel) rfl (by decide) ?_
  refine tr_istore_n (pc' := 2) (lv' := [some (.ref 179), some (.int v1), some (.int v2), some (.int (1 : Int32)), none, none, none, none]) (show decode cX10_wordOf 1 = .ok (.istore_n 3, 1) by decide +kernel) rfl rfl (Nat.le_of_ble_eq_true rfl) rfl rfl ?_
  refine tr_iconst (pc' := 3) (v := (0 : Int32)) (show decode cX10_wordOf 2 = .ok (.iconst 0, 1) by decide +kernel) rfl (by decide) ?_
  refine tr_istore (pc' := 5) (lv' := [some (.ref 179), some (.int v1), some (.int v2), some (.int (1 : Int32)), some (.int (0 : Int32)), none, none, none]) (show decode cX10_wordOf 3 = .ok (.istore 4, 2) by decide +kernel) rfl (Nat.le_of_ble_eq_true rfl) rfl rfl ?_
  refine ok_X10_wordOf_L5 hfr _ _ _ ?_ _ (1 : Int32) (0 : Int32) μ hL h
  · intro μz7 hL h
    refine tr_iconst (pc' := 127) (v := (0 : Int32)) (show decode cX10_wordOf 126 = .ok (.iconst 0, 1) by decide +kernel) rfl (by decide) ?_
    cases h
    exact tr_iret rfl (show decode cX10_wordOf 127 = .ok (.ireturn, 1) by decide +kernel) hL
def f_X10_splits_J240 (v1 : Int32) (w169_3 : Int32) (w169_4 : Int32) (c7 : Int32 → hm_M → Option hm_M) (e263 : hm_M → Option hm_M) (c169 : Int32 → hm_M → Option hm_M) (e247 : hm_M → Option hm_M) (s0 : Int32) (s1 : Int32) (y5 : Int32) (μ1 : hm_M) : Option hm_M :=
  Option.bind (hm_sd μ1 189 401 s1 s0) fun μ15 =>
  c169 (y5 + (1 : Int32)) μ15
theorem ok_X10_splits_J240 {fr : Nat} (hfr : 1 ≤ fr) {ν : hm_N} {μR : hm_M}  (v1 : Int32) (w169_3 : Int32) (w169_4 : Int32) (c7 : Int32 → hm_M → Option hm_M) (e263 : hm_M → Option hm_M) (c169 : Int32 → hm_M → Option hm_M) (e247 : hm_M → Option hm_M) (hc7 : ∀ (y2 : Int32)  (μ1 : hm_M), hm_LL ν μ1 → c7 y2 μ1 = some μR → hm_T (hm_LL ν) m_X10_splits fr 0 0 none μR 7 [some (.ref 179), some (.int v1), some (.int y2), none, none, none] [] μ1) (he263 : ∀   (μ1 : hm_M), hm_LL ν μ1 → e263 μ1 = some μR → hm_T (hm_LL ν) m_X10_splits fr 0 0 none μR 263 [some (.ref 179), some (.int v1), none, none, none, none] [] μ1) (hc169 : ∀ (y5 : Int32)  (μ1 : hm_M), hm_LL ν μ1 → c169 y5 μ1 = some μR → hm_T (hm_LL ν) m_X10_splits fr 0 0 none μR 169 [some (.ref 179), some (.int v1), none, some (.int w169_3), some (.int w169_4), some (.int y5)] [] μ1) (he247 : ∀   (μ1 : hm_M), hm_LL ν μ1 → e247 μ1 = some μR → hm_T (hm_LL ν) m_X10_splits fr 0 0 none μR 247 [some (.ref 179), some (.int v1), none, none, some (.int w169_4), none] [] μ1)  (s0 : Int32) (s1 : Int32) (y5 : Int32) (μ1 : hm_M) (hL : hm_LL ν μ1) (h : f_X10_splits_J240 v1 w169_3 w169_4 c7 e263 c169 e247 s0 s1 y5 μ1 = some μR) : hm_T (hm_LL ν) m_X10_splits fr 0 0 none μR 240 [some (.ref 179), some (.int v1), none, some (.int w169_3), some (.int w169_4), some (.int y5)] [.int s0, .int s1, .ref 189] μ1 := by
  unfold f_X10_splits_J240 at h
  obtain ⟨μ15, eμ15, h⟩ := hm_bs h
  refine tp_sdI (pc' := 241) (show decode cX10_splits 240 = .ok (.iastore, 1) by decide +kernel) rfl (la_a hL (by decide) rfl) eμ15 ?_
  replace hL := hL.same (hm_sd_s eμ15)
  refine tr_iinc (pc' := 244) (v := y5 + (1 : Int32)) (lv' := [some (.ref 179), some (.int v1), none, some (.int w169_3), some (.int w169_4), some (.int (y5 + (1 : Int32)))]) (show decode cX10_splits 241 = .ok (.iinc 5 1, 3) by decide +kernel) rfl rfl rfl (Nat.le_of_ble_eq_true rfl) rfl rfl ?_
  refine tr_goto (tgt := 169) (show decode cX10_splits 244 = .ok (.goto (-75), 3) by decide +kernel) rfl ?_
  exact hc169 (y5 + (1 : Int32)) μ15 hL h
def f_X10_splits_L169 (v1 : Int32) (w169_3 : Int32) (w169_4 : Int32) (c7 : Int32 → hm_M → Option hm_M) (e263 : hm_M → Option hm_M) (e247 : hm_M → Option hm_M) : Nat → Int32 → hm_M → Option hm_M
  | 0, _, _ => none
  | n + 1, y5, μ1 => (if w169_4 ≤ y5 then
  e247 μ1
  else
  Option.bind (f_X10_isDigit w169_3) fun x11 =>
  (if x11 = 0 then
  e247 μ1
  else
  Option.bind (hm_ld μ1 189 401 (μ1.1 179 18)) fun x12 =>
  (if x12 ≤ (1000000 : Int32) then
  Option.bind (hm_ld μ1 189 401 (μ1.1 179 18)) fun x13 =>
  Option.bind (hm_ld μ1 186 400 y5) fun x14 =>
  f_X10_splits_J240 v1 w169_3 w169_4 c7 e263 (f_X10_splits_L169 v1 w169_3 w169_4 c7 e263 e247 n) e247 ((((10 : Int32) * x13) + x14) - (48 : Int32)) (μ1.1 179 18) y5 μ1
  else
  Option.bind (hm_ld μ1 189 401 (μ1.1 179 18)) fun x16 =>
  f_X10_splits_J240 v1 w169_3 w169_4 c7 e263 (f_X10_splits_L169 v1 w169_3 w169_4 c7 e263 e247 n) e247 x16 (μ1.1 179 18) y5 μ1)))
theorem ok_X10_splits_L169 {fr : Nat} (hfr : 1 ≤ fr) {ν : hm_N} {μR : hm_M}  (v1 : Int32) (w169_3 : Int32) (w169_4 : Int32) (c7 : Int32 → hm_M → Option hm_M) (e263 : hm_M → Option hm_M) (e247 : hm_M → Option hm_M) (hc7 : ∀ (y2 : Int32)  (μ1 : hm_M), hm_LL ν μ1 → c7 y2 μ1 = some μR → hm_T (hm_LL ν) m_X10_splits fr 0 0 none μR 7 [some (.ref 179), some (.int v1), some (.int y2), none, none, none] [] μ1) (he263 : ∀   (μ1 : hm_M), hm_LL ν μ1 → e263 μ1 = some μR → hm_T (hm_LL ν) m_X10_splits fr 0 0 none μR 263 [some (.ref 179), some (.int v1), none, none, none, none] [] μ1) (he247 : ∀   (μ1 : hm_M), hm_LL ν μ1 → e247 μ1 = some μR → hm_T (hm_LL ν) m_X10_splits fr 0 0 none μR 247 [some (.ref 179), some (.int v1), none, none, some (.int w169_4), none] [] μ1)  : ∀ (n : Nat) (y5 : Int32)  (μ1 : hm_M), hm_LL ν μ1 → f_X10_splits_L169 v1 w169_3 w169_4 c7 e263 e247 n y5 μ1 = some μR → hm_T (hm_LL ν) m_X10_splits fr 0 0 none μR 169 [some (.ref 179), some (.int v1), none, some (.int w169_3), some (.int w169_4), some (.int y5)] [] μ1 := by
  intro n
  induction n with
  | zero =>
    intro y5 μ1 hL h
    unfold f_X10_splits_L169 at h
    cases h
  | succ n ih =>
    intro y5 μ1 hL h
    unfold f_X10_splits_L169 at h
    refine tr_iload (pc' := 171) (show decode cX10_splits 169 = .ok (.iload 5, 2) by decide +kernel) rfl rfl ?_
    refine tr_iload (pc' := 173) (show decode cX10_splits 171 = .ok (.iload 4, 2) by decide +kernel) rfl rfl ?_
    rcases hm_is h with ⟨hc, h⟩ | ⟨hc, h⟩
    · refine tr_icmp_ge_t (tgt := 247) hc (show decode cX10_splits 173 = .ok (.if_icmp .ge 74, 3) by decide +kernel) (by decide) ?_
      refine hm_fgt [true, true, false, false, true, false] (lv' := [some (.ref 179), some (.int v1), none, none, some (.int w169_4), none]) rfl ?_
      exact he247 μ1 hL h
    · refine tr_icmp_ge_f (tgt := 247) (pc' := 176) hc (show decode cX10_splits 173 = .ok (.if_icmp .ge 74, 3) by decide +kernel) (by decide) rfl ?_
      refine tr_iload_n (pc' := 177) (show decode cX10_splits 176 = .ok (.iload_n 3, 1) by decide +kernel) rfl rfl rfl ?_
      obtain ⟨x11, ex11, h⟩ := hm_bs h
      have cx11 := ok_X10_isDigit (fr := fr - 1) (ν := ν) (by omega) w169_3 μ1 hL ex11
      refine tp_callS (pc' := 180) (As := [.int w169_3]) (fr1 := fr - 1) okm_X10_isDigit lk_HandRingModel_174 (show decode cX10_splits 177 = .ok (.invokestatic 174, 3) by decide +kernel) rfl rfl rfl (Nat.le_of_ble_eq_true rfl) (by omega) cx11 (st' := [.int x11]) rfl ?_
      rcases hm_is h with ⟨hc, h⟩ | ⟨hc, h⟩
      · refine tr_if_eq_t (tgt := 247) hc (show decode cX10_splits 180 = .ok (.ifCond .eq 67, 3) by decide +kernel) (by decide) ?_
        refine hm_fgt [true, true, false, false, true, false] (lv' := [some (.ref 179), some (.int v1), none, none, some (.int w169_4), none]) rfl ?_
        exact he247 μ1 hL h
      · refine tr_if_eq_f (tgt := 247) (pc' := 183) hc (show decode cX10_splits 180 = .ok (.ifCond .eq 67, 3) by decide +kernel) (by decide) rfl ?_
        refine tr_aload_n (pc' := 184) (show decode cX10_splits 183 = .ok (.aload_n 0, 1) by decide +kernel) rfl rfl rfl ?_
        refine tr_getR (pc' := 187) fl_HandRingModel_53 (show decode cX10_splits 184 = .ok (.getfield 53, 3) by decide +kernel) rfl (la_o hL (by decide) rfl) (la_r hL 126 rfl) ?_
        refine tr_aload_n (pc' := 188) (show decode cX10_splits 187 = .ok (.aload_n 0, 1) by decide +kernel) rfl rfl rfl ?_
        refine tr_getI (pc' := 191) fl_HandRingModel_168 (show decode cX10_splits 188 = .ok (.getfield 168, 3) by decide +kernel) rfl (la_o hL (by decide) rfl) ?_
        refine tr_aload_n (pc' := 192) (show decode cX10_splits 191 = .ok (.aload_n 0, 1) by decide +kernel) rfl rfl rfl ?_
        refine tr_getR (pc' := 195) fl_HandRingModel_53 (show decode cX10_splits 192 = .ok (.getfield 53, 3) by decide +kernel) rfl (la_o hL (by decide) rfl) (la_r hL 126 rfl) ?_
        refine tr_aload_n (pc' := 196) (show decode cX10_splits 195 = .ok (.aload_n 0, 1) by decide +kernel) rfl rfl rfl ?_
        refine tr_getI (pc' := 199) fl_HandRingModel_168 (show decode cX10_splits 196 = .ok (.getfield 168, 3) by decide +kernel) rfl (la_o hL (by decide) rfl) ?_
        obtain ⟨x12, ex12, h⟩ := hm_bs h
        refine tp_ldI (pc' := 200) (show decode cX10_splits 199 = .ok (.iaload, 1) by decide +kernel) rfl (la_a hL (by decide) rfl) ex12 ?_
        refine tr_ldc (pc' := 202) (v := (1000000 : Int32)) (show decode cX10_splits 200 = .ok (.ldc 180, 2) by decide +kernel) rfl kc_HandRingModel_180 ?_
        rcases hm_is h with ⟨hc, h⟩ | ⟨hc, h⟩
        · refine tr_icmp_le_t (tgt := 217) hc (show decode cX10_splits 202 = .ok (.if_icmp .le 15, 3) by decide +kernel) (by decide) ?_
          refine tr_bipush (pc' := 219) (v := (10 : Int32)) (show decode cX10_splits 217 = .ok (.bipush 10, 2) by decide +kernel) rfl (by decide) ?_
          refine tr_aload_n (pc' := 220) (show decode cX10_splits 219 = .ok (.aload_n 0, 1) by decide +kernel) rfl rfl rfl ?_
          refine tr_getR (pc' := 223) fl_HandRingModel_53 (show decode cX10_splits 220 = .ok (.getfield 53, 3) by decide +kernel) rfl (la_o hL (by decide) rfl) (la_r hL 126 rfl) ?_
          refine tr_aload_n (pc' := 224) (show decode cX10_splits 223 = .ok (.aload_n 0, 1) by decide +kernel) rfl rfl rfl ?_
          refine tr_getI (pc' := 227) fl_HandRingModel_168 (show decode cX10_splits 224 = .ok (.getfield 168, 3) by decide +kernel) rfl (la_o hL (by decide) rfl) ?_
          obtain ⟨x13, ex13, h⟩ := hm_bs h
          refine tp_ldI (pc' := 228) (show decode cX10_splits 227 = .ok (.iaload, 1) by decide +kernel) rfl (la_a hL (by decide) rfl) ex13 ?_
          refine tr_imul (pc' := 229) (show decode cX10_splits 228 = .ok (.imul, 1) by decide +kernel) rfl ?_
          refine tr_aload_n (pc' := 230) (show decode cX10_splits 229 = .ok (.aload_n 0, 1) by decide +kernel) rfl rfl rfl ?_
          refine tr_getR (pc' := 233) fl_HandRingModel_41 (show decode cX10_splits 230 = .ok (.getfield 41, 3) by decide +kernel) rfl (la_o hL (by decide) rfl) (la_r hL 123 rfl) ?_
          refine tr_iload (pc' := 235) (show decode cX10_splits 233 = .ok (.iload 5, 2) by decide +kernel) rfl rfl ?_
          obtain ⟨x14, ex14, h⟩ := hm_bs h
          refine tp_ldB (pc' := 236) (show decode cX10_splits 235 = .ok (.baload, 1) by decide +kernel) rfl (la_a hL (by decide) rfl) ex14 ?_
          refine tr_iadd (pc' := 237) (show decode cX10_splits 236 = .ok (.iadd, 1) by decide +kernel) rfl ?_
          refine tr_bipush (pc' := 239) (v := (48 : Int32)) (show decode cX10_splits 237 = .ok (.bipush 48, 2) by decide +kernel) rfl (by decide) ?_
          refine tr_isub (pc' := 240) (show decode cX10_splits 239 = .ok (.isub, 1) by decide +kernel) rfl ?_
          exact ok_X10_splits_J240 hfr _ w169_3 w169_4 c7 e263 (f_X10_splits_L169 v1 w169_3 w169_4 c7 e263 e247 n) e247 hc7 he263 ih he247 ((((10 : Int32) * x13) + x14) - (48 : Int32)) (μ1.1 179 18) y5 μ1 hL h
        · refine tr_icmp_le_f (tgt := 217) (pc' := 205) hc (show decode cX10_splits 202 = .ok (.if_icmp .le 15, 3) by decide +kernel) (by decide) rfl ?_
          refine tr_aload_n (pc' := 206) (show decode cX10_splits 205 = .ok (.aload_n 0, 1) by decide +kernel) rfl rfl rfl ?_
          refine tr_getR (pc' := 209) fl_HandRingModel_53 (show decode cX10_splits 206 = .ok (.getfield 53, 3) by decide +kernel) rfl (la_o hL (by decide) rfl) (la_r hL 126 rfl) ?_
          refine tr_aload_n (pc' := 210) (show decode cX10_splits 209 = .ok (.aload_n 0, 1) by decide +kernel) rfl rfl rfl ?_
          refine tr_getI (pc' := 213) fl_HandRingModel_168 (show decode cX10_splits 210 = .ok (.getfield 168, 3) by decide +kernel) rfl (la_o hL (by decide) rfl) ?_
          obtain ⟨x16, ex16, h⟩ := hm_bs h
          refine tp_ldI (pc' := 214) (show decode cX10_splits 213 = .ok (.iaload, 1) by decide +kernel) rfl (la_a hL (by decide) rfl) ex16 ?_
          refine tr_goto (tgt := 240) (show decode cX10_splits 214 = .ok (.goto 26, 3) by decide +kernel) rfl ?_
          exact ok_X10_splits_J240 hfr _ w169_3 w169_4 c7 e263 (f_X10_splits_L169 v1 w169_3 w169_4 c7 e263 e247 n) e247 hc7 he263 ih he247 x16 (μ1.1 179 18) y5 μ1 hL h
def f_X10_splits_J247 (v1 : Int32) (c7 : Int32 → hm_M → Option hm_M) (e263 : hm_M → Option hm_M) (y4 : Int32) (μ1 : hm_M) : Option hm_M :=
  Option.bind (hm_pI μ1 179 18 ((μ1.1 179 18) + (1 : Int32))) fun μ18 =>
  c7 y4 μ18
theorem ok_X10_splits_J247 {fr : Nat} (hfr : 1 ≤ fr) {ν : hm_N} {μR : hm_M}  (v1 : Int32) (c7 : Int32 → hm_M → Option hm_M) (e263 : hm_M → Option hm_M) (hc7 : ∀ (y2 : Int32)  (μ1 : hm_M), hm_LL ν μ1 → c7 y2 μ1 = some μR → hm_T (hm_LL ν) m_X10_splits fr 0 0 none μR 7 [some (.ref 179), some (.int v1), some (.int y2), none, none, none] [] μ1) (he263 : ∀   (μ1 : hm_M), hm_LL ν μ1 → e263 μ1 = some μR → hm_T (hm_LL ν) m_X10_splits fr 0 0 none μR 263 [some (.ref 179), some (.int v1), none, none, none, none] [] μ1)  (y4 : Int32) (μ1 : hm_M) (hL : hm_LL ν μ1) (h : f_X10_splits_J247 v1 c7 e263 y4 μ1 = some μR) : hm_T (hm_LL ν) m_X10_splits fr 0 0 none μR 247 [some (.ref 179), some (.int v1), none, none, some (.int y4), none] [] μ1 := by
  unfold f_X10_splits_J247 at h
  refine tr_aload_n (pc' := 248) (show decode cX10_splits 247 = .ok (.aload_n 0, 1) by decide +kernel) rfl rfl rfl ?_
  refine tr_dup (pc' := 249) (show decode cX10_splits 248 = .ok (.dup, 1) by decide +kernel) rfl rfl ?_
  refine tr_getI (pc' := 252) fl_HandRingModel_168 (show decode cX10_splits 249 = .ok (.getfield 168, 3) by decide +kernel) rfl (la_o hL (by decide) rfl) ?_
  refine tr_iconst (pc' := 253) (v := (1 : Int32)) (show decode cX10_splits 252 = .ok (.iconst 1, 1) by decide +kernel) rfl (by decide) ?_
  refine tr_iadd (pc' := 254) (show decode cX10_splits 253 = .ok (.iadd, 1) by decide +kernel) rfl ?_
  obtain ⟨μ18, eμ18, h⟩ := hm_bs h
  refine tp_pI (pc' := 257) fl_HandRingModel_168 (show decode cX10_splits 254 = .ok (.putfield 168, 3) by decide +kernel) rfl (la_o hL (by decide) rfl) eμ18 ?_
  replace hL := hL.same (hm_pI_s eμ18)
  refine tr_iload (pc' := 259) (show decode cX10_splits 257 = .ok (.iload 4, 2) by decide +kernel) rfl rfl ?_
  refine tr_istore_n (pc' := 260) (lv' := [some (.ref 179), some (.int v1), some (.int y4), none, some (.int y4), none]) (show decode cX10_splits 259 = .ok (.istore_n 2, 1) by decide +kernel) rfl rfl (Nat.le_of_ble_eq_true rfl) rfl rfl ?_
  refine tr_goto (tgt := 7) (show decode cX10_splits 260 = .ok (.goto (-253), 3) by decide +kernel) rfl ?_
  refine hm_fgt [true, true, true, false, false, false] (lv' := [some (.ref 179), some (.int v1), some (.int y4), none, none, none]) rfl ?_
  exact hc7 y4 μ18 hL h
def f_X10_splits_J165 (v1 : Int32) (c7 : Int32 → hm_M → Option hm_M) (e263 : hm_M → Option hm_M) (s0 : Int32) (s1 : Int32) (y2 : Int32) (y3 : Int32) (y4 : Int32) (μ1 : hm_M) : Option hm_M :=
  Option.bind (hm_sd μ1 188 401 s1 s0) fun μ10 =>
  f_X10_splits_L169 v1 y3 y4 c7 e263 (fun μz17 => f_X10_splits_J247 v1 c7 e263 y4 μz17) hm_fu y2 μ10
theorem ok_X10_splits_J165 {fr : Nat} (hfr : 1 ≤ fr) {ν : hm_N} {μR : hm_M}  (v1 : Int32) (c7 : Int32 → hm_M → Option hm_M) (e263 : hm_M → Option hm_M) (hc7 : ∀ (y2 : Int32)  (μ1 : hm_M), hm_LL ν μ1 → c7 y2 μ1 = some μR → hm_T (hm_LL ν) m_X10_splits fr 0 0 none μR 7 [some (.ref 179), some (.int v1), some (.int y2), none, none, none] [] μ1) (he263 : ∀   (μ1 : hm_M), hm_LL ν μ1 → e263 μ1 = some μR → hm_T (hm_LL ν) m_X10_splits fr 0 0 none μR 263 [some (.ref 179), some (.int v1), none, none, none, none] [] μ1)  (s0 : Int32) (s1 : Int32) (y2 : Int32) (y3 : Int32) (y4 : Int32) (μ1 : hm_M) (hL : hm_LL ν μ1) (h : f_X10_splits_J165 v1 c7 e263 s0 s1 y2 y3 y4 μ1 = some μR) : hm_T (hm_LL ν) m_X10_splits fr 0 0 none μR 165 [some (.ref 179), some (.int v1), some (.int y2), some (.int y3), some (.int y4), none] [.int s0, .int s1, .ref 188] μ1 := by
  unfold f_X10_splits_J165 at h
  obtain ⟨μ10, eμ10, h⟩ := hm_bs h
  refine tp_sdI (pc' := 166) (show decode cX10_splits 165 = .ok (.iastore, 1) by decide +kernel) rfl (la_a hL (by decide) rfl) eμ10 ?_
  replace hL := hL.same (hm_sd_s eμ10)
  refine tr_iload_n (pc' := 167) (show decode cX10_splits 166 = .ok (.iload_n 2, 1) by decide +kernel) rfl rfl rfl ?_
  refine tr_istore (pc' := 169) (lv' := [some (.ref 179), some (.int v1), some (.int y2), some (.int y3), some (.int y4), some (.int y2)]) (show decode cX10_splits 167 = .ok (.istore 5, 2) by decide +kernel) rfl (Nat.le_of_ble_eq_true rfl) rfl rfl ?_
  refine hm_fgt [true, true, false, true, true, true] (lv' := [some (.ref 179), some (.int v1), none, some (.int y3), some (.int y4), some (.int y2)]) rfl ?_
  refine ok_X10_splits_L169 hfr _ y3 y4 c7 e263 _ hc7 he263 ?_ _ y2 μ10 hL h
  · intro μz17 hL h
    exact ok_X10_splits_J247 hfr _ c7 e263 hc7 he263 y4 μz17 hL h
def f_X10_splits_J100 (v1 : Int32) (c7 : Int32 → hm_M → Option hm_M) (e263 : hm_M → Option hm_M) (y2 : Int32) (y3 : Int32) (y4 : Int32) (μ1 : hm_M) : Option hm_M :=
  Option.bind (hm_sd μ1 190 401 (μ1.1 179 18) y2) fun μ6 =>
  Option.bind (hm_sd μ6 189 401 (μ6.1 179 18) (0 : Int32)) fun μ7 =>
  Option.bind (f_X10_isSmall y3) fun x8 =>
  (if x8 = 0 then
  Option.bind (f_X10_isDigit y3) fun x9 =>
  (if x9 = 0 then
  f_X10_splits_J165 v1 c7 e263 ((100 : Int32) + (y3 &&& (255 : Int32))) (μ7.1 179 18) y2 y3 y4 μ7
  else
  f_X10_splits_J165 v1 c7 e263 (50 : Int32) (μ7.1 179 18) y2 y3 y4 μ7)
  else
  Option.bind (f_X10_wordOf y2 y4 μ7) fun x19 =>
  f_X10_splits_J165 v1 c7 e263 x19 (μ7.1 179 18) y2 y3 y4 μ7)
theorem ok_X10_splits_J100 {fr : Nat} (hfr : 1 ≤ fr) {ν : hm_N} {μR : hm_M}  (v1 : Int32) (c7 : Int32 → hm_M → Option hm_M) (e263 : hm_M → Option hm_M) (hc7 : ∀ (y2 : Int32)  (μ1 : hm_M), hm_LL ν μ1 → c7 y2 μ1 = some μR → hm_T (hm_LL ν) m_X10_splits fr 0 0 none μR 7 [some (.ref 179), some (.int v1), some (.int y2), none, none, none] [] μ1) (he263 : ∀   (μ1 : hm_M), hm_LL ν μ1 → e263 μ1 = some μR → hm_T (hm_LL ν) m_X10_splits fr 0 0 none μR 263 [some (.ref 179), some (.int v1), none, none, none, none] [] μ1)  (y2 : Int32) (y3 : Int32) (y4 : Int32) (μ1 : hm_M) (hL : hm_LL ν μ1) (h : f_X10_splits_J100 v1 c7 e263 y2 y3 y4 μ1 = some μR) : hm_T (hm_LL ν) m_X10_splits fr 0 0 none μR 100 [some (.ref 179), some (.int v1), some (.int y2), some (.int y3), some (.int y4), none] [] μ1 := by
  unfold f_X10_splits_J100 at h
  refine tr_aload_n (pc' := 101) (show decode cX10_splits 100 = .ok (.aload_n 0, 1) by decide +kernel) rfl rfl rfl ?_
  refine tr_getR (pc' := 104) fl_HandRingModel_56 (show decode cX10_splits 101 = .ok (.getfield 56, 3) by decide +kernel) rfl (la_o hL (by decide) rfl) (la_r hL 127 rfl) ?_
  refine tr_aload_n (pc' := 105) (show decode cX10_splits 104 = .ok (.aload_n 0, 1) by decide +kernel) rfl rfl rfl ?_
  refine tr_getI (pc' := 108) fl_HandRingModel_168 (show decode cX10_splits 105 = .ok (.getfield 168, 3) by decide +kernel) rfl (la_o hL (by decide) rfl) ?_
  refine tr_iload_n (pc' := 109) (show decode cX10_splits 108 = .ok (.iload_n 2, 1) by decide +kernel) rfl rfl rfl ?_
  obtain ⟨μ6, eμ6, h⟩ := hm_bs h
  refine tp_sdI (pc' := 110) (show decode cX10_splits 109 = .ok (.iastore, 1) by decide +kernel) rfl (la_a hL (by decide) rfl) eμ6 ?_
  replace hL := hL.same (hm_sd_s eμ6)
  refine tr_aload_n (pc' := 111) (show decode cX10_splits 110 = .ok (.aload_n 0, 1) by decide +kernel) rfl rfl rfl ?_
  refine tr_getR (pc' := 114) fl_HandRingModel_53 (show decode cX10_splits 111 = .ok (.getfield 53, 3) by decide +kernel) rfl (la_o hL (by decide) rfl) (la_r hL 126 rfl) ?_
  refine tr_aload_n (pc' := 115) (show decode cX10_splits 114 = .ok (.aload_n 0, 1) by decide +kernel) rfl rfl rfl ?_
  refine tr_getI (pc' := 118) fl_HandRingModel_168 (show decode cX10_splits 115 = .ok (.getfield 168, 3) by decide +kernel) rfl (la_o hL (by decide) rfl) ?_
  refine tr_iconst (pc' := 119) (v := (0 : Int32)) (show decode cX10_splits 118 = .ok (.iconst 0, 1) by decide +kernel) rfl (by decide) ?_
  obtain ⟨μ7, eμ7, h⟩ := hm_bs h
  refine tp_sdI (pc' := 120) (show decode cX10_splits 119 = .ok (.iastore, 1) by decide +kernel) rfl (la_a hL (by decide) rfl) eμ7 ?_
  replace hL := hL.same (hm_sd_s eμ7)
  refine tr_aload_n (pc' := 121) (show decode cX10_splits 120 = .ok (.aload_n 0, 1) by decide +kernel) rfl rfl rfl ?_
  refine tr_getR (pc' := 124) fl_HandRingModel_50 (show decode cX10_splits 121 = .ok (.getfield 50, 3) by decide +kernel) rfl (la_o hL (by decide) rfl) (la_r hL 125 rfl) ?_
  refine tr_aload_n (pc' := 125) (show decode cX10_splits 124 = .ok (.aload_n 0, 1) by decide +kernel) rfl rfl rfl ?_
  refine tr_getI (pc' := 128) fl_HandRingModel_168 (show decode cX10_splits 125 = .ok (.getfield 168, 3) by decide +kernel) rfl (la_o hL (by decide) rfl) ?_
  refine tr_iload_n (pc' := 129) (show decode cX10_splits 128 = .ok (.iload_n 3, 1) by decide +kernel) rfl rfl rfl ?_
  obtain ⟨x8, ex8, h⟩ := hm_bs h
  have cx8 := ok_X10_isSmall (fr := fr - 1) (ν := ν) (by omega) y3 μ7 hL ex8
  refine tp_callS (pc' := 132) (As := [.int y3]) (fr1 := fr - 1) okm_X10_isSmall lk_HandRingModel_171 (show decode cX10_splits 129 = .ok (.invokestatic 171, 3) by decide +kernel) rfl rfl rfl (Nat.le_of_ble_eq_true rfl) (by omega) cx8 (st' := [.int x8, .int (μ7.1 179 18), .ref 188]) rfl ?_
  rcases hm_is h with ⟨hc, h⟩ | ⟨hc, h⟩
  · refine tr_if_eq_t (tgt := 145) hc (show decode cX10_splits 132 = .ok (.ifCond .eq 13, 3) by decide +kernel) (by decide) ?_
    refine tr_iload_n (pc' := 146) (show decode cX10_splits 145 = .ok (.iload_n 3, 1) by decide +kernel) rfl rfl rfl ?_
    obtain ⟨x9, ex9, h⟩ := hm_bs h
    have cx9 := ok_X10_isDigit (fr := fr - 1) (ν := ν) (by omega) y3 μ7 hL ex9
    refine tp_callS (pc' := 149) (As := [.int y3]) (fr1 := fr - 1) okm_X10_isDigit lk_HandRingModel_174 (show decode cX10_splits 146 = .ok (.invokestatic 174, 3) by decide +kernel) rfl rfl rfl (Nat.le_of_ble_eq_true rfl) (by omega) cx9 (st' := [.int x9, .int (μ7.1 179 18), .ref 188]) rfl ?_
    rcases hm_is h with ⟨hc, h⟩ | ⟨hc, h⟩
    · refine tr_if_eq_t (tgt := 157) hc (show decode cX10_splits 149 = .ok (.ifCond .eq 8, 3) by decide +kernel) (by decide) ?_
      refine tr_bipush (pc' := 159) (v := (100 : Int32)) (show decode cX10_splits 157 = .ok (.bipush 100, 2) by decide +kernel) rfl (by decide) ?_
      refine tr_iload_n (pc' := 160) (show decode cX10_splits 159 = .ok (.iload_n 3, 1) by decide +kernel) rfl rfl rfl ?_
      refine tr_sipush (pc' := 163) (v := (255 : Int32)) (show decode cX10_splits 160 = .ok (.sipush 255, 3) by decide +kernel) rfl (by decide) ?_
      refine tr_iand (pc' := 164) (show decode cX10_splits 163 = .ok (.iand, 1) by decide +kernel) rfl ?_
      refine tr_iadd (pc' := 165) (show decode cX10_splits 164 = .ok (.iadd, 1) by decide +kernel) rfl ?_
      exact ok_X10_splits_J165 hfr _ c7 e263 hc7 he263 ((100 : Int32) + (y3 &&& (255 : Int32))) (μ7.1 179 18) y2 y3 y4 μ7 hL h
    · refine tr_if_eq_f (tgt := 157) (pc' := 152) hc (show decode cX10_splits 149 = .ok (.ifCond .eq 8, 3) by decide +kernel) (by decide) rfl ?_
      refine tr_bipush (pc' := 154) (v := (50 : Int32)) (show decode cX10_splits 152 = .ok (.bipush 50, 2) by decide +kernel) rfl (by decide) ?_
      refine tr_goto (tgt := 165) (show decode cX10_splits 154 = .ok (.goto 11, 3) by decide +kernel) rfl ?_
      exact ok_X10_splits_J165 hfr _ c7 e263 hc7 he263 (50 : Int32) (μ7.1 179 18) y2 y3 y4 μ7 hL h
  · refine tr_if_eq_f (tgt := 145) (pc' := 135) hc (show decode cX10_splits 132 = .ok (.ifCond .eq 13, 3) by decide +kernel) (by decide) rfl ?_
    refine tr_aload_n (pc' := 136) (show decode cX10_splits 135 = .ok (.aload_n 0, 1) by decide +kernel) rfl rfl rfl ?_
    refine tr_iload_n (pc' := 137) (show decode cX10_splits 136 = .ok (.iload_n 2, 1) by decide +kernel) rfl rfl rfl ?_
    refine tr_iload (pc' := 139) (show decode cX10_splits 137 = .ok (.iload 4, 2) by decide +kernel) rfl rfl ?_
    obtain ⟨x19, ex19, h⟩ := hm_bs h
    have cx19 := ok_X10_wordOf (fr := fr - 1) (ν := ν) (by omega) y2 y4 μ7 hL ex19
    refine tp_callV (pc' := 142) (As := [.int y2, .int y4]) (fr1 := fr - 1) (ci := 10) okm_X10_wordOf lk_HandRingModel_177 (show decode cX10_splits 139 = .ok (.invokevirtual 177, 3) by decide +kernel) rfl rfl rfl (by decide) (la_o hL (by decide) rfl) rfl rfl (Nat.le_of_ble_eq_true rfl) (by omega) cx19 (st' := [.int x19, .int (μ7.1 179 18), .ref 188]) rfl ?_
    refine tr_goto (tgt := 165) (show decode cX10_splits 142 = .ok (.goto 23, 3) by decide +kernel) rfl ?_
    exact ok_X10_splits_J165 hfr _ c7 e263 hc7 he263 x19 (μ7.1 179 18) y2 y3 y4 μ7 hL h
def f_X10_splits_L75 (v1 : Int32) (w75_2 : Int32) (w75_3 : Int32) (c7 : Int32 → hm_M → Option hm_M) (e263 : hm_M → Option hm_M) (e100 : Int32 → hm_M → Option hm_M) : Nat → Int32 → hm_M → Option hm_M
  | 0, _, _ => none
  | n + 1, y4, μ1 => (if v1 ≤ y4 then
  e100 y4 μ1
  else
  Option.bind (hm_ld μ1 186 400 y4) fun x20 =>
  Option.bind (f_X10_isDigit x20) fun x21 =>
  (if x21 = 0 then
  e100 y4 μ1
  else
  (f_X10_splits_L75 v1 w75_2 w75_3 c7 e263 e100 n) (y4 + (1 : Int32)) μ1))
theorem ok_X10_splits_L75 {fr : Nat} (hfr : 1 ≤ fr) {ν : hm_N} {μR : hm_M}  (v1 : Int32) (w75_2 : Int32) (w75_3 : Int32) (c7 : Int32 → hm_M → Option hm_M) (e263 : hm_M → Option hm_M) (e100 : Int32 → hm_M → Option hm_M) (hc7 : ∀ (y2 : Int32)  (μ1 : hm_M), hm_LL ν μ1 → c7 y2 μ1 = some μR → hm_T (hm_LL ν) m_X10_splits fr 0 0 none μR 7 [some (.ref 179), some (.int v1), some (.int y2), none, none, none] [] μ1) (he263 : ∀   (μ1 : hm_M), hm_LL ν μ1 → e263 μ1 = some μR → hm_T (hm_LL ν) m_X10_splits fr 0 0 none μR 263 [some (.ref 179), some (.int v1), none, none, none, none] [] μ1) (he100 : ∀ (y4 : Int32)  (μ1 : hm_M), hm_LL ν μ1 → e100 y4 μ1 = some μR → hm_T (hm_LL ν) m_X10_splits fr 0 0 none μR 100 [some (.ref 179), some (.int v1), some (.int w75_2), some (.int w75_3), some (.int y4), none] [] μ1)  : ∀ (n : Nat) (y4 : Int32)  (μ1 : hm_M), hm_LL ν μ1 → f_X10_splits_L75 v1 w75_2 w75_3 c7 e263 e100 n y4 μ1 = some μR → hm_T (hm_LL ν) m_X10_splits fr 0 0 none μR 75 [some (.ref 179), some (.int v1), some (.int w75_2), some (.int w75_3), some (.int y4), none] [] μ1 := by
  intro n
  induction n with
  | zero =>
    intro y4 μ1 hL h
    unfold f_X10_splits_L75 at h
    cases h
  | succ n ih =>
    intro y4 μ1 hL h
    unfold f_X10_splits_L75 at h
    refine tr_iload (pc' := 77) (show decode cX10_splits 75 = .ok (.iload 4, 2) by decide +kernel) rfl rfl ?_
    refine tr_iload_n (pc' := 78) (show decode cX10_splits 77 = .ok (.iload_n 1, 1) by decide +kernel) rfl rfl rfl ?_
    rcases hm_is h with ⟨hc, h⟩ | ⟨hc, h⟩
    · refine tr_icmp_ge_t (tgt := 100) hc (show decode cX10_splits 78 = .ok (.if_icmp .ge 22, 3) by decide +kernel) (by decide) ?_
      exact he100 y4 μ1 hL h
    · refine tr_icmp_ge_f (tgt := 100) (pc' := 81) hc (show decode cX10_splits 78 = .ok (.if_icmp .ge 22, 3) by decide +kernel) (by decide) rfl ?_
      refine tr_aload_n (pc' := 82) (show decode cX10_splits 81 = .ok (.aload_n 0, 1) by decide +kernel) rfl rfl rfl ?_
      refine tr_getR (pc' := 85) fl_HandRingModel_41 (show decode cX10_splits 82 = .ok (.getfield 41, 3) by decide +kernel) rfl (la_o hL (by decide) rfl) (la_r hL 123 rfl) ?_
      refine tr_iload (pc' := 87) (show decode cX10_splits 85 = .ok (.iload 4, 2) by decide +kernel) rfl rfl ?_
      obtain ⟨x20, ex20, h⟩ := hm_bs h
      refine tp_ldB (pc' := 88) (show decode cX10_splits 87 = .ok (.baload, 1) by decide +kernel) rfl (la_a hL (by decide) rfl) ex20 ?_
      obtain ⟨x21, ex21, h⟩ := hm_bs h
      have cx21 := ok_X10_isDigit (fr := fr - 1) (ν := ν) (by omega) x20 μ1 hL ex21
      refine tp_callS (pc' := 91) (As := [.int x20]) (fr1 := fr - 1) okm_X10_isDigit lk_HandRingModel_174 (show decode cX10_splits 88 = .ok (.invokestatic 174, 3) by decide +kernel) rfl rfl rfl (Nat.le_of_ble_eq_true rfl) (by omega) cx21 (st' := [.int x21]) rfl ?_
      rcases hm_is h with ⟨hc, h⟩ | ⟨hc, h⟩
      · refine tr_if_eq_t (tgt := 100) hc (show decode cX10_splits 91 = .ok (.ifCond .eq 9, 3) by decide +kernel) (by decide) ?_
        exact he100 y4 μ1 hL h
      · refine tr_if_eq_f (tgt := 100) (pc' := 94) hc (show decode cX10_splits 91 = .ok (.ifCond .eq 9, 3) by decide +kernel) (by decide) rfl ?_
        refine tr_iinc (pc' := 97) (v := y4 + (1 : Int32)) (lv' := [some (.ref 179), some (.int v1), some (.int w75_2), some (.int w75_3), some (.int (y4 + (1 : Int32))), none]) (show decode cX10_splits 94 = .ok (.iinc 4 1, 3) by decide +kernel) rfl rfl rfl (Nat.le_of_ble_eq_true rfl) rfl rfl ?_
        refine tr_goto (tgt := 75) (show decode cX10_splits 97 = .ok (.goto (-22), 3) by decide +kernel) rfl ?_
        exact ih (y4 + (1 : Int32)) μ1 hL h
def f_X10_splits_J68 (v1 : Int32) (c7 : Int32 → hm_M → Option hm_M) (e263 : hm_M → Option hm_M) (y2 : Int32) (y3 : Int32) (y4 : Int32) (μ1 : hm_M) : Option hm_M :=
  Option.bind (f_X10_isDigit y3) fun x5 =>
  (if x5 = 0 then
  f_X10_splits_J100 v1 c7 e263 y2 y3 y4 μ1
  else
  f_X10_splits_L75 v1 y2 y3 c7 e263 (fun z22_4 μz22 => f_X10_splits_J100 v1 c7 e263 y2 y3 z22_4 μz22) hm_fu y4 μ1)
theorem ok_X10_splits_J68 {fr : Nat} (hfr : 1 ≤ fr) {ν : hm_N} {μR : hm_M}  (v1 : Int32) (c7 : Int32 → hm_M → Option hm_M) (e263 : hm_M → Option hm_M) (hc7 : ∀ (y2 : Int32)  (μ1 : hm_M), hm_LL ν μ1 → c7 y2 μ1 = some μR → hm_T (hm_LL ν) m_X10_splits fr 0 0 none μR 7 [some (.ref 179), some (.int v1), some (.int y2), none, none, none] [] μ1) (he263 : ∀   (μ1 : hm_M), hm_LL ν μ1 → e263 μ1 = some μR → hm_T (hm_LL ν) m_X10_splits fr 0 0 none μR 263 [some (.ref 179), some (.int v1), none, none, none, none] [] μ1)  (y2 : Int32) (y3 : Int32) (y4 : Int32) (μ1 : hm_M) (hL : hm_LL ν μ1) (h : f_X10_splits_J68 v1 c7 e263 y2 y3 y4 μ1 = some μR) : hm_T (hm_LL ν) m_X10_splits fr 0 0 none μR 68 [some (.ref 179), some (.int v1), some (.int y2), some (.int y3), some (.int y4), none] [] μ1 := by
  unfold f_X10_splits_J68 at h
  refine tr_iload_n (pc' := 69) (show decode cX10_splits 68 = .ok (.iload_n 3, 1) by decide +kernel) rfl rfl rfl ?_
  obtain ⟨x5, ex5, h⟩ := hm_bs h
  have cx5 := ok_X10_isDigit (fr := fr - 1) (ν := ν) (by omega) y3 μ1 hL ex5
  refine tp_callS (pc' := 72) (As := [.int y3]) (fr1 := fr - 1) okm_X10_isDigit lk_HandRingModel_174 (show decode cX10_splits 69 = .ok (.invokestatic 174, 3) by decide +kernel) rfl rfl rfl (Nat.le_of_ble_eq_true rfl) (by omega) cx5 (st' := [.int x5]) rfl ?_
  rcases hm_is h with ⟨hc, h⟩ | ⟨hc, h⟩
  · refine tr_if_eq_t (tgt := 100) hc (show decode cX10_splits 72 = .ok (.ifCond .eq 28, 3) by decide +kernel) (by decide) ?_
    exact ok_X10_splits_J100 hfr _ c7 e263 hc7 he263 y2 y3 y4 μ1 hL h
  · refine tr_if_eq_f (tgt := 100) (pc' := 75) hc (show decode cX10_splits 72 = .ok (.ifCond .eq 28, 3) by decide +kernel) (by decide) rfl ?_
    refine ok_X10_splits_L75 hfr _ y2 y3 c7 e263 _ hc7 he263 ?_ _ y4 μ1 hL h
    · intro z22_4 μz22 hL h
      exact ok_X10_splits_J100 hfr _ c7 e263 hc7 he263 y2 y3 z22_4 μz22 hL h
def f_X10_splits_L43 (v1 : Int32) (w43_2 : Int32) (w43_3 : Int32) (c7 : Int32 → hm_M → Option hm_M) (e263 : hm_M → Option hm_M) (e68 : Int32 → hm_M → Option hm_M) : Nat → Int32 → hm_M → Option hm_M
  | 0, _, _ => none
  | n + 1, y4, μ1 => (if v1 ≤ y4 then
  e68 y4 μ1
  else
  Option.bind (hm_ld μ1 186 400 y4) fun x23 =>
  Option.bind (f_X10_isSmall x23) fun x24 =>
  (if x24 = 0 then
  e68 y4 μ1
  else
  (f_X10_splits_L43 v1 w43_2 w43_3 c7 e263 e68 n) (y4 + (1 : Int32)) μ1))
theorem ok_X10_splits_L43 {fr : Nat} (hfr : 1 ≤ fr) {ν : hm_N} {μR : hm_M}  (v1 : Int32) (w43_2 : Int32) (w43_3 : Int32) (c7 : Int32 → hm_M → Option hm_M) (e263 : hm_M → Option hm_M) (e68 : Int32 → hm_M → Option hm_M) (hc7 : ∀ (y2 : Int32)  (μ1 : hm_M), hm_LL ν μ1 → c7 y2 μ1 = some μR → hm_T (hm_LL ν) m_X10_splits fr 0 0 none μR 7 [some (.ref 179), some (.int v1), some (.int y2), none, none, none] [] μ1) (he263 : ∀   (μ1 : hm_M), hm_LL ν μ1 → e263 μ1 = some μR → hm_T (hm_LL ν) m_X10_splits fr 0 0 none μR 263 [some (.ref 179), some (.int v1), none, none, none, none] [] μ1) (he68 : ∀ (y4 : Int32)  (μ1 : hm_M), hm_LL ν μ1 → e68 y4 μ1 = some μR → hm_T (hm_LL ν) m_X10_splits fr 0 0 none μR 68 [some (.ref 179), some (.int v1), some (.int w43_2), some (.int w43_3), some (.int y4), none] [] μ1)  : ∀ (n : Nat) (y4 : Int32)  (μ1 : hm_M), hm_LL ν μ1 → f_X10_splits_L43 v1 w43_2 w43_3 c7 e263 e68 n y4 μ1 = some μR → hm_T (hm_LL ν) m_X10_splits fr 0 0 none μR 43 [some (.ref 179), some (.int v1), some (.int w43_2), some (.int w43_3), some (.int y4), none] [] μ1 := by
  intro n
  induction n with
  | zero =>
    intro y4 μ1 hL h
    unfold f_X10_splits_L43 at h
    cases h
  | succ n ih =>
    intro y4 μ1 hL h
    unfold f_X10_splits_L43 at h
    refine tr_iload (pc' := 45) (show decode cX10_splits 43 = .ok (.iload 4, 2) by decide +kernel) rfl rfl ?_
    refine tr_iload_n (pc' := 46) (show decode cX10_splits 45 = .ok (.iload_n 1, 1) by decide +kernel) rfl rfl rfl ?_
    rcases hm_is h with ⟨hc, h⟩ | ⟨hc, h⟩
    · refine tr_icmp_ge_t (tgt := 68) hc (show decode cX10_splits 46 = .ok (.if_icmp .ge 22, 3) by decide +kernel) (by decide) ?_
      exact he68 y4 μ1 hL h
    · refine tr_icmp_ge_f (tgt := 68) (pc' := 49) hc (show decode cX10_splits 46 = .ok (.if_icmp .ge 22, 3) by decide +kernel) (by decide) rfl ?_
      refine tr_aload_n (pc' := 50) (show decode cX10_splits 49 = .ok (.aload_n 0, 1) by decide +kernel) rfl rfl rfl ?_
      refine tr_getR (pc' := 53) fl_HandRingModel_41 (show decode cX10_splits 50 = .ok (.getfield 41, 3) by decide +kernel) rfl (la_o hL (by decide) rfl) (la_r hL 123 rfl) ?_
      refine tr_iload (pc' := 55) (show decode cX10_splits 53 = .ok (.iload 4, 2) by decide +kernel) rfl rfl ?_
      obtain ⟨x23, ex23, h⟩ := hm_bs h
      refine tp_ldB (pc' := 56) (show decode cX10_splits 55 = .ok (.baload, 1) by decide +kernel) rfl (la_a hL (by decide) rfl) ex23 ?_
      obtain ⟨x24, ex24, h⟩ := hm_bs h
      have cx24 := ok_X10_isSmall (fr := fr - 1) (ν := ν) (by omega) x23 μ1 hL ex24
      refine tp_callS (pc' := 59) (As := [.int x23]) (fr1 := fr - 1) okm_X10_isSmall lk_HandRingModel_171 (show decode cX10_splits 56 = .ok (.invokestatic 171, 3) by decide +kernel) rfl rfl rfl (Nat.le_of_ble_eq_true rfl) (by omega) cx24 (st' := [.int x24]) rfl ?_
      rcases hm_is h with ⟨hc, h⟩ | ⟨hc, h⟩
      · refine tr_if_eq_t (tgt := 68) hc (show decode cX10_splits 59 = .ok (.ifCond .eq 9, 3) by decide +kernel) (by decide) ?_
        exact he68 y4 μ1 hL h
      · refine tr_if_eq_f (tgt := 68) (pc' := 62) hc (show decode cX10_splits 59 = .ok (.ifCond .eq 9, 3) by decide +kernel) (by decide) rfl ?_
        refine tr_iinc (pc' := 65) (v := y4 + (1 : Int32)) (lv' := [some (.ref 179), some (.int v1), some (.int w43_2), some (.int w43_3), some (.int (y4 + (1 : Int32))), none]) (show decode cX10_splits 62 = .ok (.iinc 4 1, 3) by decide +kernel) rfl rfl rfl (Nat.le_of_ble_eq_true rfl) rfl rfl ?_
        refine tr_goto (tgt := 43) (show decode cX10_splits 65 = .ok (.goto (-22), 3) by decide +kernel) rfl ?_
        exact ih (y4 + (1 : Int32)) μ1 hL h
def f_X10_splits_L7 (v1 : Int32) (e263 : hm_M → Option hm_M) : Nat → Int32 → hm_M → Option hm_M
  | 0, _, _ => none
  | n + 1, y2, μ1 => (if v1 ≤ y2 then
  e263 μ1
  else
  Option.bind (hm_ld μ1 186 400 y2) fun x3 =>
  (if x3 = (32 : Int32) then
  (f_X10_splits_L7 v1 e263 n) (y2 + (1 : Int32)) μ1
  else
  Option.bind (f_X10_isSmall x3) fun x4 =>
  (if x4 = 0 then
  f_X10_splits_J68 v1 (f_X10_splits_L7 v1 e263 n) e263 y2 x3 (y2 + (1 : Int32)) μ1
  else
  f_X10_splits_L43 v1 y2 x3 (f_X10_splits_L7 v1 e263 n) e263 (fun z25_4 μz25 => f_X10_splits_J68 v1 (f_X10_splits_L7 v1 e263 n) e263 y2 x3 z25_4 μz25) hm_fu (y2 + (1 : Int32)) μ1)))
theorem ok_X10_splits_L7 {fr : Nat} (hfr : 1 ≤ fr) {ν : hm_N} {μR : hm_M}  (v1 : Int32) (e263 : hm_M → Option hm_M)  (he263 : ∀   (μ1 : hm_M), hm_LL ν μ1 → e263 μ1 = some μR → hm_T (hm_LL ν) m_X10_splits fr 0 0 none μR 263 [some (.ref 179), some (.int v1), none, none, none, none] [] μ1)  : ∀ (n : Nat) (y2 : Int32)  (μ1 : hm_M), hm_LL ν μ1 → f_X10_splits_L7 v1 e263 n y2 μ1 = some μR → hm_T (hm_LL ν) m_X10_splits fr 0 0 none μR 7 [some (.ref 179), some (.int v1), some (.int y2), none, none, none] [] μ1 := by
  intro n
  induction n with
  | zero =>
    intro y2 μ1 hL h
    unfold f_X10_splits_L7 at h
    cases h
  | succ n ih =>
    intro y2 μ1 hL h
    unfold f_X10_splits_L7 at h
    refine tr_iload_n (pc' := 8) (show decode cX10_splits 7 = .ok (.iload_n 2, 1) by decide +kernel) rfl rfl rfl ?_
    refine tr_iload_n (pc' := 9) (show decode cX10_splits 8 = .ok (.iload_n 1, 1) by decide +kernel) rfl rfl rfl ?_
    rcases hm_is h with ⟨hc, h⟩ | ⟨hc, h⟩
    · refine tr_icmp_ge_t (tgt := 263) hc (show decode cX10_splits 9 = .ok (.if_icmp .ge 254, 3) by decide +kernel) (by decide) ?_
      refine hm_fgt [true, true, false, false, false, false] (lv' := [some (.ref 179), some (.int v1), none, none, none, none]) rfl ?_
      exact he263 μ1 hL h
    · refine tr_icmp_ge_f (tgt := 263) (pc' := 12) hc (show decode cX10_splits 9 = .ok (.if_icmp .ge 254, 3) by decide +kernel) (by decide) rfl ?_
      refine tr_aload_n (pc' := 13) (show decode cX10_splits 12 = .ok (.aload_n 0, 1) by decide +kernel) rfl rfl rfl ?_
      refine tr_getR (pc' := 16) fl_HandRingModel_41 (show decode cX10_splits 13 = .ok (.getfield 41, 3) by decide +kernel) rfl (la_o hL (by decide) rfl) (la_r hL 123 rfl) ?_
      refine tr_iload_n (pc' := 17) (show decode cX10_splits 16 = .ok (.iload_n 2, 1) by decide +kernel) rfl rfl rfl ?_
      obtain ⟨x3, ex3, h⟩ := hm_bs h
      refine tp_ldB (pc' := 18) (show decode cX10_splits 17 = .ok (.baload, 1) by decide +kernel) rfl (la_a hL (by decide) rfl) ex3 ?_
      refine tr_istore_n (pc' := 19) (lv' := [some (.ref 179), some (.int v1), some (.int y2), some (.int x3), none, none]) (show decode cX10_splits 18 = .ok (.istore_n 3, 1) by decide +kernel) rfl rfl (Nat.le_of_ble_eq_true rfl) rfl rfl ?_
      refine tr_iload_n (pc' := 20) (show decode cX10_splits 19 = .ok (.iload_n 3, 1) by decide +kernel) rfl rfl rfl ?_
      refine tr_bipush (pc' := 22) (v := (32 : Int32)) (show decode cX10_splits 20 = .ok (.bipush 32, 2) by decide +kernel) rfl (by decide) ?_
      rcases hm_is h with ⟨hc, h⟩ | ⟨hc, h⟩
      · refine tr_icmp_ne_f (tgt := 31) (pc' := 25) hc (show decode cX10_splits 22 = .ok (.if_icmp .ne 9, 3) by decide +kernel) (by decide) rfl ?_
        refine tr_iinc (pc' := 28) (v := y2 + (1 : Int32)) (lv' := [some (.ref 179), some (.int v1), some (.int (y2 + (1 : Int32))), some (.int x3), none, none]) (show decode cX10_splits 25 = .ok (.iinc 2 1, 3) by decide +kernel) rfl rfl rfl (Nat.le_of_ble_eq_true rfl) rfl rfl ?_
        refine tr_goto (tgt := 7) (show decode cX10_splits 28 = .ok (.goto (-21), 3) by decide +kernel) rfl ?_
        refine hm_fgt [true, true, true, false, false, false] (lv' := [some (.ref 179), some (.int v1), some (.int (y2 + (1 : Int32))), none, none, none]) rfl ?_
        exact ih (y2 + (1 : Int32)) μ1 hL h
      · refine tr_icmp_ne_t (tgt := 31) hc (show decode cX10_splits 22 = .ok (.if_icmp .ne 9, 3) by decide +kernel) (by decide) ?_
        refine tr_iload_n (pc' := 32) (show decode cX10_splits 31 = .ok (.iload_n 2, 1) by decide +kernel) rfl rfl rfl ?_
        refine tr_iconst (pc' := 33) (v := (1 : Int32)) (show decode cX10_splits 32 = .ok (.iconst 1, 1) by decide +kernel) rfl (by decide) ?_
        refine tr_iadd (pc' := 34) (show decode cX10_splits 33 = .ok (.iadd, 1) by decide +kernel) rfl ?_
        refine tr_istore (pc' := 36) (lv' := [some (.ref 179), some (.int v1), some (.int y2), some (.int x3), some (.int (y2 + (1 : Int32))), none]) (show decode cX10_splits 34 = .ok (.istore 4, 2) by decide +kernel) rfl (Nat.le_of_ble_eq_true rfl) rfl rfl ?_
        refine tr_iload_n (pc' := 37) (show decode cX10_splits 36 = .ok (.iload_n 3, 1) by decide +kernel) rfl rfl rfl ?_
        obtain ⟨x4, ex4, h⟩ := hm_bs h
        have cx4 := ok_X10_isSmall (fr := fr - 1) (ν := ν) (by omega) x3 μ1 hL ex4
        refine tp_callS (pc' := 40) (As := [.int x3]) (fr1 := fr - 1) okm_X10_isSmall lk_HandRingModel_171 (show decode cX10_splits 37 = .ok (.invokestatic 171, 3) by decide +kernel) rfl rfl rfl (Nat.le_of_ble_eq_true rfl) (by omega) cx4 (st' := [.int x4]) rfl ?_
        rcases hm_is h with ⟨hc, h⟩ | ⟨hc, h⟩
        · refine tr_if_eq_t (tgt := 68) hc (show decode cX10_splits 40 = .ok (.ifCond .eq 28, 3) by decide +kernel) (by decide) ?_
          exact ok_X10_splits_J68 hfr _ (f_X10_splits_L7 v1 e263 n) e263 ih he263 y2 x3 (y2 + (1 : Int32)) μ1 hL h
        · refine tr_if_eq_f (tgt := 68) (pc' := 43) hc (show decode cX10_splits 40 = .ok (.ifCond .eq 28, 3) by decide +kernel) (by decide) rfl ?_
          refine ok_X10_splits_L43 hfr _ y2 x3 (f_X10_splits_L7 v1 e263 n) e263 _ ih he263 ?_ _ (y2 + (1 : Int32)) μ1 hL h
          · intro z25_4 μz25 hL h
            exact ok_X10_splits_J68 hfr _ (f_X10_splits_L7 v1 e263 n) e263 ih he263 y2 x3 z25_4 μz25 hL h
def f_X10_splits (v1 : Int32) (μ : hm_M) : Option hm_M :=
  Option.bind (hm_pI μ 179 18 (0 : Int32)) fun μ2 =>
  f_X10_splits_L7 v1 (fun μz26 => Option.bind (hm_sd μz26 190 401 (μz26.1 179 18) v1) fun μ27 =>
  Option.bind (hm_sd μ27 188 401 (μ27.1 179 18) (0 : Int32)) fun μ28 =>
  Option.bind (hm_sd μ28 189 401 (μ28.1 179 18) (0 : Int32)) fun μ29 =>
  some μ29) hm_fu (0 : Int32) μ2
set_option maxRecDepth 100000 in
theorem ok_X10_splits {fr : Nat} (hfr : 1 ≤ fr) {ν : hm_N} {μR : hm_M}  (v1 : Int32)  (μ : hm_M) (hL : hm_LL ν μ) (h : f_X10_splits v1 μ = some μR) : hm_CC (hm_LL ν) m_X10_splits fr 0 0 [.ref 179, .int v1] μ none μR := by
  refine hm_enter (lv := [some (.ref 179), some (.int v1), none, none, none, none]) (by decide) rfl (Nat.le_of_ble_eq_true rfl) ?_
  unfold f_X10_splits at h
  refine tr_aload_n (pc' := 1) (show decode cX10_splits 0 = .ok (.aload_n 0, 1) by decide +kernel) rfl rfl rfl ?_
  refine tr_iconst (pc' := 2) (v := (0 : Int32)) (show decode cX10_splits 1 = .ok (.iconst 0, 1) by decide +kernel) rfl (by decide) ?_
  obtain ⟨μ2, eμ2, h⟩ := hm_bs h
  refine tp_pI (pc' := 5) fl_HandRingModel_168 (show decode cX10_splits 2 = .ok (.putfield 168, 3) by decide +kernel) rfl (la_o hL (by decide) rfl) eμ2 ?_
  replace hL := hL.same (hm_pI_s eμ2)
  refine tr_iconst (pc' := 6) (v := (0 : Int32)) (show decode cX10_splits 5 = .ok (.iconst 0, 1) by decide +kernel) rfl (by decide) ?_
  refine tr_istore_n (pc' := 7) (lv' := [some (.ref 179), some (.int v1), some (.int (0 : Int32)), none, none, none]) (show decode cX10_splits 6 = .ok (.istore_n 2, 1) by decide +kernel) rfl rfl (Nat.le_of_ble_eq_true rfl) rfl rfl ?_
  refine ok_X10_splits_L7 hfr _ _ ?_ _ (0 : Int32) μ2 hL h
  · intro μz26 hL h
    refine tr_aload_n (pc' := 264) (show decode cX10_splits 263 = .ok (.aload_n 0, 1) by decide +kernel) rfl rfl rfl ?_
    refine tr_getR (pc' := 267) fl_HandRingModel_56 (show decode cX10_splits 264 = .ok (.getfield 56, 3) by decide +kernel) rfl (la_o hL (by decide) rfl) (la_r hL 127 rfl) ?_
    refine tr_aload_n (pc' := 268) (show decode cX10_splits 267 = .ok (.aload_n 0, 1) by decide +kernel) rfl rfl rfl ?_
    refine tr_getI (pc' := 271) fl_HandRingModel_168 (show decode cX10_splits 268 = .ok (.getfield 168, 3) by decide +kernel) rfl (la_o hL (by decide) rfl) ?_
    refine tr_iload_n (pc' := 272) (show decode cX10_splits 271 = .ok (.iload_n 1, 1) by decide +kernel) rfl rfl rfl ?_
    obtain ⟨μ27, eμ27, h⟩ := hm_bs h
    refine tp_sdI (pc' := 273) (show decode cX10_splits 272 = .ok (.iastore, 1) by decide +kernel) rfl (la_a hL (by decide) rfl) eμ27 ?_
    replace hL := hL.same (hm_sd_s eμ27)
    refine tr_aload_n (pc' := 274) (show decode cX10_splits 273 = .ok (.aload_n 0, 1) by decide +kernel) rfl rfl rfl ?_
    refine tr_getR (pc' := 277) fl_HandRingModel_50 (show decode cX10_splits 274 = .ok (.getfield 50, 3) by decide +kernel) rfl (la_o hL (by decide) rfl) (la_r hL 125 rfl) ?_
    refine tr_aload_n (pc' := 278) (show decode cX10_splits 277 = .ok (.aload_n 0, 1) by decide +kernel) rfl rfl rfl ?_
    refine tr_getI (pc' := 281) fl_HandRingModel_168 (show decode cX10_splits 278 = .ok (.getfield 168, 3) by decide +kernel) rfl (la_o hL (by decide) rfl) ?_
    refine tr_iconst (pc' := 282) (v := (0 : Int32)) (show decode cX10_splits 281 = .ok (.iconst 0, 1) by decide +kernel) rfl (by decide) ?_
    obtain ⟨μ28, eμ28, h⟩ := hm_bs h
    refine tp_sdI (pc' := 283) (show decode cX10_splits 282 = .ok (.iastore, 1) by decide +kernel) rfl (la_a hL (by decide) rfl) eμ28 ?_
    replace hL := hL.same (hm_sd_s eμ28)
    refine tr_aload_n (pc' := 284) (show decode cX10_splits 283 = .ok (.aload_n 0, 1) by decide +kernel) rfl rfl rfl ?_
    refine tr_getR (pc' := 287) fl_HandRingModel_53 (show decode cX10_splits 284 = .ok (.getfield 53, 3) by decide +kernel) rfl (la_o hL (by decide) rfl) (la_r hL 126 rfl) ?_
    refine tr_aload_n (pc' := 288) (show decode cX10_splits 287 = .ok (.aload_n 0, 1) by decide +kernel) rfl rfl rfl ?_
    refine tr_getI (pc' := 291) fl_HandRingModel_168 (show decode cX10_splits 288 = .ok (.getfield 168, 3) by decide +kernel) rfl (la_o hL (by decide) rfl) ?_
    refine tr_iconst (pc' := 292) (v := (0 : Int32)) (show decode cX10_splits 291 = .ok (.iconst 0, 1) by decide +kernel) rfl (by decide) ?_
    obtain ⟨μ29, eμ29, h⟩ := hm_bs h
    refine tp_sdI (pc' := 293) (show decode cX10_splits 292 = .ok (.iastore, 1) by decide +kernel) rfl (la_a hL (by decide) rfl) eμ29 ?_
    replace hL := hL.same (hm_sd_s eμ29)
    cases h
    exact tr_vret rfl (show decode cX10_splits 293 = .ok (.return_, 1) by decide +kernel) hL
def f_X10_fine (μ : hm_M) : Option Int32 :=
  (if (μ.1 179 21) = (-1 : Int32) then
  some (1 : Int32)
  else
  some (0 : Int32))
set_option maxRecDepth 100000 in
theorem ok_X10_fine {fr : Nat} (hfr : 0 ≤ fr) {ν : hm_N} {r : Int32}    (μ : hm_M) (hL : hm_LL ν μ) (h : f_X10_fine μ = some r) : hm_CC (hm_LL ν) m_X10_fine fr 0 0 [.ref 179] μ (some (.int r)) μ := by
  refine hm_enter (lv := [some (.ref 179)]) (by decide) rfl (Nat.le_of_ble_eq_true rfl) ?_
  unfold f_X10_fine at h
  refine tr_aload_n (pc' := 1) (show decode cX10_fine 0 = .ok (.aload_n 0, 1) by decide +kernel) rfl rfl rfl ?_
  refine tr_getI (pc' := 4) fl_HandRingModel_181 (show decode cX10_fine 1 = .ok (.getfield 181, 3) by decide +kernel) rfl (la_o hL (by decide) rfl) ?_
  refine tr_iconst (pc' := 5) (v := (-1 : Int32)) (show decode cX10_fine 4 = .ok (.iconst (-1), 1) by decide +kernel) rfl (by decide) ?_
  rcases hm_is h with ⟨hc, h⟩ | ⟨hc, h⟩
  · refine tr_icmp_ne_f (tgt := 12) (pc' := 8) hc (show decode cX10_fine 5 = .ok (.if_icmp .ne 7, 3) by decide +kernel) (by decide) rfl ?_
    refine tr_iconst (pc' := 9) (v := (1 : Int32)) (show decode cX10_fine 8 = .ok (.iconst 1, 1) by decide +kernel) rfl (by decide) ?_
    refine tr_goto (tgt := 13) (show decode cX10_fine 9 = .ok (.goto 4, 3) by decide +kernel) rfl ?_
    cases h
    exact tr_zret rfl (by decide) (show decode cX10_fine 13 = .ok (.ireturn, 1) by decide +kernel) hL
  · refine tr_icmp_ne_t (tgt := 12) hc (show decode cX10_fine 5 = .ok (.if_icmp .ne 7, 3) by decide +kernel) (by decide) ?_
    refine tr_iconst (pc' := 13) (v := (0 : Int32)) (show decode cX10_fine 12 = .ok (.iconst 0, 1) by decide +kernel) rfl (by decide) ?_
    cases h
    exact tr_zret rfl (by decide) (show decode cX10_fine 13 = .ok (.ireturn, 1) by decide +kernel) hL
