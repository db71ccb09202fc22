def f_X10_lies (v0 : Int32) (v1 : Int32) (v2 : Int32) : Option Int32 :=
  (if v0 < v1 then
  some (0 : Int32)
  else
  (if v2 < v0 then
  some (0 : Int32)
  else
  some (1 : Int32)))
set_option maxRecDepth 100000 in
theorem ok_X10_lies {fr : Nat} (hfr : 0 ≤ fr) {ν : hm_N} {r : Int32}  (v0 : Int32) (v1 : Int32) (v2 : Int32)  (μ : hm_M) (hL : hm_LL ν μ) (h : f_X10_lies v0 v1 v2 = some r) : hm_CC (hm_LL ν) m_X10_lies fr 0 0 [.int v0, .int v1, .int v2] μ (some (.int r)) μ := by
  refine hm_enter (lv := [some (.int v0), some (.int v1), some (.int v2)]) (by decide) rfl (Nat.le_of_ble_eq_true rfl) ?_
  unfold f_X10_lies at h
  refine tr_iload_n (pc' := 1) (show decode cX10_lies 0 = .ok (.iload_n 0, 1) by decide +kernel) rfl rfl rfl ?_
  refine tr_iload_n (pc' := 2) (show decode cX10_lies 1 = .ok (.iload_n 1, 1) by decide +kernel) rfl rfl rfl ?_
  rcases hm_is h with ⟨hc, h⟩ | ⟨hc, h⟩
  · refine tr_icmp_lt_t (tgt := 14) hc (show decode cX10_lies 2 = .ok (.if_icmp .lt 12, 3) by decide +kernel) (by decide) ?_
    refine tr_iconst (pc' := 15) (v := (0 : Int32)) (show decode cX10_lies 14 = .ok (.iconst 0, 1) by decide +kernel) rfl (by decide) ?_
    cases h
    exact tr_zret rfl (by decide) (show decode cX10_lies 15 = .ok (.ireturn, 1) by decide +kernel) hL
  · refine tr_icmp_lt_f (tgt := 14) (pc' := 5) hc (show decode cX10_lies 2 = .ok (.if_icmp .lt 12, 3) by decide +kernel) (by decide) rfl ?_
    refine tr_iload_n (pc' := 6) (show decode cX10_lies 5 = .ok (.iload_n 0, 1) by decide +kernel) rfl rfl rfl ?_
    refine tr_iload_n (pc' := 7) (show decode cX10_lies 6 = .ok (.iload_n 2, 1) by decide +kernel) rfl rfl rfl ?_
    rcases hm_is h with ⟨hc, h⟩ | ⟨hc, h⟩
    · refine tr_icmp_gt_t (tgt := 14) hc (show decode cX10_lies 7 = .ok (.if_icmp .gt 7, 3) by decide +kernel) (by decide) ?_
      refine tr_iconst (pc' := 15) (v := (0 : Int32)) (show decode cX10_lies 14 = .ok (.iconst 0, 1) by decide +kernel) rfl (by decide) ?_
      cases h
      exact tr_zret rfl (by decide) (show decode cX10_lies 15 = .ok (.ireturn, 1) by decide +kernel) hL
    · refine tr_icmp_gt_f (tgt := 14) (pc' := 10) hc (show decode cX10_lies 7 = .ok (.if_icmp .gt 7, 3) by decide +kernel) (by decide) rfl ?_
      refine tr_iconst (pc' := 11) (v := (1 : Int32)) (show decode cX10_lies 10 = .ok (.iconst 1, 1) by decide +kernel) rfl (by decide) ?_
      refine tr_goto (tgt := 15) (show decode cX10_lies 11 = .ok (.goto 4, 3) by decide +kernel) rfl ?_
      cases h
      exact tr_zret rfl (by decide) (show decode cX10_lies 15 = .ok (.ireturn, 1) by decide +kernel) hL
def f_X10_lesser (v0 : Int32) (v1 : Int32) : Option Int32 :=
  (if v1 ≤ v0 then
  some v1
  else
  some v0)
set_option maxRecDepth 100000 in
theorem ok_X10_lesser {fr : Nat} (hfr : 0 ≤ fr) {ν : hm_N} {r : Int32}  (v0 : Int32) (v1 : Int32)  (μ : hm_M) (hL : hm_LL ν μ) (h : f_X10_lesser v0 v1 = some r) : hm_CC (hm_LL ν) m_X10_lesser fr 0 0 [.int v0, .int v1] μ (some (.int r)) μ := by
  refine hm_enter (lv := [some (.int v0), some (.int v1)]) (by decide) rfl (Nat.le_of_ble_eq_true rfl) ?_
  unfold f_X10_lesser at h
  refine tr_iload_n (pc' := 1) (show decode cX10_lesser 0 = .ok (.iload_n 0, 1) by decide +kernel) rfl rfl rfl ?_
  refine tr_iload_n (pc' := 2) (show decode cX10_lesser 1 = .ok (.iload_n 1, 1) by decide +kernel) rfl rfl rfl ?_
  rcases hm_is h with ⟨hc, h⟩ | ⟨hc, h⟩
  · refine tr_icmp_ge_t (tgt := 9) hc (show decode cX10_lesser 2 = .ok (.if_icmp .ge 7, 3) by decide +kernel) (by decide) ?_
    refine tr_iload_n (pc' := 10) (show decode cX10_lesser 9 = .ok (.iload_n 1, 1) by decide +kernel) rfl rfl rfl ?_
    cases h
    exact tr_iret rfl (show decode cX10_lesser 10 = .ok (.ireturn, 1) by decide +kernel) hL
  · refine tr_icmp_ge_f (tgt := 9) (pc' := 5) hc (show decode cX10_lesser 2 = .ok (.if_icmp .ge 7, 3) by decide +kernel) (by decide) rfl ?_
    refine tr_iload_n (pc' := 6) (show decode cX10_lesser 5 = .ok (.iload_n 0, 1) by decide +kernel) rfl rfl rfl ?_
    refine tr_goto (tgt := 10) (show decode cX10_lesser 6 = .ok (.goto 4, 3) by decide +kernel) rfl ?_
    cases h
    exact tr_iret rfl (show decode cX10_lesser 10 = .ok (.ireturn, 1) by decide +kernel) hL
def f_X10_greater (v0 : Int32) (v1 : Int32) : Option Int32 :=
  (if v0 ≤ v1 then
  some v1
  else
  some v0)
set_option maxRecDepth 100000 in
theorem ok_X10_greater {fr : Nat} (hfr : 0 ≤ fr) {ν : hm_N} {r : Int32}  (v0 : Int32) (v1 : Int32)  (μ : hm_M) (hL : hm_LL ν μ) (h : f_X10_greater v0 v1 = some r) : hm_CC (hm_LL ν) m_X10_greater fr 0 0 [.int v0, .int v1] μ (some (.int r)) μ := by
  refine hm_enter (lv := [some (.int v0), some (.int v1)]) (by decide) rfl (Nat.le_of_ble_eq_true rfl) ?_
  unfold f_X10_greater at h
  refine tr_iload_n (pc' := 1) (show decode cX10_greater 0 = .ok (.iload_n 0, 1) by decide +kernel) rfl rfl rfl ?_
  refine tr_iload_n (pc' := 2) (show decode cX10_greater 1 = .ok (.iload_n 1, 1) by decide +kernel) rfl rfl rfl ?_
  rcases hm_is h with ⟨hc, h⟩ | ⟨hc, h⟩
  · refine tr_icmp_le_t (tgt := 9) hc (show decode cX10_greater 2 = .ok (.if_icmp .le 7, 3) by decide +kernel) (by decide) ?_
    refine tr_iload_n (pc' := 10) (show decode cX10_greater 9 = .ok (.iload_n 1, 1) by decide +kernel) rfl rfl rfl ?_
    cases h
    exact tr_iret rfl (show decode cX10_greater 10 = .ok (.ireturn, 1) by decide +kernel) hL
  · refine tr_icmp_le_f (tgt := 9) (pc' := 5) hc (show decode cX10_greater 2 = .ok (.if_icmp .le 7, 3) by decide +kernel) (by decide) rfl ?_
    refine tr_iload_n (pc' := 6) (show decode cX10_greater 5 = .ok (.iload_n 0, 1) by decide +kernel) rfl rfl rfl ?_
    refine tr_goto (tgt := 10) (show decode cX10_greater 6 = .ok (.goto 4, 3) by decide +kernel) rfl ?_
    cases h
    exact tr_iret rfl (show decode cX10_greater 10 = .ok (.ireturn, 1) by decide +kernel) hL
def f_X10_apart (v0 : Int32) (v1 : Int32) : Option Int32 :=
  (if v0 ≤ v1 then
  some (v1 - v0)
  else
  some (v0 - v1))
set_option maxRecDepth 100000 in
theorem ok_X10_apart {fr : Nat} (hfr : 0 ≤ fr) {ν : hm_N} {r : Int32}  (v0 : Int32) (v1 : Int32)  (μ : hm_M) (hL : hm_LL ν μ) (h : f_X10_apart v0 v1 = some r) : hm_CC (hm_LL ν) m_X10_apart fr 0 0 [.int v0, .int v1] μ (some (.int r)) μ := by
  refine hm_enter (lv := [some (.int v0), some (.int v1)]) (by decide) rfl (Nat.le_of_ble_eq_true rfl) ?_
  unfold f_X10_apart at h
  refine tr_iload_n (pc' := 1) (show decode cX10_apart 0 = .ok (.iload_n 0, 1) by decide +kernel) rfl rfl rfl ?_
  refine tr_iload_n (pc' := 2) (show decode cX10_apart 1 = .ok (.iload_n 1, 1) by decide +kernel) rfl rfl rfl ?_
  rcases hm_is h with ⟨hc, h⟩ | ⟨hc, h⟩
  · refine tr_icmp_le_t (tgt := 11) hc (show decode cX10_apart 2 = .ok (.if_icmp .le 9, 3) by decide +kernel) (by decide) ?_
    refine tr_iload_n (pc' := 12) (show decode cX10_apart 11 = .ok (.iload_n 1, 1) by decide +kernel) rfl rfl rfl ?_
    refine tr_iload_n (pc' := 13) (show decode cX10_apart 12 = .ok (.iload_n 0, 1) by decide +kernel) rfl rfl rfl ?_
    refine tr_isub (pc' := 14) (show decode cX10_apart 13 = .ok (.isub, 1) by decide +kernel) rfl ?_
    cases h
    exact tr_iret rfl (show decode cX10_apart 14 = .ok (.ireturn, 1) by decide +kernel) hL
  · refine tr_icmp_le_f (tgt := 11) (pc' := 5) hc (show decode cX10_apart 2 = .ok (.if_icmp .le 9, 3) by decide +kernel) (by decide) rfl ?_
    refine tr_iload_n (pc' := 6) (show decode cX10_apart 5 = .ok (.iload_n 0, 1) by decide +kernel) rfl rfl rfl ?_
    refine tr_iload_n (pc' := 7) (show decode cX10_apart 6 = .ok (.iload_n 1, 1) by decide +kernel) rfl rfl rfl ?_
    refine tr_isub (pc' := 8) (show decode cX10_apart 7 = .ok (.isub, 1) by decide +kernel) rfl ?_
    refine tr_goto (tgt := 14) (show decode cX10_apart 8 = .ok (.goto 6, 3) by decide +kernel) rfl ?_
    cases h
    exact tr_iret rfl (show decode cX10_apart 14 = .ok (.ireturn, 1) by decide +kernel) hL
def f_X10_refuses (v1 : Int32) (μ : hm_M) : Option (Int32 × hm_M) :=
  Option.bind (hm_pI μ 179 0 v1) fun μ2 =>
  Option.bind (hm_ld μ2 180 7 (-v1)) fun x3 =>
  Option.bind (hm_sd μ2 180 7 (-v1) (x3 + (1 : Int32))) fun μ4 =>
  some (v1, μ4)
set_option maxRecDepth 100000 in
theorem ok_X10_refuses {fr : Nat} (hfr : 0 ≤ fr) {ν : hm_N} {r : Int32} {μR : hm_M}  (v1 : Int32)  (μ : hm_M) (hL : hm_LL ν μ) (h : f_X10_refuses v1 μ = some (r, μR)) : hm_CC (hm_LL ν) m_X10_refuses fr 0 0 [.ref 179, .int v1] μ (some (.int r)) μR := by
  refine hm_enter (lv := [some (.ref 179), some (.int v1)]) (by decide) rfl (Nat.le_of_ble_eq_true rfl) ?_
  unfold f_X10_refuses at h
  refine tr_aload_n (pc' := 1) (show decode cX10_refuses 0 = .ok (.aload_n 0, 1) by decide +kernel) rfl rfl rfl ?_
  refine tr_iload_n (pc' := 2) (show decode cX10_refuses 1 = .ok (.iload_n 1, 1) by decide +kernel) rfl rfl rfl ?_
  obtain ⟨μ2, eμ2, h⟩ := hm_bs h
  refine tp_pI (pc' := 5) fl_HandRingModel_3 (show decode cX10_refuses 2 = .ok (.putfield 3, 3) by decide +kernel) rfl (la_o hL (by decide) rfl) eμ2 ?_
  replace hL := hL.same (hm_pI_s eμ2)
  refine tr_aload_n (pc' := 6) (show decode cX10_refuses 5 = .ok (.aload_n 0, 1) by decide +kernel) rfl rfl rfl ?_
  refine tr_getR (pc' := 9) fl_HandRingModel_7 (show decode cX10_refuses 6 = .ok (.getfield 7, 3) by decide +kernel) rfl (la_o hL (by decide) rfl) (la_r hL 117 rfl) ?_
  refine tr_iload_n (pc' := 10) (show decode cX10_refuses 9 = .ok (.iload_n 1, 1) by decide +kernel) rfl rfl rfl ?_
  refine tr_ineg (pc' := 11) (show decode cX10_refuses 10 = .ok (.ineg, 1) by decide +kernel) rfl ?_
  refine tr_dup2 (pc' := 12) (show decode cX10_refuses 11 = .ok (.dup2, 1) by decide +kernel) rfl rfl rfl ?_
  obtain ⟨x3, ex3, h⟩ := hm_bs h
  refine tp_ldI (pc' := 13) (show decode cX10_refuses 12 = .ok (.iaload, 1) by decide +kernel) rfl (la_a hL (by decide) rfl) ex3 ?_
  refine tr_iconst (pc' := 14) (v := (1 : Int32)) (show decode cX10_refuses 13 = .ok (.iconst 1, 1) by decide +kernel) rfl (by decide) ?_
  refine tr_iadd (pc' := 15) (show decode cX10_refuses 14 = .ok (.iadd, 1) by decide +kernel) rfl ?_
  obtain ⟨μ4, eμ4, h⟩ := hm_bs h
  refine tp_sdI (pc' := 16) (show decode cX10_refuses 15 = .ok (.iastore, 1) by decide +kernel) rfl (la_a hL (by decide) rfl) eμ4 ?_
  replace hL := hL.same (hm_sd_s eμ4)
  refine tr_iload_n (pc' := 17) (show decode cX10_refuses 16 = .ok (.iload_n 1, 1) by decide +kernel) rfl rfl rfl ?_
  cases h
  exact tr_iret rfl (show decode cX10_refuses 17 = .ok (.ireturn, 1) by decide +kernel) hL
def f_X10_good (v1 : Int32) (μ : hm_M) : Option (Int32 × hm_M) :=
  Option.bind (hm_pI μ 179 0 (0 : Int32)) fun μ2 =>
  some (v1, μ2)
set_option maxRecDepth 100000 in
theorem ok_X10_good {fr : Nat} (hfr : 0 ≤ fr) {ν : hm_N} {r : Int32} {μR : hm_M}  (v1 : Int32)  (μ : hm_M) (hL : hm_LL ν μ) (h : f_X10_good v1 μ = some (r, μR)) : hm_CC (hm_LL ν) m_X10_good fr 0 0 [.ref 179, .int v1] μ (some (.int r)) μR := by
  refine hm_enter (lv := [some (.ref 179), some (.int v1)]) (by decide) rfl (Nat.le_of_ble_eq_true rfl) ?_
  unfold f_X10_good at h
  refine tr_aload_n (pc' := 1) (show decode cX10_good 0 = .ok (.aload_n 0, 1) by decide +kernel) rfl rfl rfl ?_
  refine tr_iconst (pc' := 2) (v := (0 : Int32)) (show decode cX10_good 1 = .ok (.iconst 0, 1) by decide +kernel) rfl (by decide) ?_
  obtain ⟨μ2, eμ2, h⟩ := hm_bs h
  refine tp_pI (pc' := 5) fl_HandRingModel_3 (show decode cX10_good 2 = .ok (.putfield 3, 3) by decide +kernel) rfl (la_o hL (by decide) rfl) eμ2 ?_
  replace hL := hL.same (hm_pI_s eμ2)
  refine tr_iload_n (pc' := 6) (show decode cX10_good 5 = .ok (.iload_n 1, 1) by decide +kernel) rfl rfl rfl ?_
  cases h
  exact tr_iret rfl (show decode cX10_good 6 = .ok (.ireturn, 1) by decide +kernel) hL
def f_X10_settled (v1 : Int32) (μ : hm_M) : Option (Int32 × hm_M) :=
  Option.bind (hm_pI μ 179 33 (0 : Int32)) fun μ2 =>
  hm_b2 (f_X10_good v1 μ2) fun x3 μ4 =>
  some (x3, μ4)
set_option maxRecDepth 100000 in
theorem ok_X10_settled {fr : Nat} (hfr : 1 ≤ fr) {ν : hm_N} {r : Int32} {μR : hm_M}  (v1 : Int32)  (μ : hm_M) (hL : hm_LL ν μ) (h : f_X10_settled v1 μ = some (r, μR)) : hm_CC (hm_LL ν) m_X10_settled fr 0 0 [.ref 179, .int v1] μ (some (.int r)) μR := by
  refine hm_enter (lv := [some (.ref 179), some (.int v1)]) (by decide) rfl (Nat.le_of_ble_eq_true rfl) ?_
  unfold f_X10_settled at h
  refine tr_aload_n (pc' := 1) (show decode cX10_settled 0 = .ok (.aload_n 0, 1) by decide +kernel) rfl rfl rfl ?_
  refine tr_iconst (pc' := 2) (v := (0 : Int32)) (show decode cX10_settled 1 = .ok (.iconst 0, 1) by decide +kernel) rfl (by decide) ?_
  obtain ⟨μ2, eμ2, h⟩ := hm_bs h
  refine tp_pI (pc' := 5) fl_HandRingModel_11 (show decode cX10_settled 2 = .ok (.putfield 11, 3) by decide +kernel) rfl (la_o hL (by decide) rfl) eμ2 ?_
  replace hL := hL.same (hm_pI_s eμ2)
  refine tr_aload_n (pc' := 6) (show decode cX10_settled 5 = .ok (.aload_n 0, 1) by decide +kernel) rfl rfl rfl ?_
  refine tr_iload_n (pc' := 7) (show decode cX10_settled 6 = .ok (.iload_n 1, 1) by decide +kernel) rfl rfl rfl ?_
  obtain ⟨x3, μ4, ex3, h⟩ := hm_b2s h
  have cx3 := ok_X10_good (fr := fr - 1) (ν := ν) (by omega) v1 μ2 hL ex3
  refine tp_callV (pc' := 10) (As := [.int v1]) (fr1 := fr - 1) (ci := 10) okm_X10_good lk_HandRingModel_14 (show decode cX10_settled 7 = .ok (.invokevirtual 14, 3) by decide +kernel) rfl rfl rfl (by decide) (la_o hL (by decide) rfl) rfl rfl (Nat.le_of_ble_eq_true rfl) (by omega) cx3 (st' := [.int x3]) rfl ?_
  replace hL := cx3.1
  cases h
  exact tr_iret rfl (show decode cX10_settled 10 = .ok (.ireturn, 1) by decide +kernel) hL
def f_X10_isIn (v0 : Int32) (v1 : Int32) : Option Int32 :=
  (if ((v0 >>> (v1 &&& 31)) &&& (1 : Int32)) = (1 : Int32) then
  some (1 : Int32)
  else
  some (0 : Int32))
set_option maxRecDepth 100000 in
theorem ok_X10_isIn {fr : Nat} (hfr : 0 ≤ fr) {ν : hm_N} {r : Int32}  (v0 : Int32) (v1 : Int32)  (μ : hm_M) (hL : hm_LL ν μ) (h : f_X10_isIn v0 v1 = some r) : hm_CC (hm_LL ν) m_X10_isIn fr 0 0 [.int v0, .int v1] μ (some (.int r)) μ := by
  refine hm_enter (lv := [some (.int v0), some (.int v1)]) (by decide) rfl (Nat.le_of_ble_eq_true rfl) ?_
  unfold f_X10_isIn at h
  refine tr_iload_n (pc' := 1) (show decode cX10_isIn 0 = .ok (.iload_n 0, 1) by decide +kernel) rfl rfl rfl ?_
  refine tr_iload_n (pc' := 2) (show decode cX10_isIn 1 = .ok (.iload_n 1, 1) by decide +kernel) rfl rfl rfl ?_
  refine tr_ishr (pc' := 3) (show decode cX10_isIn 2 = .ok (.ishr, 1) by decide +kernel) rfl ?_
  refine tr_iconst (pc' := 4) (v := (1 : Int32)) (show decode cX10_isIn 3 = .ok (.iconst 1, 1) by decide +kernel) rfl (by decide) ?_
  refine tr_iand (pc' := 5) (show decode cX10_isIn 4 = .ok (.iand, 1) by decide +kernel) rfl ?_
  refine tr_iconst (pc' := 6) (v := (1 : Int32)) (show decode cX10_isIn 5 = .ok (.iconst 1, 1) by decide +kernel) rfl (by decide) ?_
  rcases hm_is h with ⟨hc, h⟩ | ⟨hc, h⟩
  · refine tr_icmp_ne_f (tgt := 13) (pc' := 9) hc (show decode cX10_isIn 6 = .ok (.if_icmp .ne 7, 3) by decide +kernel) (by decide) rfl ?_
    refine tr_iconst (pc' := 10) (v := (1 : Int32)) (show decode cX10_isIn 9 = .ok (.iconst 1, 1) by decide +kernel) rfl (by decide) ?_
    refine tr_goto (tgt := 14) (show decode cX10_isIn 10 = .ok (.goto 4, 3) by decide +kernel) rfl ?_
    cases h
    exact tr_zret rfl (by decide) (show decode cX10_isIn 14 = .ok (.ireturn, 1) by decide +kernel) hL
  · refine tr_icmp_ne_t (tgt := 13) hc (show decode cX10_isIn 6 = .ok (.if_icmp .ne 7, 3) by decide +kernel) (by decide) ?_
    refine tr_iconst (pc' := 14) (v := (0 : Int32)) (show decode cX10_isIn 13 = .ok (.iconst 0, 1) by decide +kernel) rfl (by decide) ?_
    cases h
    exact tr_zret rfl (by decide) (show decode cX10_isIn 14 = .ok (.ireturn, 1) by decide +kernel) hL
def f_X10_ones_L4 (v0 : Int32) (e24 : Int32 → Option Int32) : Nat → Int32 → Int32 → Option Int32
  | 0, _, _ => none
  | n + 1, y1, y2 => (if (8 : Int32) ≤ y2 then
  e24 y1
  else
  Option.bind (some (y1 + ((v0 >>> (y2 &&& 31)) &&& (1 : Int32)))) fun x2 =>
  (f_X10_ones_L4 v0 e24 n) x2 (y2 + (1 : Int32)))
theorem ok_X10_ones_L4 {fr : Nat} (hfr : 0 ≤ fr) {ν : hm_N} {r : Int32}  (v0 : Int32) (e24 : Int32 → Option Int32)  (he24 : ∀ (y1 : Int32)  (μ1 : hm_M), hm_LL ν μ1 → e24 y1 = some r → hm_T (hm_LL ν) m_X10_ones fr 0 0 (some (.int r)) μ1 24 [none, some (.int y1), none] [] μ1)  : ∀ (n : Nat) (y1 : Int32) (y2 : Int32)  (μ1 : hm_M), hm_LL ν μ1 → f_X10_ones_L4 v0 e24 n y1 y2 = some r → hm_T (hm_LL ν) m_X10_ones fr 0 0 (some (.int r)) μ1 4 [some (.int v0), some (.int y1), some (.int y2)] [] μ1 := by
  intro n
  induction n with
  | zero =>
    intro y1 y2 μ1 hL h
    unfold f_X10_ones_L4 at h
    cases h
  | succ n ih =>
    intro y1 y2 μ1 hL h
    unfold f_X10_ones_L4 at h
    refine tr_iload_n (pc' := 5) (show decode cX10_ones 4 = .ok (.iload_n 2, 1) by decide +kernel) rfl rfl rfl ?_
    refine tr_bipush (pc' := 7) (v := (8 : Int32)) (show decode cX10_ones 5 = .ok (.bipush 8, 2) by decide +kernel) rfl (by decide) ?_
    rcases hm_is h with ⟨hc, h⟩ | ⟨hc, h⟩
    · refine tr_icmp_ge_t (tgt := 24) hc (show decode cX10_ones 7 = .ok (.if_icmp .ge 17, 3) by decide +kernel) (by decide) ?_
      refine hm_fgt [false, true, false] (lv' := [none, some (.int y1), none]) rfl ?_
      exact he24 y1 μ1 hL h
    · refine tr_icmp_ge_f (tgt := 24) (pc' := 10) hc (show decode cX10_ones 7 = .ok (.if_icmp .ge 17, 3) by decide +kernel) (by decide) rfl ?_
      refine tr_iload_n (pc' := 11) (show decode cX10_ones 10 = .ok (.iload_n 1, 1) by decide +kernel) rfl rfl rfl ?_
      refine tr_iload_n (pc' := 12) (show decode cX10_ones 11 = .ok (.iload_n 0, 1) by decide +kernel) rfl rfl rfl ?_
      refine tr_iload_n (pc' := 13) (show decode cX10_ones 12 = .ok (.iload_n 2, 1) by decide +kernel) rfl rfl rfl ?_
      refine tr_ishr (pc' := 14) (show decode cX10_ones 13 = .ok (.ishr, 1) by decide +kernel) rfl ?_
      refine tr_iconst (pc' := 15) (v := (1 : Int32)) (show decode cX10_ones 14 = .ok (.iconst 1, 1) by decide +kernel) rfl (by decide) ?_
      refine tr_iand (pc' := 16) (show decode cX10_ones 15 = .ok (.iand, 1) by decide +kernel) rfl ?_
      refine tr_iadd (pc' := 17) (show decode cX10_ones 16 = .ok (.iadd, 1) by decide +kernel) rfl ?_
      obtain ⟨x2, ex2, h⟩ := hm_bs h
      have ex2 := Option.some.inj ex2
      rw [ex2]
      refine tr_istore_n (pc' := 18) (lv' := [some (.int v0), some (.int x2), some (.int y2)]) (show decode cX10_ones 17 = .ok (.istore_n 1, 1) by decide +kernel) rfl rfl (Nat.le_of_ble_eq_true rfl) rfl rfl ?_
      refine tr_iinc (pc' := 21) (v := y2 + (1 : Int32)) (lv' := [some (.int v0), some (.int x2), some (.int (y2 + (1 : Int32)))]) (show decode cX10_ones 18 = .ok (.iinc 2 1, 3) by decide +kernel) rfl rfl rfl (Nat.le_of_ble_eq_true rfl) rfl rfl ?_
      refine tr_goto (tgt := 4) (show decode cX10_ones 21 = .ok (.goto (-17), 3) by decide +kernel) rfl ?_
      exact ih x2 (y2 + (1 : Int32)) μ1 hL h
def f_X10_ones (v0 : Int32) : Option Int32 :=
  f_X10_ones_L4 v0 (fun z3_1 => some z3_1) hm_fu (0 : Int32) (0 : Int32)
set_option maxRecDepth 100000 in
theorem ok_X10_ones {fr : Nat} (hfr : 0 ≤ fr) {ν : hm_N} {r : Int32}  (v0 : Int32)  (μ : hm_M) (hL : hm_LL ν μ) (h : f_X10_ones v0 = some r) : hm_CC (hm_LL ν) m_X10_ones fr 0 0 [.int v0] μ (some (.int r)) μ := by
  refine hm_enter (lv := [some (.int v0), none, none]) (by decide) rfl (Nat.le_of_ble_eq_true rfl) ?_
  unfold f_X10_ones at h
  refine tr_iconst (pc' := 1) (v := (0 : Int32)) (show decode cX10_ones 0 = .ok (.iconst 0, 1) by decide +kernel) rfl (by decide) ?_
  refine tr_istore_n (pc' := 2) (lv' := [some (.int v0), some (.int (0 : Int32)), none]) (show decode cX10_ones 1 = .ok (.istore_n 1, 1) by decide +kernel) rfl rfl (Nat.le_of_ble_eq_true rfl) rfl rfl ?_
  refine tr_iconst (pc' := 3) (v := (0 : Int32)) (show decode cX10_ones 2 = .ok (.iconst 0, 1) by decide +kernel) rfl (by decide) ?_
  refine tr_istore_n (pc' := 4) (lv' := [some (.int v0), some (.int (0 : Int32)), some (.int (0 : Int32))]) (show decode cX10_ones 3 = .ok (.istore_n 2, 1) by decide +kernel) rfl rfl (Nat.le_of_ble_eq_true rfl) rfl rfl ?_
  refine ok_X10_ones_L4 hfr _ _ ?_ _ (0 : Int32) (0 : Int32) μ hL h
  · intro z3_1 μz3 hL h
    refine tr_iload_n (pc' := 25) (show decode cX10_ones 24 = .ok (.iload_n 1, 1) by decide +kernel) rfl rfl rfl ?_
    cases h
    exact tr_iret rfl (show decode cX10_ones 25 = .ok (.ireturn, 1) by decide +kernel) hL
def f_X10_cellAt (v0 : Int32) (v1 : Int32) : Option Int32 :=
  (if v1 < (1 : Int32) ∨ (3 : Int32) < v1 then
  (if (v0 - v0 / (5 : Int32) * (5 : Int32)) ≤ 0 then
  some (-1 : Int32)
  else
  some (v0 - (1 : Int32)))
  else
  (if v1 = (1 : Int32) then
  (if (25 : Int32) ≤ (v0 + (5 : Int32)) then
  some (-1 : Int32)
  else
  some (v0 + (5 : Int32)))
  else
  (if v1 = (2 : Int32) then
  (if (4 : Int32) ≤ (v0 - v0 / (5 : Int32) * (5 : Int32)) then
  some (-1 : Int32)
  else
  some (v0 + (1 : Int32)))
  else
  (if v1 = (3 : Int32) then
  (if v0 < (5 : Int32) then
  some (-1 : Int32)
  else
  some (v0 - (5 : Int32)))
  else
  none))))
set_option maxRecDepth 100000 in
theorem ok_X10_cellAt {fr : Nat} (hfr : 0 ≤ fr) {ν : hm_N} {r : Int32}  (v0 : Int32) (v1 : Int32)  (μ : hm_M) (hL : hm_LL ν μ) (h : f_X10_cellAt v0 v1 = some r) : hm_CC (hm_LL ν) m_X10_cellAt fr 0 0 [.int v0, .int v1] μ (some (.int r)) μ := by
  refine hm_enter (lv := [some (.int v0), some (.int v1)]) (by decide) rfl (Nat.le_of_ble_eq_true rfl) ?_
  unfold f_X10_cellAt at h
  refine tr_iload_n (pc' := 1) (show decode cX10_cellAt 0 = .ok (.iload_n 1, 1) by decide +kernel) rfl rfl rfl ?_
  rcases hm_is h with ⟨hc, h⟩ | ⟨-, h⟩
  · refine tp_tout (tgt := 72) hc (by decide) (by decide) (show decode cX10_cellAt 1 = .ok (.tableswitch 71 1 3 #[27, 43, 58], 27) by decide +kernel) (by decide) ?_
    refine tr_iload_n (pc' := 73) (show decode cX10_cellAt 72 = .ok (.iload_n 0, 1) by decide +kernel) rfl rfl rfl ?_
    refine tr_iconst (pc' := 74) (v := (5 : Int32)) (show decode cX10_cellAt 73 = .ok (.iconst 5, 1) by decide +kernel) rfl (by decide) ?_
    refine tr_irem (pc' := 75) (show decode cX10_cellAt 74 = .ok (.irem, 1) by decide +kernel) rfl (by decide) ?_
    rcases hm_is h with ⟨hc, h⟩ | ⟨hc, h⟩
    · refine tr_if_le_t (tgt := 84) hc (show decode cX10_cellAt 75 = .ok (.ifCond .le 9, 3) by decide +kernel) (by decide) ?_
      refine tr_iconst (pc' := 85) (v := (-1 : Int32)) (show decode cX10_cellAt 84 = .ok (.iconst (-1), 1) by decide +kernel) rfl (by decide) ?_
      cases h
      exact tr_iret rfl (show decode cX10_cellAt 85 = .ok (.ireturn, 1) by decide +kernel) hL
    · refine tr_if_le_f (tgt := 84) (pc' := 78) hc (show decode cX10_cellAt 75 = .ok (.ifCond .le 9, 3) by decide +kernel) (by decide) rfl ?_
      refine tr_iload_n (pc' := 79) (show decode cX10_cellAt 78 = .ok (.iload_n 0, 1) by decide +kernel) rfl rfl rfl ?_
      refine tr_iconst (pc' := 80) (v := (1 : Int32)) (show decode cX10_cellAt 79 = .ok (.iconst 1, 1) by decide +kernel) rfl (by decide) ?_
      refine tr_isub (pc' := 81) (show decode cX10_cellAt 80 = .ok (.isub, 1) by decide +kernel) rfl ?_
      refine tr_goto (tgt := 85) (show decode cX10_cellAt 81 = .ok (.goto 4, 3) by decide +kernel) rfl ?_
      cases h
      exact tr_iret rfl (show decode cX10_cellAt 85 = .ok (.ireturn, 1) by decide +kernel) hL
  · rcases hm_is h with ⟨hc, h⟩ | ⟨-, h⟩
    · refine tp_tin (tgt := 28) (off := 27) hc (show decode cX10_cellAt 1 = .ok (.tableswitch 71 1 3 #[27, 43, 58], 27) by decide +kernel) (by decide) (by decide) (by decide) (by decide) ?_
      refine tr_iload_n (pc' := 29) (show decode cX10_cellAt 28 = .ok (.iload_n 0, 1) by decide +kernel) rfl rfl rfl ?_
      refine tr_iconst (pc' := 30) (v := (5 : Int32)) (show decode cX10_cellAt 29 = .ok (.iconst 5, 1) by decide +kernel) rfl (by decide) ?_
      refine tr_iadd (pc' := 31) (show decode cX10_cellAt 30 = .ok (.iadd, 1) by decide +kernel) rfl ?_
      refine tr_bipush (pc' := 33) (v := (25 : Int32)) (show decode cX10_cellAt 31 = .ok (.bipush 25, 2) by decide +kernel) rfl (by decide) ?_
      rcases hm_is h with ⟨hc, h⟩ | ⟨hc, h⟩
      · refine tr_icmp_ge_t (tgt := 42) hc (show decode cX10_cellAt 33 = .ok (.if_icmp .ge 9, 3) by decide +kernel) (by decide) ?_
        refine tr_iconst (pc' := 43) (v := (-1 : Int32)) (show decode cX10_cellAt 42 = .ok (.iconst (-1), 1) by decide +kernel) rfl (by decide) ?_
        cases h
        exact tr_iret rfl (show decode cX10_cellAt 43 = .ok (.ireturn, 1) by decide +kernel) hL
      · refine tr_icmp_ge_f (tgt := 42) (pc' := 36) hc (show decode cX10_cellAt 33 = .ok (.if_icmp .ge 9, 3) by decide +kernel) (by decide) rfl ?_
        refine tr_iload_n (pc' := 37) (show decode cX10_cellAt 36 = .ok (.iload_n 0, 1) by decide +kernel) rfl rfl rfl ?_
        refine tr_iconst (pc' := 38) (v := (5 : Int32)) (show decode cX10_cellAt 37 = .ok (.iconst 5, 1) by decide +kernel) rfl (by decide) ?_
        refine tr_iadd (pc' := 39) (show decode cX10_cellAt 38 = .ok (.iadd, 1) by decide +kernel) rfl ?_
        refine tr_goto (tgt := 43) (show decode cX10_cellAt 39 = .ok (.goto 4, 3) by decide +kernel) rfl ?_
        cases h
        exact tr_iret rfl (show decode cX10_cellAt 43 = .ok (.ireturn, 1) by decide +kernel) hL
    · rcases hm_is h with ⟨hc, h⟩ | ⟨-, h⟩
      · refine tp_tin (tgt := 44) (off := 43) hc (show decode cX10_cellAt 1 = .ok (.tableswitch 71 1 3 #[27, 43, 58], 27) by decide +kernel) (by decide) (by decide) (by decide) (by decide) ?_
        refine tr_iload_n (pc' := 45) (show decode cX10_cellAt 44 = .ok (.iload_n 0, 1) by decide +kernel) rfl rfl rfl ?_
        refine tr_iconst (pc' := 46) (v := (5 : Int32)) (show decode cX10_cellAt 45 = .ok (.iconst 5, 1) by decide +kernel) rfl (by decide) ?_
        refine tr_irem (pc' := 47) (show decode cX10_cellAt 46 = .ok (.irem, 1) by decide +kernel) rfl (by decide) ?_
        refine tr_iconst (pc' := 48) (v := (4 : Int32)) (show decode cX10_cellAt 47 = .ok (.iconst 4, 1) by decide +kernel) rfl (by decide) ?_
        rcases hm_is h with ⟨hc, h⟩ | ⟨hc, h⟩
        · refine tr_icmp_ge_t (tgt := 57) hc (show decode cX10_cellAt 48 = .ok (.if_icmp .ge 9, 3) by decide +kernel) (by decide) ?_
          refine tr_iconst (pc' := 58) (v := (-1 : Int32)) (show decode cX10_cellAt 57 = .ok (.iconst (-1), 1) by decide +kernel) rfl (by decide) ?_
          cases h
          exact tr_iret rfl (show decode cX10_cellAt 58 = .ok (.ireturn, 1) by decide +kernel) hL
        · refine tr_icmp_ge_f (tgt := 57) (pc' := 51) hc (show decode cX10_cellAt 48 = .ok (.if_icmp .ge 9, 3) by decide +kernel) (by decide) rfl ?_
          refine tr_iload_n (pc' := 52) (show decode cX10_cellAt 51 = .ok (.iload_n 0, 1) by decide +kernel) rfl rfl rfl ?_
          refine tr_iconst (pc' := 53) (v := (1 : Int32)) (show decode cX10_cellAt 52 = .ok (.iconst 1, 1) by decide +kernel) rfl (by decide) ?_
          refine tr_iadd (pc' := 54) (show decode cX10_cellAt 53 = .ok (.iadd, 1) by decide +kernel) rfl ?_
          refine tr_goto (tgt := 58) (show decode cX10_cellAt 54 = .ok (.goto 4, 3) by decide +kernel) rfl ?_
          cases h
          exact tr_iret rfl (show decode cX10_cellAt 58 = .ok (.ireturn, 1) by decide +kernel) hL
      · rcases hm_is h with ⟨hc, h⟩ | ⟨-, h⟩
        · refine tp_tin (tgt := 59) (off := 58) hc (show decode cX10_cellAt 1 = .ok (.tableswitch 71 1 3 #[27, 43, 58], 27) by decide +kernel) (by decide) (by decide) (by decide) (by decide) ?_
          refine tr_iload_n (pc' := 60) (show decode cX10_cellAt 59 = .ok (.iload_n 0, 1) by decide +kernel) rfl rfl rfl ?_
          refine tr_iconst (pc' := 61) (v := (5 : Int32)) (show decode cX10_cellAt 60 = .ok (.iconst 5, 1) by decide +kernel) rfl (by decide) ?_
          rcases hm_is h with ⟨hc, h⟩ | ⟨hc, h⟩
          · refine tr_icmp_lt_t (tgt := 70) hc (show decode cX10_cellAt 61 = .ok (.if_icmp .lt 9, 3) by decide +kernel) (by decide) ?_
            refine tr_iconst (pc' := 71) (v := (-1 : Int32)) (show decode cX10_cellAt 70 = .ok (.iconst (-1), 1) by decide +kernel) rfl (by decide) ?_
            cases h
            exact tr_iret rfl (show decode cX10_cellAt 71 = .ok (.ireturn, 1) by decide +kernel) hL
          · refine tr_icmp_lt_f (tgt := 70) (pc' := 64) hc (show decode cX10_cellAt 61 = .ok (.if_icmp .lt 9, 3) by decide +kernel) (by decide) rfl ?_
            refine tr_iload_n (pc' := 65) (show decode cX10_cellAt 64 = .ok (.iload_n 0, 1) by decide +kernel) rfl rfl rfl ?_
            refine tr_iconst (pc' := 66) (v := (5 : Int32)) (show decode cX10_cellAt 65 = .ok (.iconst 5, 1) by decide +kernel) rfl (by decide) ?_
            refine tr_isub (pc' := 67) (show decode cX10_cellAt 66 = .ok (.isub, 1) by decide +kernel) rfl ?_
            refine tr_goto (tgt := 71) (show decode cX10_cellAt 67 = .ok (.goto 4, 3) by decide +kernel) rfl ?_
            cases h
            exact tr_iret rfl (show decode cX10_cellAt 71 = .ok (.ireturn, 1) by decide +kernel) hL
        · cases h
def f_X10_laysAside_L2 (v1 : Int32) (e31 : hm_M → Option hm_M) : Nat → Int32 → hm_M → Option hm_M
  | 0, _, _ => none
  | n + 1, y2, μ1 => (if (25 : Int32) ≤ y2 then
  e31 μ1
  else
  Option.bind (hm_ld μ1 181 5665 y2) fun x2 =>
  Option.bind (hm_sd μ1 184 50 (((25 : Int32) * v1) + y2) x2) fun μ3 =>
  (f_X10_laysAside_L2 v1 e31 n) (y2 + (1 : Int32)) μ3)
theorem ok_X10_laysAside_L2 {fr : Nat} (hfr : 0 ≤ fr) {ν : hm_N} {μR : hm_M}  (v1 : Int32) (e31 : hm_M → Option hm_M)  (he31 : ∀   (μ1 : hm_M), hm_LL ν μ1 → e31 μ1 = some μR → hm_T (hm_LL ν) m_X10_laysAside fr 0 0 none μR 31 [none, none, none] [] μ1)  : ∀ (n : Nat) (y2 : Int32)  (μ1 : hm_M), hm_LL ν μ1 → f_X10_laysAside_L2 v1 e31 n y2 μ1 = some μR → hm_T (hm_LL ν) m_X10_laysAside fr 0 0 none μR 2 [some (.ref 179), some (.int v1), some (.int y2)] [] μ1 := by
  intro n
  induction n with
  | zero =>
    intro y2 μ1 hL h
    unfold f_X10_laysAside_L2 at h
    cases h
  | succ n ih =>
    intro y2 μ1 hL h
    unfold f_X10_laysAside_L2 at h
    refine tr_iload_n (pc' := 3) (show decode cX10_laysAside 2 = .ok (.iload_n 2, 1) by decide +kernel) rfl rfl rfl ?_
    refine tr_bipush (pc' := 5) (v := (25 : Int32)) (show decode cX10_laysAside 3 = .ok (.bipush 25, 2) by decide +kernel) rfl (by decide) ?_
    rcases hm_is h with ⟨hc, h⟩ | ⟨hc, h⟩
    · refine tr_icmp_ge_t (tgt := 31) hc (show decode cX10_laysAside 5 = .ok (.if_icmp .ge 26, 3) by decide +kernel) (by decide) ?_
      refine hm_fgt [false, false, false] (lv' := [none, none, none]) rfl ?_
      exact he31 μ1 hL h
    · refine tr_icmp_ge_f (tgt := 31) (pc' := 8) hc (show decode cX10_laysAside 5 = .ok (.if_icmp .ge 26, 3) by decide +kernel) (by decide) rfl ?_
      refine tr_aload_n (pc' := 9) (show decode cX10_laysAside 8 = .ok (.aload_n 0, 1) by decide +kernel) rfl rfl rfl ?_
      refine tr_getR (pc' := 12) fl_HandRingModel_34 (show decode cX10_laysAside 9 = .ok (.getfield 34, 3) by decide +kernel) rfl (la_o hL (by decide) rfl) (la_r hL 121 rfl) ?_
      refine tr_bipush (pc' := 14) (v := (25 : Int32)) (show decode cX10_laysAside 12 = .ok (.bipush 25, 2) by decide +kernel) rfl (by decide) ?_
      refine tr_iload_n (pc' := 15) (show decode cX10_laysAside 14 = .ok (.iload_n 1, 1) by decide +kernel) rfl rfl rfl ?_
      refine tr_imul (pc' := 16) (show decode cX10_laysAside 15 = .ok (.imul, 1) by decide +kernel) rfl ?_
      refine tr_iload_n (pc' := 17) (show decode cX10_laysAside 16 = .ok (.iload_n 2, 1) by decide +kernel) rfl rfl rfl ?_
      refine tr_iadd (pc' := 18) (show decode cX10_laysAside 17 = .ok (.iadd, 1) by decide +kernel) rfl ?_
      refine tr_aload_n (pc' := 19) (show decode cX10_laysAside 18 = .ok (.aload_n 0, 1) by decide +kernel) rfl rfl rfl ?_
      refine tr_getR (pc' := 22) fl_HandRingModel_24 (show decode cX10_laysAside 19 = .ok (.getfield 24, 3) by decide +kernel) rfl (la_o hL (by decide) rfl) (la_r hL 118 rfl) ?_
      refine tr_iload_n (pc' := 23) (show decode cX10_laysAside 22 = .ok (.iload_n 2, 1) by decide +kernel) rfl rfl rfl ?_
      obtain ⟨x2, ex2, h⟩ := hm_bs h
      refine tp_ldI (pc' := 24) (show decode cX10_laysAside 23 = .ok (.iaload, 1) by decide +kernel) rfl (la_a hL (by decide) rfl) ex2 ?_
      obtain ⟨μ3, eμ3, h⟩ := hm_bs h
      refine tp_sdI (pc' := 25) (show decode cX10_laysAside 24 = .ok (.iastore, 1) by decide +kernel) rfl (la_a hL (by decide) rfl) eμ3 ?_
      replace hL := hL.same (hm_sd_s eμ3)
      refine tr_iinc (pc' := 28) (v := y2 + (1 : Int32)) (lv' := [some (.ref 179), some (.int v1), some (.int (y2 + (1 : Int32)))]) (show decode cX10_laysAside 25 = .ok (.iinc 2 1, 3) by decide +kernel) rfl rfl rfl (Nat.le_of_ble_eq_true rfl) rfl rfl ?_
      refine tr_goto (tgt := 2) (show decode cX10_laysAside 28 = .ok (.goto (-26), 3) by decide +kernel) rfl ?_
      exact ih (y2 + (1 : Int32)) μ3 hL h
def f_X10_laysAside (v1 : Int32) (μ : hm_M) : Option hm_M :=
  f_X10_laysAside_L2 v1 (fun μz4 => some μz4) hm_fu (0 : Int32) μ
set_option maxRecDepth 100000 in
theorem ok_X10_laysAside {fr : Nat} (hfr : 0 ≤ fr) {ν : hm_N} {μR : hm_M}  (v1 : Int32)  (μ : hm_M) (hL : hm_LL ν μ) (h : f_X10_laysAside v1 μ = some μR) : hm_CC (hm_LL ν) m_X10_laysAside fr 0 0 [.ref 179, .int v1] μ none μR := by
  refine hm_enter (lv := [some (.ref 179), some (.int v1), none]) (by decide) rfl (Nat.le_of_ble_eq_true rfl) ?_
  unfold f_X10_laysAside at h
  refine tr_iconst (pc' := 1) (v := (0 : Int32)) (show decode cX10_laysAside 0 = .ok (.iconst 0, 1) by decide +kernel) rfl (by decide) ?_
  refine tr_istore_n (pc' := 2) (lv' := [some (.ref 179), some (.int v1), some (.int (0 : Int32))]) (show decode cX10_laysAside 1 = .ok (.istore_n 2, 1) by decide +kernel) rfl rfl (Nat.le_of_ble_eq_true rfl) rfl rfl ?_
  refine ok_X10_laysAside_L2 hfr _ _ ?_ _ (0 : Int32) μ hL h
  · intro μz4 hL h
    cases h
    exact tr_vret rfl (show decode cX10_laysAside 31 = .ok (.return_, 1) by decide +kernel) hL
def f_X10_takesBack_L2 (v1 : Int32) (e31 : hm_M → Option hm_M) : Nat → Int32 → hm_M → Option hm_M
  | 0, _, _ => none
  | n + 1, y2, μ1 => (if (25 : Int32) ≤ y2 then
  e31 μ1
  else
  Option.bind (hm_ld μ1 184 50 (((25 : Int32) * v1) + y2)) fun x2 =>
  Option.bind (hm_sd μ1 181 5665 y2 x2) fun μ3 =>
  (f_X10_takesBack_L2 v1 e31 n) (y2 + (1 : Int32)) μ3)
theorem ok_X10_takesBack_L2 {fr : Nat} (hfr : 0 ≤ fr) {ν : hm_N} {μR : hm_M}  (v1 : Int32) (e31 : hm_M → Option hm_M)  (he31 : ∀   (μ1 : hm_M), hm_LL ν μ1 → e31 μ1 = some μR → hm_T (hm_LL ν) m_X10_takesBack fr 0 0 none μR 31 [none, none, none] [] μ1)  : ∀ (n : Nat) (y2 : Int32)  (μ1 : hm_M), hm_LL ν μ1 → f_X10_takesBack_L2 v1 e31 n y2 μ1 = some μR → hm_T (hm_LL ν) m_X10_takesBack fr 0 0 none μR 2 [some (.ref 179), some (.int v1), some (.int y2)] [] μ1 := by
  intro n
  induction n with
  | zero =>
    intro y2 μ1 hL h
    unfold f_X10_takesBack_L2 at h
    cases h
  | succ n ih =>
    intro y2 μ1 hL h
    unfold f_X10_takesBack_L2 at h
    refine tr_iload_n (pc' := 3) (show decode cX10_takesBack 2 = .ok (.iload_n 2, 1) by decide +kernel) rfl rfl rfl ?_
    refine tr_bipush (pc' := 5) (v := (25 : Int32)) (show decode cX10_takesBack 3 = .ok (.bipush 25, 2) by decide +kernel) rfl (by decide) ?_
    rcases hm_is h with ⟨hc, h⟩ | ⟨hc, h⟩
    · refine tr_icmp_ge_t (tgt := 31) hc (show decode cX10_takesBack 5 = .ok (.if_icmp .ge 26, 3) by decide +kernel) (by decide) ?_
      refine hm_fgt [false, false, false] (lv' := [none, none, none]) rfl ?_
      exact he31 μ1 hL h
    · refine tr_icmp_ge_f (tgt := 31) (pc' := 8) hc (show decode cX10_takesBack 5 = .ok (.if_icmp .ge 26, 3) by decide +kernel) (by decide) rfl ?_
      refine tr_aload_n (pc' := 9) (show decode cX10_takesBack 8 = .ok (.aload_n 0, 1) by decide +kernel) rfl rfl rfl ?_
      refine tr_getR (pc' := 12) fl_HandRingModel_24 (show decode cX10_takesBack 9 = .ok (.getfield 24, 3) by decide +kernel) rfl (la_o hL (by decide) rfl) (la_r hL 118 rfl) ?_
      refine tr_iload_n (pc' := 13) (show decode cX10_takesBack 12 = .ok (.iload_n 2, 1) by decide +kernel) rfl rfl rfl ?_
      refine tr_aload_n (pc' := 14) (show decode cX10_takesBack 13 = .ok (.aload_n 0, 1) by decide +kernel) rfl rfl rfl ?_
      refine tr_getR (pc' := 17) fl_HandRingModel_34 (show decode cX10_takesBack 14 = .ok (.getfield 34, 3) by decide +kernel) rfl (la_o hL (by decide) rfl) (la_r hL 121 rfl) ?_
      refine tr_bipush (pc' := 19) (v := (25 : Int32)) (show decode cX10_takesBack 17 = .ok (.bipush 25, 2) by decide +kernel) rfl (by decide) ?_
      refine tr_iload_n (pc' := 20) (show decode cX10_takesBack 19 = .ok (.iload_n 1, 1) by decide +kernel) rfl rfl rfl ?_
      refine tr_imul (pc' := 21) (show decode cX10_takesBack 20 = .ok (.imul, 1) by decide +kernel) rfl ?_
      refine tr_iload_n (pc' := 22) (show decode cX10_takesBack 21 = .ok (.iload_n 2, 1) by decide +kernel) rfl rfl rfl ?_
      refine tr_iadd (pc' := 23) (show decode cX10_takesBack 22 = .ok (.iadd, 1) by decide +kernel) rfl ?_
      obtain ⟨x2, ex2, h⟩ := hm_bs h
      refine tp_ldI (pc' := 24) (show decode cX10_takesBack 23 = .ok (.iaload, 1) by decide +kernel) rfl (la_a hL (by decide) rfl) ex2 ?_
      obtain ⟨μ3, eμ3, h⟩ := hm_bs h
      refine tp_sdI (pc' := 25) (show decode cX10_takesBack 24 = .ok (.iastore, 1) by decide +kernel) rfl (la_a hL (by decide) rfl) eμ3 ?_
      replace hL := hL.same (hm_sd_s eμ3)
      refine tr_iinc (pc' := 28) (v := y2 + (1 : Int32)) (lv' := [some (.ref 179), some (.int v1), some (.int (y2 + (1 : Int32)))]) (show decode cX10_takesBack 25 = .ok (.iinc 2 1, 3) by decide +kernel) rfl rfl rfl (Nat.le_of_ble_eq_true rfl) rfl rfl ?_
      refine tr_goto (tgt := 2) (show decode cX10_takesBack 28 = .ok (.goto (-26), 3) by decide +kernel) rfl ?_
      exact ih (y2 + (1 : Int32)) μ3 hL h
def f_X10_takesBack (v1 : Int32) (μ : hm_M) : Option hm_M :=
  f_X10_takesBack_L2 v1 (fun μz4 => some μz4) hm_fu (0 : Int32) μ
set_option maxRecDepth 100000 in
theorem ok_X10_takesBack {fr : Nat} (hfr : 0 ≤ fr) {ν : hm_N} {μR : hm_M}  (v1 : Int32)  (μ : hm_M) (hL : hm_LL ν μ) (h : f_X10_takesBack v1 μ = some μR) : hm_CC (hm_LL ν) m_X10_takesBack fr 0 0 [.ref 179, .int v1] μ none μR := by
  refine hm_enter (lv := [some (.ref 179), some (.int v1), none]) (by decide) rfl (Nat.le_of_ble_eq_true rfl) ?_
  unfold f_X10_takesBack at h
  refine tr_iconst (pc' := 1) (v := (0 : Int32)) (show decode cX10_takesBack 0 = .ok (.iconst 0, 1) by decide +kernel) rfl (by decide) ?_
  refine tr_istore_n (pc' := 2) (lv' := [some (.ref 179), some (.int v1), some (.int (0 : Int32))]) (show decode cX10_takesBack 1 = .ok (.istore_n 2, 1) by decide +kernel) rfl rfl (Nat.le_of_ble_eq_true rfl) rfl rfl ?_
  refine ok_X10_takesBack_L2 hfr _ _ ?_ _ (0 : Int32) μ hL h
  · intro μz4 hL h
    cases h
    exact tr_vret rfl (show decode cX10_takesBack 31 = .ok (.return_, 1) by decide +kernel) hL
def f_X10_image_L17 (v1 : Int32) (e48 : hm_M → Option (Int32 × hm_M)) : Nat → Int32 → hm_M → Option (Int32 × hm_M)
  | 0, _, _ => none
  | n + 1, y2, μ1 => (if (5665 : Int32) ≤ y2 then
  e48 μ1
  else
  Option.bind (hm_ld μ1 181 5665 y2) fun x3 =>
  Option.bind (hm_sd μ1 182 11330 (((5665 : Int32) * v1) + y2) x3) fun μ4 =>
  (f_X10_image_L17 v1 e48 n) (y2 + (1 : Int32)) μ4)
theorem ok_X10_image_L17 {fr : Nat} (hfr : 1 ≤ fr) {ν : hm_N} {r : Int32} {μR : hm_M}  (v1 : Int32) (e48 : hm_M → Option (Int32 × hm_M))  (he48 : ∀   (μ1 : hm_M), hm_LL ν μ1 → e48 μ1 = some (r, μR) → hm_T (hm_LL ν) m_X10_image fr 0 0 (some (.int r)) μR 48 [some (.ref 179), some (.int v1), none] [] μ1)  : ∀ (n : Nat) (y2 : Int32)  (μ1 : hm_M), hm_LL ν μ1 → f_X10_image_L17 v1 e48 n y2 μ1 = some (r, μR) → hm_T (hm_LL ν) m_X10_image fr 0 0 (some (.int r)) μR 17 [some (.ref 179), some (.int v1), some (.int y2)] [] μ1 := by
  intro n
  induction n with
  | zero =>
    intro y2 μ1 hL h
    unfold f_X10_image_L17 at h
    cases h
  | succ n ih =>
    intro y2 μ1 hL h
    unfold f_X10_image_L17 at h
    refine tr_iload_n (pc' := 18) (show decode cX10_image 17 = .ok (.iload_n 2, 1) by decide +kernel) rfl rfl rfl ?_
    refine tr_sipush (pc' := 21) (v := (5665 : Int32)) (show decode cX10_image 18 = .ok (.sipush 5665, 3) by decide +kernel) rfl (by decide) ?_
    rcases hm_is h with ⟨hc, h⟩ | ⟨hc, h⟩
    · refine tr_icmp_ge_t (tgt := 48) hc (show decode cX10_image 21 = .ok (.if_icmp .ge 27, 3) by decide +kernel) (by decide) ?_
      refine hm_fgt [true, true, false] (lv' := [some (.ref 179), some (.int v1), none]) rfl ?_
      exact he48 μ1 hL h
    · refine tr_icmp_ge_f (tgt := 48) (pc' := 24) hc (show decode cX10_image 21 = .ok (.if_icmp .ge 27, 3) by decide +kernel) (by decide) rfl ?_
      refine tr_aload_n (pc' := 25) (show decode cX10_image 24 = .ok (.aload_n 0, 1) by decide +kernel) rfl rfl rfl ?_
      refine tr_getR (pc' := 28) fl_HandRingModel_27 (show decode cX10_image 25 = .ok (.getfield 27, 3) by decide +kernel) rfl (la_o hL (by decide) rfl) (la_r hL 119 rfl) ?_
      refine tr_sipush (pc' := 31) (v := (5665 : Int32)) (show decode cX10_image 28 = .ok (.sipush 5665, 3) by decide +kernel) rfl (by decide) ?_
      refine tr_iload_n (pc' := 32) (show decode cX10_image 31 = .ok (.iload_n 1, 1) by decide +kernel) rfl rfl rfl ?_
      refine tr_imul (pc' := 33) (show decode cX10_image 32 = .ok (.imul, 1) by decide +kernel) rfl ?_
      refine tr_iload_n (pc' := 34) (show decode cX10_image 33 = .ok (.iload_n 2, 1) by decide +kernel) rfl rfl rfl ?_
      refine tr_iadd (pc' := 35) (show decode cX10_image 34 = .ok (.iadd, 1) by decide +kernel) rfl ?_
      refine tr_aload_n (pc' := 36) (show decode cX10_image 35 = .ok (.aload_n 0, 1) by decide +kernel) rfl rfl rfl ?_
      refine tr_getR (pc' := 39) fl_HandRingModel_24 (show decode cX10_image 36 = .ok (.getfield 24, 3) by decide +kernel) rfl (la_o hL (by decide) rfl) (la_r hL 118 rfl) ?_
      refine tr_iload_n (pc' := 40) (show decode cX10_image 39 = .ok (.iload_n 2, 1) by decide +kernel) rfl rfl rfl ?_
      obtain ⟨x3, ex3, h⟩ := hm_bs h
      refine tp_ldI (pc' := 41) (show decode cX10_image 40 = .ok (.iaload, 1) by decide +kernel) rfl (la_a hL (by decide) rfl) ex3 ?_
      obtain ⟨μ4, eμ4, h⟩ := hm_bs h
      refine tp_sdI (pc' := 42) (show decode cX10_image 41 = .ok (.iastore, 1) by decide +kernel) rfl (la_a hL (by decide) rfl) eμ4 ?_
      replace hL := hL.same (hm_sd_s eμ4)
      refine tr_iinc (pc' := 45) (v := y2 + (1 : Int32)) (lv' := [some (.ref 179), some (.int v1), some (.int (y2 + (1 : Int32)))]) (show decode cX10_image 42 = .ok (.iinc 2 1, 3) by decide +kernel) rfl rfl rfl (Nat.le_of_ble_eq_true rfl) rfl rfl ?_
      refine tr_goto (tgt := 17) (show decode cX10_image 45 = .ok (.goto (-28), 3) by decide +kernel) rfl ?_
      exact ih (y2 + (1 : Int32)) μ4 hL h
def f_X10_image (v1 : Int32) (μ : hm_M) : Option (Int32 × hm_M) :=
  Option.bind (f_X10_lies v1 (0 : Int32) (1 : Int32)) fun x2 =>
  (if x2 = 0 then
  hm_b2 (f_X10_refuses (-1 : Int32) μ) fun x9 μ10 =>
  some (x9, μ10)
  else
  f_X10_image_L17 v1 (fun μz5 => Option.bind (hm_sd μz5 183 2 v1 (vp_nar .boolean (1 : Int32))) fun μ6 =>
  hm_b2 (f_X10_good (0 : Int32) μ6) fun x7 μ8 =>
  some (x7, μ8)) hm_fu (0 : Int32) μ)
set_option maxRecDepth 100000 in
theorem ok_X10_image {fr : Nat} (hfr : 1 ≤ fr) {ν : hm_N} {r : Int32} {μR : hm_M}  (v1 : Int32)  (μ : hm_M) (hL : hm_LL ν μ) (h : f_X10_image v1 μ = some (r, μR)) : hm_CC (hm_LL ν) m_X10_image fr 0 0 [.ref 179, .int v1] μ (some (.int r)) μR := by
  refine hm_enter (lv := [some (.ref 179), some (.int v1), none]) (by decide) rfl (Nat.le_of_ble_eq_true rfl) ?_
  unfold f_X10_image at h
  refine tr_iload_n (pc' := 1) (show decode cX10_image 0 = .ok (.iload_n 1, 1) by decide +kernel) rfl rfl rfl ?_
  refine tr_iconst (pc' := 2) (v := (0 : Int32)) (show decode cX10_image 1 = .ok (.iconst 0, 1) by decide +kernel) rfl (by decide) ?_
  refine tr_iconst (pc' := 3) (v := (1 : Int32)) (show decode cX10_image 2 = .ok (.iconst 1, 1) by decide +kernel) rfl (by decide) ?_
  obtain ⟨x2, ex2, h⟩ := hm_bs h
  have cx2 := ok_X10_lies (fr := fr - 1) (ν := ν) (by omega) v1 (0 : Int32) (1 : Int32) μ hL ex2
  refine tp_callS (pc' := 6) (As := [.int v1, .int (0 : Int32), .int (1 : Int32)]) (fr1 := fr - 1) okm_X10_lies lk_HandRingModel_108 (show decode cX10_image 3 = .ok (.invokestatic 108, 3) by decide +kernel) rfl rfl rfl (Nat.le_of_ble_eq_true rfl) (by omega) cx2 (st' := [.int x2]) rfl ?_
  rcases hm_is h with ⟨hc, h⟩ | ⟨hc, h⟩
  · refine tr_if_ne_f (tgt := 15) (pc' := 9) hc (show decode cX10_image 6 = .ok (.ifCond .ne 9, 3) by decide +kernel) (by decide) rfl ?_
    refine tr_aload_n (pc' := 10) (show decode cX10_image 9 = .ok (.aload_n 0, 1) by decide +kernel) rfl rfl rfl ?_
    refine tr_iconst (pc' := 11) (v := (-1 : Int32)) (show decode cX10_image 10 = .ok (.iconst (-1), 1) by decide +kernel) rfl (by decide) ?_
    obtain ⟨x9, μ10, ex9, h⟩ := hm_b2s h
    have cx9 := ok_X10_refuses (fr := fr - 1) (ν := ν) (by omega) (-1 : Int32) μ hL ex9
    refine tp_callV (pc' := 14) (As := [.int (-1 : Int32)]) (fr1 := fr - 1) (ci := 10) okm_X10_refuses lk_HandRingModel_112 (show decode cX10_image 11 = .ok (.invokevirtual 112, 3) by decide +kernel) rfl rfl rfl (by decide) (la_o hL (by decide) rfl) rfl rfl (Nat.le_of_ble_eq_true rfl) (by omega) cx9 (st' := [.int x9]) rfl ?_
    replace hL := cx9.1
    cases h
    exact tr_iret rfl (show decode cX10_image 14 = .ok (.ireturn, 1) by decide +kernel) hL
  · refine tr_if_ne_t (tgt := 15) hc (show decode cX10_image 6 = .ok (.ifCond .ne 9, 3) by decide +kernel) (by decide) ?_
    refine tr_iconst (pc' := 16) (v := (0 : Int32)) (show decode cX10_image 15 = .ok (.iconst 0, 1) by decide +kernel) rfl (by decide) ?_
    refine tr_istore_n (pc' := 17) (lv' := [some (.ref 179), some (.int v1), some (.int (0 : Int32))]) (show decode cX10_image 16 = .ok (.istore_n 2, 1) by decide +kernel) rfl rfl (Nat.le_of_ble_eq_true rfl) rfl rfl ?_
    refine ok_X10_image_L17 hfr _ _ ?_ _ (0 : Int32) μ hL h
    · intro μz5 hL h
      refine tr_aload_n (pc' := 49) (show decode cX10_image 48 = .ok (.aload_n 0, 1) by decide +kernel) rfl rfl rfl ?_
      refine tr_getR (pc' := 52) fl_HandRingModel_30 (show decode cX10_image 49 = .ok (.getfield 30, 3) by decide +kernel) rfl (la_o hL (by decide) rfl) (la_r hL 120 rfl) ?_
      refine tr_iload_n (pc' := 53) (show decode cX10_image 52 = .ok (.iload_n 1, 1) by decide +kernel) rfl rfl rfl ?_
      refine tr_iconst (pc' := 54) (v := (1 : Int32)) (show decode cX10_image 53 = .ok (.iconst 1, 1) by decide +kernel) rfl (by decide) ?_
      obtain ⟨μ6, eμ6, h⟩ := hm_bs h
      refine tp_sdZ (pc' := 55) (show decode cX10_image 54 = .ok (.bastore, 1) by decide +kernel) rfl (la_a hL (by decide) rfl) eμ6 ?_
      replace hL := hL.same (hm_sd_s eμ6)
      refine tr_aload_n (pc' := 56) (show decode cX10_image 55 = .ok (.aload_n 0, 1) by decide +kernel) rfl rfl rfl ?_
      refine tr_iconst (pc' := 57) (v := (0 : Int32)) (show decode cX10_image 56 = .ok (.iconst 0, 1) by decide +kernel) rfl (by decide) ?_
      obtain ⟨x7, μ8, ex7, h⟩ := hm_b2s h
      have cx7 := ok_X10_good (fr := fr - 1) (ν := ν) (by omega) (0 : Int32) μ6 hL ex7
      refine tp_callV (pc' := 60) (As := [.int (0 : Int32)]) (fr1 := fr - 1) (ci := 10) okm_X10_good lk_HandRingModel_14 (show decode cX10_image 57 = .ok (.invokevirtual 14, 3) by decide +kernel) rfl rfl rfl (by decide) (la_o hL (by decide) rfl) rfl rfl (Nat.le_of_ble_eq_true rfl) (by omega) cx7 (st' := [.int x7]) rfl ?_
      replace hL := cx7.1
      cases h
      exact tr_iret rfl (show decode cX10_image 60 = .ok (.ireturn, 1) by decide +kernel) hL
def f_X10_back_L33 (v1 : Int32) (e64 : hm_M → Option (Int32 × hm_M)) : Nat → Int32 → hm_M → Option (Int32 × hm_M)
  | 0, _, _ => none
  | n + 1, y2, μ1 => (if (5665 : Int32) ≤ y2 then
  e64 μ1
  else
  Option.bind (hm_ld μ1 182 11330 (((5665 : Int32) * v1) + y2)) fun x4 =>
  Option.bind (hm_sd μ1 181 5665 y2 x4) fun μ5 =>
  (f_X10_back_L33 v1 e64 n) (y2 + (1 : Int32)) μ5)
theorem ok_X10_back_L33 {fr : Nat} (hfr : 2 ≤ fr) {ν : hm_N} {r : Int32} {μR : hm_M}  (v1 : Int32) (e64 : hm_M → Option (Int32 × hm_M))  (he64 : ∀   (μ1 : hm_M), hm_LL ν μ1 → e64 μ1 = some (r, μR) → hm_T (hm_LL ν) m_X10_back fr 0 0 (some (.int r)) μR 64 [some (.ref 179), none, none] [] μ1)  : ∀ (n : Nat) (y2 : Int32)  (μ1 : hm_M), hm_LL ν μ1 → f_X10_back_L33 v1 e64 n y2 μ1 = some (r, μR) → hm_T (hm_LL ν) m_X10_back fr 0 0 (some (.int r)) μR 33 [some (.ref 179), some (.int v1), some (.int y2)] [] μ1 := by
  intro n
  induction n with
  | zero =>
    intro y2 μ1 hL h
    unfold f_X10_back_L33 at h
    cases h
  | succ n ih =>
    intro y2 μ1 hL h
    unfold f_X10_back_L33 at h
    refine tr_iload_n (pc' := 34) (show decode cX10_back 33 = .ok (.iload_n 2, 1) by decide +kernel) rfl rfl rfl ?_
    refine tr_sipush (pc' := 37) (v := (5665 : Int32)) (show decode cX10_back 34 = .ok (.sipush 5665, 3) by decide +kernel) rfl (by decide) ?_
    rcases hm_is h with ⟨hc, h⟩ | ⟨hc, h⟩
    · refine tr_icmp_ge_t (tgt := 64) hc (show decode cX10_back 37 = .ok (.if_icmp .ge 27, 3) by decide +kernel) (by decide) ?_
      refine hm_fgt [true, false, false] (lv' := [some (.ref 179), none, none]) rfl ?_
      exact he64 μ1 hL h
    · refine tr_icmp_ge_f (tgt := 64) (pc' := 40) hc (show decode cX10_back 37 = .ok (.if_icmp .ge 27, 3) by decide +kernel) (by decide) rfl ?_
      refine tr_aload_n (pc' := 41) (show decode cX10_back 40 = .ok (.aload_n 0, 1) by decide +kernel) rfl rfl rfl ?_
      refine tr_getR (pc' := 44) fl_HandRingModel_24 (show decode cX10_back 41 = .ok (.getfield 24, 3) by decide +kernel) rfl (la_o hL (by decide) rfl) (la_r hL 118 rfl) ?_
      refine tr_iload_n (pc' := 45) (show decode cX10_back 44 = .ok (.iload_n 2, 1) by decide +kernel) rfl rfl rfl ?_
      refine tr_aload_n (pc' := 46) (show decode cX10_back 45 = .ok (.aload_n 0, 1) by decide +kernel) rfl rfl rfl ?_
      refine tr_getR (pc' := 49) fl_HandRingModel_27 (show decode cX10_back 46 = .ok (.getfield 27, 3) by decide +kernel) rfl (la_o hL (by decide) rfl) (la_r hL 119 rfl) ?_
      refine tr_sipush (pc' := 52) (v := (5665 : Int32)) (show decode cX10_back 49 = .ok (.sipush 5665, 3) by decide +kernel) rfl (by decide) ?_
      refine tr_iload_n (pc' := 53) (show decode cX10_back 52 = .ok (.iload_n 1, 1) by decide +kernel) rfl rfl rfl ?_
      refine tr_imul (pc' := 54) (show decode cX10_back 53 = .ok (.imul, 1) by decide +kernel) rfl ?_
      refine tr_iload_n (pc' := 55) (show decode cX10_back 54 = .ok (.iload_n 2, 1) by decide +kernel) rfl rfl rfl ?_
      refine tr_iadd (pc' := 56) (show decode cX10_back 55 = .ok (.iadd, 1) by decide +kernel) rfl ?_
      obtain ⟨x4, ex4, h⟩ := hm_bs h
      refine tp_ldI (pc' := 57) (show decode cX10_back 56 = .ok (.iaload, 1) by decide +kernel) rfl (la_a hL (by decide) rfl) ex4 ?_
      obtain ⟨μ5, eμ5, h⟩ := hm_bs h
      refine tp_sdI (pc' := 58) (show decode cX10_back 57 = .ok (.iastore, 1) by decide +kernel) rfl (la_a hL (by decide) rfl) eμ5 ?_
      replace hL := hL.same (hm_sd_s eμ5)
      refine tr_iinc (pc' := 61) (v := y2 + (1 : Int32)) (lv' := [some (.ref 179), some (.int v1), some (.int (y2 + (1 : Int32)))]) (show decode cX10_back 58 = .ok (.iinc 2 1, 3) by decide +kernel) rfl rfl rfl (Nat.le_of_ble_eq_true rfl) rfl rfl ?_
      refine tr_goto (tgt := 33) (show decode cX10_back 61 = .ok (.goto (-28), 3) by decide +kernel) rfl ?_
      exact ih (y2 + (1 : Int32)) μ5 hL h
def f_X10_back (v1 : Int32) (μ : hm_M) : Option (Int32 × hm_M) :=
  Option.bind (f_X10_lies v1 (0 : Int32) (1 : Int32)) fun x2 =>
  (if x2 = 0 then
  hm_b2 (f_X10_refuses (-1 : Int32) μ) fun x11 μ12 =>
  some (x11, μ12)
  else
  Option.bind (hm_ld μ 183 2 v1) fun x3 =>
  (if x3 = 0 then
  hm_b2 (f_X10_refuses (-2 : Int32) μ) fun x9 μ10 =>
  some (x9, μ10)
  else
  f_X10_back_L33 v1 (fun μz6 => hm_b2 (f_X10_settled (0 : Int32) μz6) fun x7 μ8 =>
  some (x7, μ8)) hm_fu (0 : Int32) μ))
set_option maxRecDepth 100000 in
theorem ok_X10_back {fr : Nat} (hfr : 2 ≤ fr) {ν : hm_N} {r : Int32} {μR : hm_M}  (v1 : Int32)  (μ : hm_M) (hL : hm_LL ν μ) (h : f_X10_back v1 μ = some (r, μR)) : hm_CC (hm_LL ν) m_X10_back fr 0 0 [.ref 179, .int v1] μ (some (.int r)) μR := by
  refine hm_enter (lv := [some (.ref 179), some (.int v1), none]) (by decide) rfl (Nat.le_of_ble_eq_true rfl) ?_
  unfold f_X10_back at h
  refine tr_iload_n (pc' := 1) (show decode cX10_back 0 = .ok (.iload_n 1, 1) by decide +kernel) rfl rfl rfl ?_
  refine tr_iconst (pc' := 2) (v := (0 : Int32)) (show decode cX10_back 1 = .ok (.iconst 0, 1) by decide +kernel) rfl (by decide) ?_
  refine tr_iconst (pc' := 3) (v := (1 : Int32)) (show decode cX10_back 2 = .ok (.iconst 1, 1) by decide +kernel) rfl (by decide) ?_
  obtain ⟨x2, ex2, h⟩ := hm_bs h
  have cx2 := ok_X10_lies (fr := fr - 1) (ν := ν) (by omega) v1 (0 : Int32) (1 : Int32) μ hL ex2
  refine tp_callS (pc' := 6) (As := [.int v1, .int (0 : Int32), .int (1 : Int32)]) (fr1 := fr - 1) okm_X10_lies lk_HandRingModel_108 (show decode cX10_back 3 = .ok (.invokestatic 108, 3) by decide +kernel) rfl rfl rfl (Nat.le_of_ble_eq_true rfl) (by omega) cx2 (st' := [.int x2]) rfl ?_
  rcases hm_is h with ⟨hc, h⟩ | ⟨hc, h⟩
  · refine tr_if_ne_f (tgt := 15) (pc' := 9) hc (show decode cX10_back 6 = .ok (.ifCond .ne 9, 3) by decide +kernel) (by decide) rfl ?_
    refine tr_aload_n (pc' := 10) (show decode cX10_back 9 = .ok (.aload_n 0, 1) by decide +kernel) rfl rfl rfl ?_
    refine tr_iconst (pc' := 11) (v := (-1 : Int32)) (show decode cX10_back 10 = .ok (.iconst (-1), 1) by decide +kernel) rfl (by decide) ?_
    obtain ⟨x11, μ12, ex11, h⟩ := hm_b2s h
    have cx11 := ok_X10_refuses (fr := fr - 1) (ν := ν) (by omega) (-1 : Int32) μ hL ex11
    refine tp_callV (pc' := 14) (As := [.int (-1 : Int32)]) (fr1 := fr - 1) (ci := 10) okm_X10_refuses lk_HandRingModel_112 (show decode cX10_back 11 = .ok (.invokevirtual 112, 3) by decide +kernel) rfl rfl rfl (by decide) (la_o hL (by decide) rfl) rfl rfl (Nat.le_of_ble_eq_true rfl) (by omega) cx11 (st' := [.int x11]) rfl ?_
    replace hL := cx11.1
    cases h
    exact tr_iret rfl (show decode cX10_back 14 = .ok (.ireturn, 1) by decide +kernel) hL
  · refine tr_if_ne_t (tgt := 15) hc (show decode cX10_back 6 = .ok (.ifCond .ne 9, 3) by decide +kernel) (by decide) ?_
    refine tr_aload_n (pc' := 16) (show decode cX10_back 15 = .ok (.aload_n 0, 1) by decide +kernel) rfl rfl rfl ?_
    refine tr_getR (pc' := 19) fl_HandRingModel_30 (show decode cX10_back 16 = .ok (.getfield 30, 3) by decide +kernel) rfl (la_o hL (by decide) rfl) (la_r hL 120 rfl) ?_
    refine tr_iload_n (pc' := 20) (show decode cX10_back 19 = .ok (.iload_n 1, 1) by decide +kernel) rfl rfl rfl ?_
    obtain ⟨x3, ex3, h⟩ := hm_bs h
    refine tp_ldZ (pc' := 21) (show decode cX10_back 20 = .ok (.baload, 1) by decide +kernel) rfl (la_a hL (by decide) rfl) ex3 ?_
    rcases hm_is h with ⟨hc, h⟩ | ⟨hc, h⟩
    · refine tr_if_ne_f (tgt := 31) (pc' := 24) hc (show decode cX10_back 21 = .ok (.ifCond .ne 10, 3) by decide +kernel) (by decide) rfl ?_
      refine tr_aload_n (pc' := 25) (show decode cX10_back 24 = .ok (.aload_n 0, 1) by decide +kernel) rfl rfl rfl ?_
      refine tr_bipush (pc' := 27) (v := (-2 : Int32)) (show decode cX10_back 25 = .ok (.bipush (-2), 2) by decide +kernel) rfl (by decide) ?_
      obtain ⟨x9, μ10, ex9, h⟩ := hm_b2s h
      have cx9 := ok_X10_refuses (fr := fr - 1) (ν := ν) (by omega) (-2 : Int32) μ hL ex9
      refine tp_callV (pc' := 30) (As := [.int (-2 : Int32)]) (fr1 := fr - 1) (ci := 10) okm_X10_refuses lk_HandRingModel_112 (show decode cX10_back 27 = .ok (.invokevirtual 112, 3) by decide +kernel) rfl rfl rfl (by decide) (la_o hL (by decide) rfl) rfl rfl (Nat.le_of_ble_eq_true rfl) (by omega) cx9 (st' := [.int x9]) rfl ?_
      replace hL := cx9.1
      cases h
      exact tr_iret rfl (show decode cX10_back 30 = .ok (.ireturn, 1) by decide +kernel) hL
    · refine tr_if_ne_t (tgt := 31) hc (show decode cX10_back 21 = .ok (.ifCond .ne 10, 3) by decide +kernel) (by decide) ?_
      refine tr_iconst (pc' := 32) (v := (0 : Int32)) (show decode cX10_back 31 = .ok (.iconst 0, 1) by decide +kernel) rfl (by decide) ?_
      refine tr_istore_n (pc' := 33) (lv' := [some (.ref 179), some (.int v1), some (.int (0 : Int32))]) (show decode cX10_back 32 = .ok (.istore_n 2, 1) by decide +kernel) rfl rfl (Nat.le_of_ble_eq_true rfl) rfl rfl ?_
      refine ok_X10_back_L33 hfr _ _ ?_ _ (0 : Int32) μ hL h
      · intro μz6 hL h
        refine tr_aload_n (pc' := 65) (show decode cX10_back 64 = .ok (.aload_n 0, 1) by decide +kernel) rfl rfl rfl ?_
        refine tr_iconst (pc' := 66) (v := (0 : Int32)) (show decode cX10_back 65 = .ok (.iconst 0, 1) by decide +kernel) rfl (by decide) ?_
        obtain ⟨x7, μ8, ex7, h⟩ := hm_b2s h
        have cx7 := ok_X10_settled (fr := fr - 1) (ν := ν) (by omega) (0 : Int32) μz6 hL ex7
        refine tp_callV (pc' := 69) (As := [.int (0 : Int32)]) (fr1 := fr - 1) (ci := 10) okm_X10_settled lk_HandRingModel_115 (show decode cX10_back 66 = .ok (.invokevirtual 115, 3) by decide +kernel) rfl rfl rfl (by decide) (la_o hL (by decide) rfl) rfl rfl (Nat.le_of_ble_eq_true rfl) (by omega) cx7 (st' := [.int x7]) rfl ?_
        replace hL := cx7.1
        cases h
        exact tr_iret rfl (show decode cX10_back 69 = .ok (.ireturn, 1) by decide +kernel) hL
def f_X10_many (μ : hm_M) : Option Int32 :=
  Option.bind (hm_ld μ 181 5665 (54 : Int32)) fun x2 =>
  some x2
set_option maxRecDepth 100000 in
theorem ok_X10_many {fr : Nat} (hfr : 0 ≤ fr) {ν : hm_N} {r : Int32}    (μ : hm_M) (hL : hm_LL ν μ) (h : f_X10_many μ = some r) : hm_CC (hm_LL ν) m_X10_many fr 0 0 [.ref 179] μ (some (.int r)) μ := by
  refine hm_enter (lv := [some (.ref 179)]) (by decide) rfl (Nat.le_of_ble_eq_true rfl) ?_
  unfold f_X10_many at h
  refine tr_aload_n (pc' := 1) (show decode cX10_many 0 = .ok (.aload_n 0, 1) by decide +kernel) rfl rfl rfl ?_
  refine tr_getR (pc' := 4) fl_HandRingModel_24 (show decode cX10_many 1 = .ok (.getfield 24, 3) by decide +kernel) rfl (la_o hL (by decide) rfl) (la_r hL 118 rfl) ?_
  refine tr_bipush (pc' := 6) (v := (54 : Int32)) (show decode cX10_many 4 = .ok (.bipush 54, 2) by decide +kernel) rfl (by decide) ?_
  obtain ⟨x2, ex2, h⟩ := hm_bs h
  refine tp_ldI (pc' := 7) (show decode cX10_many 6 = .ok (.iaload, 1) by decide +kernel) rfl (la_a hL (by decide) rfl) ex2 ?_
  cases h
  exact tr_iret rfl (show decode cX10_many 7 = .ok (.ireturn, 1) by decide +kernel) hL
def f_X10_isPerson (v1 : Int32) (μ : hm_M) : Option Int32 :=
  Option.bind (f_X10_many μ) fun x2 =>
  Option.bind (f_X10_lies v1 (0 : Int32) (x2 - (1 : Int32))) fun x3 =>
  hm_rz x3
set_option maxRecDepth 100000 in
theorem ok_X10_isPerson {fr : Nat} (hfr : 1 ≤ fr) {ν : hm_N} {r : Int32}  (v1 : Int32)  (μ : hm_M) (hL : hm_LL ν μ) (h : f_X10_isPerson v1 μ = some r) : hm_CC (hm_LL ν) m_X10_isPerson fr 0 0 [.ref 179, .int v1] μ (some (.int r)) μ := by
  refine hm_enter (lv := [some (.ref 179), some (.int v1)]) (by decide) rfl (Nat.le_of_ble_eq_true rfl) ?_
  unfold f_X10_isPerson at h
  refine tr_iload_n (pc' := 1) (show decode cX10_isPerson 0 = .ok (.iload_n 1, 1) by decide +kernel) rfl rfl rfl ?_
  refine tr_iconst (pc' := 2) (v := (0 : Int32)) (show decode cX10_isPerson 1 = .ok (.iconst 0, 1) by decide +kernel) rfl (by decide) ?_
  refine tr_aload_n (pc' := 3) (show decode cX10_isPerson 2 = .ok (.aload_n 0, 1) by decide +kernel) rfl rfl rfl ?_
  obtain ⟨x2, ex2, h⟩ := hm_bs h
  have cx2 := ok_X10_many (fr := fr - 1) (ν := ν) (by omega) μ hL ex2
  refine tp_callV (pc' := 6) (As := []) (fr1 := fr - 1) (ci := 10) okm_X10_many lk_HandRingModel_118 (show decode cX10_isPerson 3 = .ok (.invokevirtual 118, 3) by decide +kernel) rfl rfl rfl (by decide) (la_o hL (by decide) rfl) rfl rfl (Nat.le_of_ble_eq_true rfl) (by omega) cx2 (st' := [.int x2, .int (0 : Int32), .int v1]) rfl ?_
  refine tr_iconst (pc' := 7) (v := (1 : Int32)) (show decode cX10_isPerson 6 = .ok (.iconst 1, 1) by decide +kernel) rfl (by decide) ?_
  refine tr_isub (pc' := 8) (show decode cX10_isPerson 7 = .ok (.isub, 1) by decide +kernel) rfl ?_
  obtain ⟨x3, ex3, h⟩ := hm_bs h
  have cx3 := ok_X10_lies (fr := fr - 1) (ν := ν) (by omega) v1 (0 : Int32) (x2 - (1 : Int32)) μ hL ex3
  refine tp_callS (pc' := 11) (As := [.int v1, .int (0 : Int32), .int (x2 - (1 : Int32))]) (fr1 := fr - 1) okm_X10_lies lk_HandRingModel_108 (show decode cX10_isPerson 8 = .ok (.invokestatic 108, 3) by decide +kernel) rfl rfl rfl (Nat.le_of_ble_eq_true rfl) (by omega) cx3 (st' := [.int x3]) rfl ?_
  exact tp_zret rfl (show decode cX10_isPerson 11 = .ok (.ireturn, 1) by decide +kernel) h hL
def f_X10_areTwo (v1 : Int32) (v2 : Int32) (μ : hm_M) : Option Int32 :=
  Option.bind (f_X10_isPerson v1 μ) fun x2 =>
  (if x2 = 0 then
  some (0 : Int32)
  else
  Option.bind (f_X10_isPerson v2 μ) fun x3 =>
  (if x3 = 0 then
  some (0 : Int32)
  else
  (if v1 = v2 then
  some (0 : Int32)
  else
  some (1 : Int32))))
set_option maxRecDepth 100000 in
theorem ok_X10_areTwo {fr : Nat} (hfr : 2 ≤ fr) {ν : hm_N} {r : Int32}  (v1 : Int32) (v2 : Int32)  (μ : hm_M) (hL : hm_LL ν μ) (h : f_X10_areTwo v1 v2 μ = some r) : hm_CC (hm_LL ν) m_X10_areTwo fr 0 0 [.ref 179, .int v1, .int v2] μ (some (.int r)) μ := by
  refine hm_enter (lv := [some (.ref 179), some (.int v1), some (.int v2)]) (by decide) rfl (Nat.le_of_ble_eq_true rfl) ?_
  unfold f_X10_areTwo at h
  refine tr_aload_n (pc' := 1) (show decode cX10_areTwo 0 = .ok (.aload_n 0, 1) by decide +kernel) rfl rfl rfl ?_
  refine tr_iload_n (pc' := 2) (show decode cX10_areTwo 1 = .ok (.iload_n 1, 1) by decide +kernel) rfl rfl rfl ?_
  obtain ⟨x2, ex2, h⟩ := hm_bs h
  have cx2 := ok_X10_isPerson (fr := fr - 1) (ν := ν) (by omega) v1 μ hL ex2
  refine tp_callV (pc' := 5) (As := [.int v1]) (fr1 := fr - 1) (ci := 10) okm_X10_isPerson lk_HandRingModel_122 (show decode cX10_areTwo 2 = .ok (.invokevirtual 122, 3) by decide +kernel) rfl rfl rfl (by decide) (la_o hL (by decide) rfl) rfl rfl (Nat.le_of_ble_eq_true rfl) (by omega) cx2 (st' := [.int x2]) rfl ?_
  rcases hm_is h with ⟨hc, h⟩ | ⟨hc, h⟩
  · refine tr_if_eq_t (tgt := 25) hc (show decode cX10_areTwo 5 = .ok (.ifCond .eq 20, 3) by decide +kernel) (by decide) ?_
    refine tr_iconst (pc' := 26) (v := (0 : Int32)) (show decode cX10_areTwo 25 = .ok (.iconst 0, 1) by decide +kernel) rfl (by decide) ?_
    cases h
    exact tr_zret rfl (by decide) (show decode cX10_areTwo 26 = .ok (.ireturn, 1) by decide +kernel) hL
  · refine tr_if_eq_f (tgt := 25) (pc' := 8) hc (show decode cX10_areTwo 5 = .ok (.ifCond .eq 20, 3) by decide +kernel) (by decide) rfl ?_
    refine tr_aload_n (pc' := 9) (show decode cX10_areTwo 8 = .ok (.aload_n 0, 1) by decide +kernel) rfl rfl rfl ?_
    refine tr_iload_n (pc' := 10) (show decode cX10_areTwo 9 = .ok (.iload_n 2, 1) by decide +kernel) rfl rfl rfl ?_
    obtain ⟨x3, ex3, h⟩ := hm_bs h
    have cx3 := ok_X10_isPerson (fr := fr - 1) (ν := ν) (by omega) v2 μ hL ex3
    refine tp_callV (pc' := 13) (As := [.int v2]) (fr1 := fr - 1) (ci := 10) okm_X10_isPerson lk_HandRingModel_122 (show decode cX10_areTwo 10 = .ok (.invokevirtual 122, 3) by decide +kernel) rfl rfl rfl (by decide) (la_o hL (by decide) rfl) rfl rfl (Nat.le_of_ble_eq_true rfl) (by omega) cx3 (st' := [.int x3]) rfl ?_
    rcases hm_is h with ⟨hc, h⟩ | ⟨hc, h⟩
    · refine tr_if_eq_t (tgt := 25) hc (show decode cX10_areTwo 13 = .ok (.ifCond .eq 12, 3) by decide +kernel) (by decide) ?_
      refine tr_iconst (pc' := 26) (v := (0 : Int32)) (show decode cX10_areTwo 25 = .ok (.iconst 0, 1) by decide +kernel) rfl (by decide) ?_
      cases h
      exact tr_zret rfl (by decide) (show decode cX10_areTwo 26 = .ok (.ireturn, 1) by decide +kernel) hL
    · refine tr_if_eq_f (tgt := 25) (pc' := 16) hc (show decode cX10_areTwo 13 = .ok (.ifCond .eq 12, 3) by decide +kernel) (by decide) rfl ?_
      refine tr_iload_n (pc' := 17) (show decode cX10_areTwo 16 = .ok (.iload_n 1, 1) by decide +kernel) rfl rfl rfl ?_
      refine tr_iload_n (pc' := 18) (show decode cX10_areTwo 17 = .ok (.iload_n 2, 1) by decide +kernel) rfl rfl rfl ?_
      rcases hm_is h with ⟨hc, h⟩ | ⟨hc, h⟩
      · refine tr_icmp_eq_t (tgt := 25) hc (show decode cX10_areTwo 18 = .ok (.if_icmp .eq 7, 3) by decide +kernel) (by decide) ?_
        refine tr_iconst (pc' := 26) (v := (0 : Int32)) (show decode cX10_areTwo 25 = .ok (.iconst 0, 1) by decide +kernel) rfl (by decide) ?_
        cases h
        exact tr_zret rfl (by decide) (show decode cX10_areTwo 26 = .ok (.ireturn, 1) by decide +kernel) hL
      · refine tr_icmp_eq_f (tgt := 25) (pc' := 21) hc (show decode cX10_areTwo 18 = .ok (.if_icmp .eq 7, 3) by decide +kernel) (by decide) rfl ?_
        refine tr_iconst (pc' := 22) (v := (1 : Int32)) (show decode cX10_areTwo 21 = .ok (.iconst 1, 1) by decide +kernel) rfl (by decide) ?_
        refine tr_goto (tgt := 26) (show decode cX10_areTwo 22 = .ok (.goto 4, 3) by decide +kernel) rfl ?_
        cases h
        exact tr_zret rfl (by decide) (show decode cX10_areTwo 26 = .ok (.ireturn, 1) by decide +kernel) hL
def f_X10_canBe (v0 : Int32) (v1 : Int32) (v2 : Int32) : Option Int32 :=
  Option.bind (f_X10_lies v0 (0 : Int32) (24 : Int32)) fun x2 =>
  (if x2 = 0 then
  some (0 : Int32)
  else
  Option.bind (f_X10_lies v1 (0 : Int32) (4 : Int32)) fun x3 =>
  (if x3 = 0 then
  some (0 : Int32)
  else
  Option.bind (f_X10_lies v2 (0 : Int32) (3 : Int32)) fun x4 =>
  (if x4 = 0 then
  some (0 : Int32)
  else
  some (1 : Int32))))
set_option maxRecDepth 100000 in
theorem ok_X10_canBe {fr : Nat} (hfr : 1 ≤ fr) {ν : hm_N} {r : Int32}  (v0 : Int32) (v1 : Int32) (v2 : Int32)  (μ : hm_M) (hL : hm_LL ν μ) (h : f_X10_canBe v0 v1 v2 = some r) : hm_CC (hm_LL ν) m_X10_canBe fr 0 0 [.int v0, .int v1, .int v2] μ (some (.int r)) μ := by
  refine hm_enter (lv := [some (.int v0), some (.int v1), some (.int v2)]) (by decide) rfl (Nat.le_of_ble_eq_true rfl) ?_
  unfold f_X10_canBe at h
  refine tr_iload_n (pc' := 1) (show decode cX10_canBe 0 = .ok (.iload_n 0, 1) by decide +kernel) rfl rfl rfl ?_
  refine tr_iconst (pc' := 2) (v := (0 : Int32)) (show decode cX10_canBe 1 = .ok (.iconst 0, 1) by decide +kernel) rfl (by decide) ?_
  refine tr_bipush (pc' := 4) (v := (24 : Int32)) (show decode cX10_canBe 2 = .ok (.bipush 24, 2) by decide +kernel) rfl (by decide) ?_
  obtain ⟨x2, ex2, h⟩ := hm_bs h
  have cx2 := ok_X10_lies (fr := fr - 1) (ν := ν) (by omega) v0 (0 : Int32) (24 : Int32) μ hL ex2
  refine tp_callS (pc' := 7) (As := [.int v0, .int (0 : Int32), .int (24 : Int32)]) (fr1 := fr - 1) okm_X10_lies lk_HandRingModel_108 (show decode cX10_canBe 4 = .ok (.invokestatic 108, 3) by decide +kernel) rfl rfl rfl (Nat.le_of_ble_eq_true rfl) (by omega) cx2 (st' := [.int x2]) rfl ?_
  rcases hm_is h with ⟨hc, h⟩ | ⟨hc, h⟩
  · refine tr_if_eq_t (tgt := 32) hc (show decode cX10_canBe 7 = .ok (.ifCond .eq 25, 3) by decide +kernel) (by decide) ?_
    refine tr_iconst (pc' := 33) (v := (0 : Int32)) (show decode cX10_canBe 32 = .ok (.iconst 0, 1) by decide +kernel) rfl (by decide) ?_
    cases h
    exact tr_zret rfl (by decide) (show decode cX10_canBe 33 = .ok (.ireturn, 1) by decide +kernel) hL
  · refine tr_if_eq_f (tgt := 32) (pc' := 10) hc (show decode cX10_canBe 7 = .ok (.ifCond .eq 25, 3) by decide +kernel) (by decide) rfl ?_
    refine tr_iload_n (pc' := 11) (show decode cX10_canBe 10 = .ok (.iload_n 1, 1) by decide +kernel) rfl rfl rfl ?_
    refine tr_iconst (pc' := 12) (v := (0 : Int32)) (show decode cX10_canBe 11 = .ok (.iconst 0, 1) by decide +kernel) rfl (by decide) ?_
    refine tr_iconst (pc' := 13) (v := (4 : Int32)) (show decode cX10_canBe 12 = .ok (.iconst 4, 1) by decide +kernel) rfl (by decide) ?_
    obtain ⟨x3, ex3, h⟩ := hm_bs h
    have cx3 := ok_X10_lies (fr := fr - 1) (ν := ν) (by omega) v1 (0 : Int32) (4 : Int32) μ hL ex3
    refine tp_callS (pc' := 16) (As := [.int v1, .int (0 : Int32), .int (4 : Int32)]) (fr1 := fr - 1) okm_X10_lies lk_HandRingModel_108 (show decode cX10_canBe 13 = .ok (.invokestatic 108, 3) by decide +kernel) rfl rfl rfl (Nat.le_of_ble_eq_true rfl) (by omega) cx3 (st' := [.int x3]) rfl ?_
    rcases hm_is h with ⟨hc, h⟩ | ⟨hc, h⟩
    · refine tr_if_eq_t (tgt := 32) hc (show decode cX10_canBe 16 = .ok (.ifCond .eq 16, 3) by decide +kernel) (by decide) ?_
      refine tr_iconst (pc' := 33) (v := (0 : Int32)) (show decode cX10_canBe 32 = .ok (.iconst 0, 1) by decide +kernel) rfl (by decide) ?_
      cases h
      exact tr_zret rfl (by decide) (show decode cX10_canBe 33 = .ok (.ireturn, 1) by decide +kernel) hL
    · refine tr_if_eq_f (tgt := 32) (pc' := 19) hc (show decode cX10_canBe 16 = .ok (.ifCond .eq 16, 3) by decide +kernel) (by decide) rfl ?_
      refine tr_iload_n (pc' := 20) (show decode cX10_canBe 19 = .ok (.iload_n 2, 1) by decide +kernel) rfl rfl rfl ?_
      refine tr_iconst (pc' := 21) (v := (0 : Int32)) (show decode cX10_canBe 20 = .ok (.iconst 0, 1) by decide +kernel) rfl (by decide) ?_
      refine tr_iconst (pc' := 22) (v := (3 : Int32)) (show decode cX10_canBe 21 = .ok (.iconst 3, 1) by decide +kernel) rfl (by decide) ?_
      obtain ⟨x4, ex4, h⟩ := hm_bs h
      have cx4 := ok_X10_lies (fr := fr - 1) (ν := ν) (by omega) v2 (0 : Int32) (3 : Int32) μ hL ex4
      refine tp_callS (pc' := 25) (As := [.int v2, .int (0 : Int32), .int (3 : Int32)]) (fr1 := fr - 1) okm_X10_lies lk_HandRingModel_108 (show decode cX10_canBe 22 = .ok (.invokestatic 108, 3) by decide +kernel) rfl rfl rfl (Nat.le_of_ble_eq_true rfl) (by omega) cx4 (st' := [.int x4]) rfl ?_
      rcases hm_is h with ⟨hc, h⟩ | ⟨hc, h⟩
      · refine tr_if_eq_t (tgt := 32) hc (show decode cX10_canBe 25 = .ok (.ifCond .eq 7, 3) by decide +kernel) (by decide) ?_
        refine tr_iconst (pc' := 33) (v := (0 : Int32)) (show decode cX10_canBe 32 = .ok (.iconst 0, 1) by decide +kernel) rfl (by decide) ?_
        cases h
        exact tr_zret rfl (by decide) (show decode cX10_canBe 33 = .ok (.ireturn, 1) by decide +kernel) hL
      · refine tr_if_eq_f (tgt := 32) (pc' := 28) hc (show decode cX10_canBe 25 = .ok (.ifCond .eq 7, 3) by decide +kernel) (by decide) rfl ?_
        refine tr_iconst (pc' := 29) (v := (1 : Int32)) (show decode cX10_canBe 28 = .ok (.iconst 1, 1) by decide +kernel) rfl (by decide) ?_
        refine tr_goto (tgt := 33) (show decode cX10_canBe 29 = .ok (.goto 4, 3) by decide +kernel) rfl ?_
        cases h
        exact tr_zret rfl (by decide) (show decode cX10_canBe 33 = .ok (.ireturn, 1) by decide +kernel) hL
def f_X10_adds (v1 : Int32) (v2 : Int32) (v3 : Int32) (μ : hm_M) : Option hm_M :=
  Option.bind (f_X10_many μ) fun x2 =>
  Option.bind (hm_sd μ 181 5665 ((0 : Int32) + x2) v1) fun μ3 =>
  Option.bind (hm_sd μ3 181 5665 ((8 : Int32) + x2) v2) fun μ4 =>
  Option.bind (hm_sd μ4 181 5665 ((16 : Int32) + x2) (0 : Int32)) fun μ5 =>
  Option.bind (hm_sd μ5 181 5665 ((25 : Int32) + x2) v3) fun μ6 =>
  Option.bind (hm_ld μ6 181 5665 (54 : Int32)) fun x7 =>
  Option.bind (hm_sd μ6 181 5665 (54 : Int32) (x7 + (1 : Int32))) fun μ8 =>
  some μ8
set_option maxRecDepth 100000 in
theorem ok_X10_adds {fr : Nat} (hfr : 1 ≤ fr) {ν : hm_N} {μR : hm_M}  (v1 : Int32) (v2 : Int32) (v3 : Int32)  (μ : hm_M) (hL : hm_LL ν μ) (h : f_X10_adds v1 v2 v3 μ = some μR) : hm_CC (hm_LL ν) m_X10_adds fr 0 0 [.ref 179, .int v1, .int v2, .int v3] μ none μR := by
  refine hm_enter (lv := [some (.ref 179), some (.int v1), some (.int v2), some (.int v3), none]) (by decide) rfl (Nat.le_of_ble_eq_true rfl) ?_
  unfold f_X10_adds at h
  refine tr_aload_n (pc' := 1) (show decode cX10_adds 0 = .ok (.aload_n 0, 1) by decide +kernel) rfl rfl rfl ?_
  obtain ⟨x2, ex2, h⟩ := hm_bs h
  have cx2 := ok_X10_many (fr := fr - 1) (ν := ν) (by omega) μ hL ex2
  refine tp_callV (pc' := 4) (As := []) (fr1 := fr - 1) (ci := 10) okm_X10_many lk_HandRingModel_118 (show decode cX10_adds 1 = .ok (.invokevirtual 118, 3) by decide +kernel) rfl rfl rfl (by decide) (la_o hL (by decide) rfl) rfl rfl (Nat.le_of_ble_eq_true rfl) (by omega) cx2 (st' := [.int x2]) rfl ?_
  refine tr_istore (pc' := 6) (lv' := [some (.ref 179), some (.int v1), some (.int v2), some (.int v3), some (.int x2)]) (show decode cX10_adds 4 = .ok (.istore 4, 2) by decide +kernel) rfl (Nat.le_of_ble_eq_true rfl) rfl rfl ?_
  refine tr_aload_n (pc' := 7) (show decode cX10_adds 6 = .ok (.aload_n 0, 1) by decide +kernel) rfl rfl rfl ?_
  refine tr_getR (pc' := 10) fl_HandRingModel_24 (show decode cX10_adds 7 = .ok (.getfield 24, 3) by decide +kernel) rfl (la_o hL (by decide) rfl) (la_r hL 118 rfl) ?_
  refine tr_iconst (pc' := 11) (v := (0 : Int32)) (show decode cX10_adds 10 = .ok (.iconst 0, 1) by decide +kernel) rfl (by decide) ?_
  refine tr_iload (pc' := 13) (show decode cX10_adds 11 = .ok (.iload 4, 2) by decide +kernel) rfl rfl ?_
  refine tr_iadd (pc' := 14) (show decode cX10_adds 13 = .ok (.iadd, 1) by decide +kernel) rfl ?_
  refine tr_iload_n (pc' := 15) (show decode cX10_adds 14 = .ok (.iload_n 1, 1) by decide +kernel) rfl rfl rfl ?_
  obtain ⟨μ3, eμ3, h⟩ := hm_bs h
  refine tp_sdI (pc' := 16) (show decode cX10_adds 15 = .ok (.iastore, 1) by decide +kernel) rfl (la_a hL (by decide) rfl) eμ3 ?_
  replace hL := hL.same (hm_sd_s eμ3)
  refine tr_aload_n (pc' := 17) (show decode cX10_adds 16 = .ok (.aload_n 0, 1) by decide +kernel) rfl rfl rfl ?_
  refine tr_getR (pc' := 20) fl_HandRingModel_24 (show decode cX10_adds 17 = .ok (.getfield 24, 3) by decide +kernel) rfl (la_o hL (by decide) rfl) (la_r hL 118 rfl) ?_
  refine tr_bipush (pc' := 22) (v := (8 : Int32)) (show decode cX10_adds 20 = .ok (.bipush 8, 2) by decide +kernel) rfl (by decide) ?_
  refine tr_iload (pc' := 24) (show decode cX10_adds 22 = .ok (.iload 4, 2) by decide +kernel) rfl rfl ?_
  refine tr_iadd (pc' := 25) (show decode cX10_adds 24 = .ok (.iadd, 1) by decide +kernel) rfl ?_
  refine tr_iload_n (pc' := 26) (show decode cX10_adds 25 = .ok (.iload_n 2, 1) by decide +kernel) rfl rfl rfl ?_
  obtain ⟨μ4, eμ4, h⟩ := hm_bs h
  refine tp_sdI (pc' := 27) (show decode cX10_adds 26 = .ok (.iastore, 1) by decide +kernel) rfl (la_a hL (by decide) rfl) eμ4 ?_
  replace hL := hL.same (hm_sd_s eμ4)
  refine tr_aload_n (pc' := 28) (show decode cX10_adds 27 = .ok (.aload_n 0, 1) by decide +kernel) rfl rfl rfl ?_
  refine tr_getR (pc' := 31) fl_HandRingModel_24 (show decode cX10_adds 28 = .ok (.getfield 24, 3) by decide +kernel) rfl (la_o hL (by decide) rfl) (la_r hL 118 rfl) ?_
  refine tr_bipush (pc' := 33) (v := (16 : Int32)) (show decode cX10_adds 31 = .ok (.bipush 16, 2) by decide +kernel) rfl (by decide) ?_
  refine tr_iload (pc' := 35) (show decode cX10_adds 33 = .ok (.iload 4, 2) by decide +kernel) rfl rfl ?_
  refine tr_iadd (pc' := 36) (show decode cX10_adds 35 = .ok (.iadd, 1) by decide +kernel) rfl ?_
  refine tr_iconst (pc' := 37) (v := (0 : Int32)) (show decode cX10_adds 36 = .ok (.iconst 0, 1) by decide +kernel) rfl (by decide) ?_
  obtain ⟨μ5, eμ5, h⟩ := hm_bs h
  refine tp_sdI (pc' := 38) (show decode cX10_adds 37 = .ok (.iastore, 1) by decide +kernel) rfl (la_a hL (by decide) rfl) eμ5 ?_
  replace hL := hL.same (hm_sd_s eμ5)
  refine tr_aload_n (pc' := 39) (show decode cX10_adds 38 = .ok (.aload_n 0, 1) by decide +kernel) rfl rfl rfl ?_
  refine tr_getR (pc' := 42) fl_HandRingModel_24 (show decode cX10_adds 39 = .ok (.getfield 24, 3) by decide +kernel) rfl (la_o hL (by decide) rfl) (la_r hL 118 rfl) ?_
  refine tr_bipush (pc' := 44) (v := (25 : Int32)) (show decode cX10_adds 42 = .ok (.bipush 25, 2) by decide +kernel) rfl (by decide) ?_
  refine tr_iload (pc' := 46) (show decode cX10_adds 44 = .ok (.iload 4, 2) by decide +kernel) rfl rfl ?_
  refine tr_iadd (pc' := 47) (show decode cX10_adds 46 = .ok (.iadd, 1) by decide +kernel) rfl ?_
  refine tr_iload_n (pc' := 48) (show decode cX10_adds 47 = .ok (.iload_n 3, 1) by decide +kernel) rfl rfl rfl ?_
  obtain ⟨μ6, eμ6, h⟩ := hm_bs h
  refine tp_sdI (pc' := 49) (show decode cX10_adds 48 = .ok (.iastore, 1) by decide +kernel) rfl (la_a hL (by decide) rfl) eμ6 ?_
  replace hL := hL.same (hm_sd_s eμ6)
  refine tr_aload_n (pc' := 50) (show decode cX10_adds 49 = .ok (.aload_n 0, 1) by decide +kernel) rfl rfl rfl ?_
  refine tr_getR (pc' := 53) fl_HandRingModel_24 (show decode cX10_adds 50 = .ok (.getfield 24, 3) by decide +kernel) rfl (la_o hL (by decide) rfl) (la_r hL 118 rfl) ?_
  refine tr_bipush (pc' := 55) (v := (54 : Int32)) (show decode cX10_adds 53 = .ok (.bipush 54, 2) by decide +kernel) rfl (by decide) ?_
  refine tr_dup2 (pc' := 56) (show decode cX10_adds 55 = .ok (.dup2, 1) by decide +kernel) rfl rfl rfl ?_
  obtain ⟨x7, ex7, h⟩ := hm_bs h
  refine tp_ldI (pc' := 57) (show decode cX10_adds 56 = .ok (.iaload, 1) by decide +kernel) rfl (la_a hL (by decide) rfl) ex7 ?_
  refine tr_iconst (pc' := 58) (v := (1 : Int32)) (show decode cX10_adds 57 = .ok (.iconst 1, 1) by decide +kernel) rfl (by decide) ?_
  refine tr_iadd (pc' := 59) (show decode cX10_adds 58 = .ok (.iadd, 1) by decide +kernel) rfl ?_
  obtain ⟨μ8, eμ8, h⟩ := hm_bs h
  refine tp_sdI (pc' := 60) (show decode cX10_adds 59 = .ok (.iastore, 1) by decide +kernel) rfl (la_a hL (by decide) rfl) eμ8 ?_
  replace hL := hL.same (hm_sd_s eμ8)
  cases h
  exact tr_vret rfl (show decode cX10_adds 60 = .ok (.return_, 1) by decide +kernel) hL
def f_X10_person (v1 : Int32) (v2 : Int32) (v3 : Int32) (μ : hm_M) : Option (Int32 × hm_M) :=
  Option.bind (f_X10_canBe v1 v2 v3) fun x2 =>
  (if x2 = 0 then
  hm_b2 (f_X10_refuses (-1 : Int32) μ) fun x11 μ12 =>
  some (x11, μ12)
  else
  Option.bind (f_X10_many μ) fun x3 =>
  (if x3 = (8 : Int32) then
  hm_b2 (f_X10_refuses (-5 : Int32) μ) fun x9 μ10 =>
  some (x9, μ10)
  else
  Option.bind (f_X10_adds v1 v2 v3 μ) fun μ5 =>
  Option.bind (f_X10_many μ5) fun x6 =>
  hm_b2 (f_X10_settled (x6 - (1 : Int32)) μ5) fun x7 μ8 =>
  some (x7, μ8)))
set_option maxRecDepth 100000 in
theorem ok_X10_person {fr : Nat} (hfr : 2 ≤ fr) {ν : hm_N} {r : Int32} {μR : hm_M}  (v1 : Int32) (v2 : Int32) (v3 : Int32)  (μ : hm_M) (hL : hm_LL ν μ) (h : f_X10_person v1 v2 v3 μ = some (r, μR)) : hm_CC (hm_LL ν) m_X10_person fr 0 0 [.ref 179, .int v1, .int v2, .int v3] μ (some (.int r)) μR := by
  refine hm_enter (lv := [some (.ref 179), some (.int v1), some (.int v2), some (.int v3)]) (by decide) rfl (Nat.le_of_ble_eq_true rfl) ?_
  unfold f_X10_person at h
  refine tr_iload_n (pc' := 1) (show decode cX10_person 0 = .ok (.iload_n 1, 1) by decide +kernel) rfl rfl rfl ?_
  refine tr_iload_n (pc' := 2) (show decode cX10_person 1 = .ok (.iload_n 2, 1) by decide +kernel) rfl rfl rfl ?_
  refine tr_iload_n (pc' := 3) (show decode cX10_person 2 = .ok (.iload_n 3, 1) by decide +kernel) rfl rfl rfl ?_
  obtain ⟨x2, ex2, h⟩ := hm_bs h
  have cx2 := ok_X10_canBe (fr := fr - 1) (ν := ν) (by omega) v1 v2 v3 μ hL ex2
  refine tp_callS (pc' := 6) (As := [.int v1, .int v2, .int v3]) (fr1 := fr - 1) okm_X10_canBe lk_HandRingModel_126 (show decode cX10_person 3 = .ok (.invokestatic 126, 3) by decide +kernel) rfl rfl rfl (Nat.le_of_ble_eq_true rfl) (by omega) cx2 (st' := [.int x2]) rfl ?_
  rcases hm_is h with ⟨hc, h⟩ | ⟨hc, h⟩
  · refine tr_if_ne_f (tgt := 15) (pc' := 9) hc (show decode cX10_person 6 = .ok (.ifCond .ne 9, 3) by decide +kernel) (by decide) rfl ?_
    refine tr_aload_n (pc' := 10) (show decode cX10_person 9 = .ok (.aload_n 0, 1) by decide +kernel) rfl rfl rfl ?_
    refine tr_iconst (pc' := 11) (v := (-1 : Int32)) (show decode cX10_person 10 = .ok (.iconst (-1), 1) by decide +kernel) rfl (by decide) ?_
    obtain ⟨x11, μ12, ex11, h⟩ := hm_b2s h
    have cx11 := ok_X10_refuses (fr := fr - 1) (ν := ν) (by omega) (-1 : Int32) μ hL ex11
    refine tp_callV (pc' := 14) (As := [.int (-1 : Int32)]) (fr1 := fr - 1) (ci := 10) okm_X10_refuses lk_HandRingModel_112 (show decode cX10_person 11 = .ok (.invokevirtual 112, 3) by decide +kernel) rfl rfl rfl (by decide) (la_o hL (by decide) rfl) rfl rfl (Nat.le_of_ble_eq_true rfl) (by omega) cx11 (st' := [.int x11]) rfl ?_
    replace hL := cx11.1
    cases h
    exact tr_iret rfl (show decode cX10_person 14 = .ok (.ireturn, 1) by decide +kernel) hL
  · refine tr_if_ne_t (tgt := 15) hc (show decode cX10_person 6 = .ok (.ifCond .ne 9, 3) by decide +kernel) (by decide) ?_
    refine tr_aload_n (pc' := 16) (show decode cX10_person 15 = .ok (.aload_n 0, 1) by decide +kernel) rfl rfl rfl ?_
    obtain ⟨x3, ex3, h⟩ := hm_bs h
    have cx3 := ok_X10_many (fr := fr - 1) (ν := ν) (by omega) μ hL ex3
    refine tp_callV (pc' := 19) (As := []) (fr1 := fr - 1) (ci := 10) okm_X10_many lk_HandRingModel_118 (show decode cX10_person 16 = .ok (.invokevirtual 118, 3) by decide +kernel) rfl rfl rfl (by decide) (la_o hL (by decide) rfl) rfl rfl (Nat.le_of_ble_eq_true rfl) (by omega) cx3 (st' := [.int x3]) rfl ?_
    refine tr_bipush (pc' := 21) (v := (8 : Int32)) (show decode cX10_person 19 = .ok (.bipush 8, 2) by decide +kernel) rfl (by decide) ?_
    rcases hm_is h with ⟨hc, h⟩ | ⟨hc, h⟩
    · refine tr_icmp_ne_f (tgt := 31) (pc' := 24) hc (show decode cX10_person 21 = .ok (.if_icmp .ne 10, 3) by decide +kernel) (by decide) rfl ?_
      refine tr_aload_n (pc' := 25) (show decode cX10_person 24 = .ok (.aload_n 0, 1) by decide +kernel) rfl rfl rfl ?_
      refine tr_bipush (pc' := 27) (v := (-5 : Int32)) (show decode cX10_person 25 = .ok (.bipush (-5), 2) by decide +kernel) rfl (by decide) ?_
      obtain ⟨x9, μ10, ex9, h⟩ := hm_b2s h
      have cx9 := ok_X10_refuses (fr := fr - 1) (ν := ν) (by omega) (-5 : Int32) μ hL ex9
      refine tp_callV (pc' := 30) (As := [.int (-5 : Int32)]) (fr1 := fr - 1) (ci := 10) okm_X10_refuses lk_HandRingModel_112 (show decode cX10_person 27 = .ok (.invokevirtual 112, 3) by decide +kernel) rfl rfl rfl (by decide) (la_o hL (by decide) rfl) rfl rfl (Nat.le_of_ble_eq_true rfl) (by omega) cx9 (st' := [.int x9]) rfl ?_
      replace hL := cx9.1
      cases h
      exact tr_iret rfl (show decode cX10_person 30 = .ok (.ireturn, 1) by decide +kernel) hL
    · refine tr_icmp_ne_t (tgt := 31) hc (show decode cX10_person 21 = .ok (.if_icmp .ne 10, 3) by decide +kernel) (by decide) ?_
      refine tr_aload_n (pc' := 32) (show decode cX10_person 31 = .ok (.aload_n 0, 1) by decide +kernel) rfl rfl rfl ?_
      refine tr_iload_n (pc' := 33) (show decode cX10_person 32 = .ok (.iload_n 1, 1) by decide +kernel) rfl rfl rfl ?_
      refine tr_iload_n (pc' := 34) (show decode cX10_person 33 = .ok (.iload_n 2, 1) by decide +kernel) rfl rfl rfl ?_
      refine tr_iload_n (pc' := 35) (show decode cX10_person 34 = .ok (.iload_n 3, 1) by decide +kernel) rfl rfl rfl ?_
      obtain ⟨μ5, ex4, h⟩ := hm_bs h
      have cx4 := ok_X10_adds (fr := fr - 1) (ν := ν) (by omega) v1 v2 v3 μ hL ex4
      refine tp_callV (pc' := 38) (As := [.int v1, .int v2, .int v3]) (fr1 := fr - 1) (ci := 10) okm_X10_adds lk_HandRingModel_129 (show decode cX10_person 35 = .ok (.invokevirtual 129, 3) by decide +kernel) rfl rfl rfl (by decide) (la_o hL (by decide) rfl) rfl rfl (Nat.le_of_ble_eq_true rfl) (by omega) cx4 (st' := []) rfl ?_
      replace hL := cx4.1
      refine tr_aload_n (pc' := 39) (show decode cX10_person 38 = .ok (.aload_n 0, 1) by decide +kernel) rfl rfl rfl ?_
      refine tr_aload_n (pc' := 40) (show decode cX10_person 39 = .ok (.aload_n 0, 1) by decide +kernel) rfl rfl rfl ?_
      obtain ⟨x6, ex6, h⟩ := hm_bs h
      have cx6 := ok_X10_many (fr := fr - 1) (ν := ν) (by omega) μ5 hL ex6
      refine tp_callV (pc' := 43) (As := []) (fr1 := fr - 1) (ci := 10) okm_X10_many lk_HandRingModel_118 (show decode cX10_person 40 = .ok (.invokevirtual 118, 3) by decide +kernel) rfl rfl rfl (by decide) (la_o hL (by decide) rfl) rfl rfl (Nat.le_of_ble_eq_true rfl) (by omega) cx6 (st' := [.int x6, .ref 179]) rfl ?_
      refine tr_iconst (pc' := 44) (v := (1 : Int32)) (show decode cX10_person 43 = .ok (.iconst 1, 1) by decide +kernel) rfl (by decide) ?_
      refine tr_isub (pc' := 45) (show decode cX10_person 44 = .ok (.isub, 1) by decide +kernel) rfl ?_
      obtain ⟨x7, μ8, ex7, h⟩ := hm_b2s h
      have cx7 := ok_X10_settled (fr := fr - 1) (ν := ν) (by omega) (x6 - (1 : Int32)) μ5 hL ex7
      refine tp_callV (pc' := 48) (As := [.int (x6 - (1 : Int32))]) (fr1 := fr - 1) (ci := 10) okm_X10_settled lk_HandRingModel_115 (show decode cX10_person 45 = .ok (.invokevirtual 115, 3) by decide +kernel) rfl rfl rfl (by decide) (la_o hL (by decide) rfl) rfl rfl (Nat.le_of_ble_eq_true rfl) (by omega) cx7 (st' := [.int x7]) rfl ?_
      replace hL := cx7.1
      cases h
      exact tr_iret rfl (show decode cX10_person 48 = .ok (.ireturn, 1) by decide +kernel) hL
def f_X10_farOf (v1 : Int32) (v2 : Int32) (μ : hm_M) : Option Int32 :=
  Option.bind (hm_ld μ 181 5665 ((0 : Int32) + v1)) fun x2 =>
  Option.bind (hm_ld μ 181 5665 ((0 : Int32) + v2)) fun x3 =>
  Option.bind (f_X10_apart (x2 / (5 : Int32)) (x3 / (5 : Int32))) fun x4 =>
  Option.bind (hm_ld μ 181 5665 ((0 : Int32) + v1)) fun x5 =>
  Option.bind (hm_ld μ 181 5665 ((0 : Int32) + v2)) fun x6 =>
  Option.bind (f_X10_apart (x5 - x5 / (5 : Int32) * (5 : Int32)) (x6 - x6 / (5 : Int32) * (5 : Int32))) fun x7 =>
  some (x4 + x7)
set_option maxRecDepth 100000 in
theorem ok_X10_farOf {fr : Nat} (hfr : 1 ≤ fr) {ν : hm_N} {r : Int32}  (v1 : Int32) (v2 : Int32)  (μ : hm_M) (hL : hm_LL ν μ) (h : f_X10_farOf v1 v2 μ = some r) : hm_CC (hm_LL ν) m_X10_farOf fr 0 0 [.ref 179, .int v1, .int v2] μ (some (.int r)) μ := by
  refine hm_enter (lv := [some (.ref 179), some (.int v1), some (.int v2)]) (by decide) rfl (Nat.le_of_ble_eq_true rfl) ?_
  unfold f_X10_farOf at h
  refine tr_aload_n (pc' := 1) (show decode cX10_farOf 0 = .ok (.aload_n 0, 1) by decide +kernel) rfl rfl rfl ?_
  refine tr_getR (pc' := 4) fl_HandRingModel_24 (show decode cX10_farOf 1 = .ok (.getfield 24, 3) by decide +kernel) rfl (la_o hL (by decide) rfl) (la_r hL 118 rfl) ?_
  refine tr_iconst (pc' := 5) (v := (0 : Int32)) (show decode cX10_farOf 4 = .ok (.iconst 0, 1) by decide +kernel) rfl (by decide) ?_
  refine tr_iload_n (pc' := 6) (show decode cX10_farOf 5 = .ok (.iload_n 1, 1) by decide +kernel) rfl rfl rfl ?_
  refine tr_iadd (pc' := 7) (show decode cX10_farOf 6 = .ok (.iadd, 1) by decide +kernel) rfl ?_
  obtain ⟨x2, ex2, h⟩ := hm_bs h
  refine tp_ldI (pc' := 8) (show decode cX10_farOf 7 = .ok (.iaload, 1) by decide +kernel) rfl (la_a hL (by decide) rfl) ex2 ?_
  refine tr_iconst (pc' := 9) (v := (5 : Int32)) (show decode cX10_farOf 8 = .ok (.iconst 5, 1) by decide +kernel) rfl (by decide) ?_
  refine tr_idiv (pc' := 10) (show decode cX10_farOf 9 = .ok (.idiv, 1) by decide +kernel) rfl (by decide) ?_
  refine tr_aload_n (pc' := 11) (show decode cX10_farOf 10 = .ok (.aload_n 0, 1) by decide +kernel) rfl rfl rfl ?_
  refine tr_getR (pc' := 14) fl_HandRingModel_24 (show decode cX10_farOf 11 = .ok (.getfield 24, 3) by decide +kernel) rfl (la_o hL (by decide) rfl) (la_r hL 118 rfl) ?_
  refine tr_iconst (pc' := 15) (v := (0 : Int32)) (show decode cX10_farOf 14 = .ok (.iconst 0, 1) by decide +kernel) rfl (by decide) ?_
  refine tr_iload_n (pc' := 16) (show decode cX10_farOf 15 = .ok (.iload_n 2, 1) by decide +kernel) rfl rfl rfl ?_
  refine tr_iadd (pc' := 17) (show decode cX10_farOf 16 = .ok (.iadd, 1) by decide +kernel) rfl ?_
  obtain ⟨x3, ex3, h⟩ := hm_bs h
  refine tp_ldI (pc' := 18) (show decode cX10_farOf 17 = .ok (.iaload, 1) by decide +kernel) rfl (la_a hL (by decide) rfl) ex3 ?_
  refine tr_iconst (pc' := 19) (v := (5 : Int32)) (show decode cX10_farOf 18 = .ok (.iconst 5, 1) by decide +kernel) rfl (by decide) ?_
  refine tr_idiv (pc' := 20) (show decode cX10_farOf 19 = .ok (.idiv, 1) by decide +kernel) rfl (by decide) ?_
  obtain ⟨x4, ex4, h⟩ := hm_bs h
  have cx4 := ok_X10_apart (fr := fr - 1) (ν := ν) (by omega) (x2 / (5 : Int32)) (x3 / (5 : Int32)) μ hL ex4
  refine tp_callS (pc' := 23) (As := [.int (x2 / (5 : Int32)), .int (x3 / (5 : Int32))]) (fr1 := fr - 1) okm_X10_apart lk_HandRingModel_139 (show decode cX10_farOf 20 = .ok (.invokestatic 139, 3) by decide +kernel) rfl rfl rfl (Nat.le_of_ble_eq_true rfl) (by omega) cx4 (st' := [.int x4]) rfl ?_
  refine tr_aload_n (pc' := 24) (show decode cX10_farOf 23 = .ok (.aload_n 0, 1) by decide +kernel) rfl rfl rfl ?_
  refine tr_getR (pc' := 27) fl_HandRingModel_24 (show decode cX10_farOf 24 = .ok (.getfield 24, 3) by decide +kernel) rfl (la_o hL (by decide) rfl) (la_r hL 118 rfl) ?_
  refine tr_iconst (pc' := 28) (v := (0 : Int32)) (show decode cX10_farOf 27 = .ok (.iconst 0, 1) by decide +kernel) rfl (by decide) ?_
  refine tr_iload_n (pc' := 29) (show decode cX10_farOf 28 = .ok (.iload_n 1, 1) by decide +kernel) rfl rfl rfl ?_
  refine tr_iadd (pc' := 30) (show decode cX10_farOf 29 = .ok (.iadd, 1) by decide +kernel) rfl ?_
  obtain ⟨x5, ex5, h⟩ := hm_bs h
  refine tp_ldI (pc' := 31) (show decode cX10_farOf 30 = .ok (.iaload, 1) by decide +kernel) rfl (la_a hL (by decide) rfl) ex5 ?_
  refine tr_iconst (pc' := 32) (v := (5 : Int32)) (show decode cX10_farOf 31 = .ok (.iconst 5, 1) by decide +kernel) rfl (by decide) ?_
  refine tr_irem (pc' := 33) (show decode cX10_farOf 32 = .ok (.irem, 1) by decide +kernel) rfl (by decide) ?_
  refine tr_aload_n (pc' := 34) (show decode cX10_farOf 33 = .ok (.aload_n 0, 1) by decide +kernel) rfl rfl rfl ?_
  refine tr_getR (pc' := 37) fl_HandRingModel_24 (show decode cX10_farOf 34 = .ok (.getfield 24, 3) by decide +kernel) rfl (la_o hL (by decide) rfl) (la_r hL 118 rfl) ?_
  refine tr_iconst (pc' := 38) (v := (0 : Int32)) (show decode cX10_farOf 37 = .ok (.iconst 0, 1) by decide +kernel) rfl (by decide) ?_
  refine tr_iload_n (pc' := 39) (show decode cX10_farOf 38 = .ok (.iload_n 2, 1) by decide +kernel) rfl rfl rfl ?_
  refine tr_iadd (pc' := 40) (show decode cX10_farOf 39 = .ok (.iadd, 1) by decide +kernel) rfl ?_
  obtain ⟨x6, ex6, h⟩ := hm_bs h
  refine tp_ldI (pc' := 41) (show decode cX10_farOf 40 = .ok (.iaload, 1) by decide +kernel) rfl (la_a hL (by decide) rfl) ex6 ?_
  refine tr_iconst (pc' := 42) (v := (5 : Int32)) (show decode cX10_farOf 41 = .ok (.iconst 5, 1) by decide +kernel) rfl (by decide) ?_
  refine tr_irem (pc' := 43) (show decode cX10_farOf 42 = .ok (.irem, 1) by decide +kernel) rfl (by decide) ?_
  obtain ⟨x7, ex7, h⟩ := hm_bs h
  have cx7 := ok_X10_apart (fr := fr - 1) (ν := ν) (by omega) (x5 - x5 / (5 : Int32) * (5 : Int32)) (x6 - x6 / (5 : Int32) * (5 : Int32)) μ hL ex7
  refine tp_callS (pc' := 46) (As := [.int (x5 - x5 / (5 : Int32) * (5 : Int32)), .int (x6 - x6 / (5 : Int32) * (5 : Int32))]) (fr1 := fr - 1) okm_X10_apart lk_HandRingModel_139 (show decode cX10_farOf 43 = .ok (.invokestatic 139, 3) by decide +kernel) rfl rfl rfl (Nat.le_of_ble_eq_true rfl) (by omega) cx7 (st' := [.int x7, .int x4]) rfl ?_
  refine tr_iadd (pc' := 47) (show decode cX10_farOf 46 = .ok (.iadd, 1) by decide +kernel) rfl ?_
  cases h
  exact tr_iret rfl (show decode cX10_farOf 47 = .ok (.ireturn, 1) by decide +kernel) hL
def f_X10_areNear (v1 : Int32) (v2 : Int32) (μ : hm_M) : Option Int32 :=
  Option.bind (f_X10_farOf v1 v2 μ) fun x2 =>
  Option.bind (hm_ld μ 181 5665 ((8 : Int32) + v1)) fun x3 =>
  Option.bind (hm_ld μ 181 5665 ((8 : Int32) + v2)) fun x4 =>
  (if (x3 + x4) < x2 then
  some (0 : Int32)
  else
  some (1 : Int32))
set_option maxRecDepth 100000 in
theorem ok_X10_areNear {fr : Nat} (hfr : 2 ≤ fr) {ν : hm_N} {r : Int32}  (v1 : Int32) (v2 : Int32)  (μ : hm_M) (hL : hm_LL ν μ) (h : f_X10_areNear v1 v2 μ = some r) : hm_CC (hm_LL ν) m_X10_areNear fr 0 0 [.ref 179, .int v1, .int v2] μ (some (.int r)) μ := by
  refine hm_enter (lv := [some (.ref 179), some (.int v1), some (.int v2)]) (by decide) rfl (Nat.le_of_ble_eq_true rfl) ?_
  unfold f_X10_areNear at h
  refine tr_aload_n (pc' := 1) (show decode cX10_areNear 0 = .ok (.aload_n 0, 1) by decide +kernel) rfl rfl rfl ?_
  refine tr_iload_n (pc' := 2) (show decode cX10_areNear 1 = .ok (.iload_n 1, 1) by decide +kernel) rfl rfl rfl ?_
  refine tr_iload_n (pc' := 3) (show decode cX10_areNear 2 = .ok (.iload_n 2, 1) by decide +kernel) rfl rfl rfl ?_
  obtain ⟨x2, ex2, h⟩ := hm_bs h
  have cx2 := ok_X10_farOf (fr := fr - 1) (ν := ν) (by omega) v1 v2 μ hL ex2
  refine tp_callV (pc' := 6) (As := [.int v1, .int v2]) (fr1 := fr - 1) (ci := 10) okm_X10_farOf lk_HandRingModel_147 (show decode cX10_areNear 3 = .ok (.invokevirtual 147, 3) by decide +kernel) rfl rfl rfl (by decide) (la_o hL (by decide) rfl) rfl rfl (Nat.le_of_ble_eq_true rfl) (by omega) cx2 (st' := [.int x2]) rfl ?_
  refine tr_aload_n (pc' := 7) (show decode cX10_areNear 6 = .ok (.aload_n 0, 1) by decide +kernel) rfl rfl rfl ?_
  refine tr_getR (pc' := 10) fl_HandRingModel_24 (show decode cX10_areNear 7 = .ok (.getfield 24, 3) by decide +kernel) rfl (la_o hL (by decide) rfl) (la_r hL 118 rfl) ?_
  refine tr_bipush (pc' := 12) (v := (8 : Int32)) (show decode cX10_areNear 10 = .ok (.bipush 8, 2) by decide +kernel) rfl (by decide) ?_
  refine tr_iload_n (pc' := 13) (show decode cX10_areNear 12 = .ok (.iload_n 1, 1) by decide +kernel) rfl rfl rfl ?_
  refine tr_iadd (pc' := 14) (show decode cX10_areNear 13 = .ok (.iadd, 1) by decide +kernel) rfl ?_
  obtain ⟨x3, ex3, h⟩ := hm_bs h
  refine tp_ldI (pc' := 15) (show decode cX10_areNear 14 = .ok (.iaload, 1) by decide +kernel) rfl (la_a hL (by decide) rfl) ex3 ?_
  refine tr_aload_n (pc' := 16) (show decode cX10_areNear 15 = .ok (.aload_n 0, 1) by decide +kernel) rfl rfl rfl ?_
  refine tr_getR (pc' := 19) fl_HandRingModel_24 (show decode cX10_areNear 16 = .ok (.getfield 24, 3) by decide +kernel) rfl (la_o hL (by decide) rfl) (la_r hL 118 rfl) ?_
  refine tr_bipush (pc' := 21) (v := (8 : Int32)) (show decode cX10_areNear 19 = .ok (.bipush 8, 2) by decide +kernel) rfl (by decide) ?_
  refine tr_iload_n (pc' := 22) (show decode cX10_areNear 21 = .ok (.iload_n 2, 1) by decide +kernel) rfl rfl rfl ?_
  refine tr_iadd (pc' := 23) (show decode cX10_areNear 22 = .ok (.iadd, 1) by decide +kernel) rfl ?_
  obtain ⟨x4, ex4, h⟩ := hm_bs h
  refine tp_ldI (pc' := 24) (show decode cX10_areNear 23 = .ok (.iaload, 1) by decide +kernel) rfl (la_a hL (by decide) rfl) ex4 ?_
  refine tr_iadd (pc' := 25) (show decode cX10_areNear 24 = .ok (.iadd, 1) by decide +kernel) rfl ?_
  rcases hm_is h with ⟨hc, h⟩ | ⟨hc, h⟩
  · refine tr_icmp_gt_t (tgt := 32) hc (show decode cX10_areNear 25 = .ok (.if_icmp .gt 7, 3) by decide +kernel) (by decide) ?_
    refine tr_iconst (pc' := 33) (v := (0 : Int32)) (show decode cX10_areNear 32 = .ok (.iconst 0, 1) by decide +kernel) rfl (by decide) ?_
    cases h
    exact tr_zret rfl (by decide) (show decode cX10_areNear 33 = .ok (.ireturn, 1) by decide +kernel) hL
  · refine tr_icmp_gt_f (tgt := 32) (pc' := 28) hc (show decode cX10_areNear 25 = .ok (.if_icmp .gt 7, 3) by decide +kernel) (by decide) rfl ?_
    refine tr_iconst (pc' := 29) (v := (1 : Int32)) (show decode cX10_areNear 28 = .ok (.iconst 1, 1) by decide +kernel) rfl (by decide) ?_
    refine tr_goto (tgt := 33) (show decode cX10_areNear 29 = .ok (.goto 4, 3) by decide +kernel) rfl ?_
    cases h
    exact tr_zret rfl (by decide) (show decode cX10_areNear 33 = .ok (.ireturn, 1) by decide +kernel) hL
def f_X10_setsAsked_J106 (v1 : Int32) (v2 : Int32) (s0 : Int32) (s1 : Int32) (s2 : Int32) (μ1 : hm_M) : Option hm_M :=
  Option.bind (hm_sd μ1 191 8 s2 (s1 + s0)) fun μ12 =>
  Option.bind (hm_ld μ12 181 5665 (52 : Int32)) fun x13 =>
  Option.bind (hm_sd μ12 191 8 (6 : Int32) x13) fun μ14 =>
  Option.bind (hm_ld μ14 181 5665 (24 : Int32)) fun x15 =>
  Option.bind (hm_sd μ14 191 8 (7 : Int32) x15) fun μ16 =>
  some μ16
theorem ok_X10_setsAsked_J106 {fr : Nat} (hfr : 2 ≤ fr) {ν : hm_N} {μR : hm_M}  (v1 : Int32) (v2 : Int32)    (s0 : Int32) (s1 : Int32) (s2 : Int32) (μ1 : hm_M) (hL : hm_LL ν μ1) (h : f_X10_setsAsked_J106 v1 v2 s0 s1 s2 μ1 = some μR) : hm_T (hm_LL ν) m_X10_setsAsked fr 0 0 none μR 106 [some (.ref 179), none, none] [.int s0, .int s1, .int s2, .ref 191] μ1 := by
  unfold f_X10_setsAsked_J106 at h
  refine tr_iadd (pc' := 107) (show decode cX10_setsAsked 106 = .ok (.iadd, 1) by decide +kernel) rfl ?_
  obtain ⟨μ12, eμ12, h⟩ := hm_bs h
  refine tp_sdI (pc' := 108) (show decode cX10_setsAsked 107 = .ok (.iastore, 1) by decide +kernel) rfl (la_a hL (by decide) rfl) eμ12 ?_
  replace hL := hL.same (hm_sd_s eμ12)
  refine tr_aload_n (pc' := 109) (show decode cX10_setsAsked 108 = .ok (.aload_n 0, 1) by decide +kernel) rfl rfl rfl ?_
  refine tr_getR (pc' := 112) fl_HandRingModel_59 (show decode cX10_setsAsked 109 = .ok (.getfield 59, 3) by decide +kernel) rfl (la_o hL (by decide) rfl) (la_r hL 128 rfl) ?_
  refine tr_bipush (pc' := 114) (v := (6 : Int32)) (show decode cX10_setsAsked 112 = .ok (.bipush 6, 2) by decide +kernel) rfl (by decide) ?_
  refine tr_aload_n (pc' := 115) (show decode cX10_setsAsked 114 = .ok (.aload_n 0, 1) by decide +kernel) rfl rfl rfl ?_
  refine tr_getR (pc' := 118) fl_HandRingModel_24 (show decode cX10_setsAsked 115 = .ok (.getfield 24, 3) by decide +kernel) rfl (la_o hL (by decide) rfl) (la_r hL 118 rfl) ?_
  refine tr_bipush (pc' := 120) (v := (52 : Int32)) (show decode cX10_setsAsked 118 = .ok (.bipush 52, 2) by decide +kernel) rfl (by decide) ?_
  obtain ⟨x13, ex13, h⟩ := hm_bs h
  refine tp_ldI (pc' := 121) (show decode cX10_setsAsked 120 = .ok (.iaload, 1) by decide +kernel) rfl (la_a hL (by decide) rfl) ex13 ?_
  obtain ⟨μ14, eμ14, h⟩ := hm_bs h
  refine tp_sdI (pc' := 122) (show decode cX10_setsAsked 121 = .ok (.iastore, 1) by decide +kernel) rfl (la_a hL (by decide) rfl) eμ14 ?_
  replace hL := hL.same (hm_sd_s eμ14)
  refine tr_aload_n (pc' := 123) (show decode cX10_setsAsked 122 = .ok (.aload_n 0, 1) by decide +kernel) rfl rfl rfl ?_
  refine tr_getR (pc' := 126) fl_HandRingModel_59 (show decode cX10_setsAsked 123 = .ok (.getfield 59, 3) by decide +kernel) rfl (la_o hL (by decide) rfl) (la_r hL 128 rfl) ?_
  refine tr_bipush (pc' := 128) (v := (7 : Int32)) (show decode cX10_setsAsked 126 = .ok (.bipush 7, 2) by decide +kernel) rfl (by decide) ?_
  refine tr_aload_n (pc' := 129) (show decode cX10_setsAsked 128 = .ok (.aload_n 0, 1) by decide +kernel) rfl rfl rfl ?_
  refine tr_getR (pc' := 132) fl_HandRingModel_24 (show decode cX10_setsAsked 129 = .ok (.getfield 24, 3) by decide +kernel) rfl (la_o hL (by decide) rfl) (la_r hL 118 rfl) ?_
  refine tr_bipush (pc' := 134) (v := (24 : Int32)) (show decode cX10_setsAsked 132 = .ok (.bipush 24, 2) by decide +kernel) rfl (by decide) ?_
  obtain ⟨x15, ex15, h⟩ := hm_bs h
  refine tp_ldI (pc' := 135) (show decode cX10_setsAsked 134 = .ok (.iaload, 1) by decide +kernel) rfl (la_a hL (by decide) rfl) ex15 ?_
  obtain ⟨μ16, eμ16, h⟩ := hm_bs h
  refine tp_sdI (pc' := 136) (show decode cX10_setsAsked 135 = .ok (.iastore, 1) by decide +kernel) rfl (la_a hL (by decide) rfl) eμ16 ?_
  replace hL := hL.same (hm_sd_s eμ16)
  cases h
  exact tr_vret rfl (show decode cX10_setsAsked 136 = .ok (.return_, 1) by decide +kernel) hL
def f_X10_setsAsked_J73 (v1 : Int32) (v2 : Int32) (s0 : Int32) (s1 : Int32) (μ1 : hm_M) : Option hm_M :=
  Option.bind (hm_sd μ1 191 8 s1 s0) fun μ9 =>
  Option.bind (hm_ld μ9 181 5665 ((8 : Int32) + v1)) fun x10 =>
  (if v2 = (-1 : Int32) then
  f_X10_setsAsked_J106 v1 v2 (0 : Int32) x10 (5 : Int32) μ9
  else
  Option.bind (hm_ld μ9 181 5665 ((8 : Int32) + v2)) fun x11 =>
  f_X10_setsAsked_J106 v1 v2 x11 x10 (5 : Int32) μ9)
theorem ok_X10_setsAsked_J73 {fr : Nat} (hfr : 2 ≤ fr) {ν : hm_N} {μR : hm_M}  (v1 : Int32) (v2 : Int32)    (s0 : Int32) (s1 : Int32) (μ1 : hm_M) (hL : hm_LL ν μ1) (h : f_X10_setsAsked_J73 v1 v2 s0 s1 μ1 = some μR) : hm_T (hm_LL ν) m_X10_setsAsked fr 0 0 none μR 73 [some (.ref 179), some (.int v1), some (.int v2)] [.int s0, .int s1, .ref 191] μ1 := by
  unfold f_X10_setsAsked_J73 at h
  obtain ⟨μ9, eμ9, h⟩ := hm_bs h
  refine tp_sdI (pc' := 74) (show decode cX10_setsAsked 73 = .ok (.iastore, 1) by decide +kernel) rfl (la_a hL (by decide) rfl) eμ9 ?_
  replace hL := hL.same (hm_sd_s eμ9)
  refine tr_aload_n (pc' := 75) (show decode cX10_setsAsked 74 = .ok (.aload_n 0, 1) by decide +kernel) rfl rfl rfl ?_
  refine tr_getR (pc' := 78) fl_HandRingModel_59 (show decode cX10_setsAsked 75 = .ok (.getfield 59, 3) by decide +kernel) rfl (la_o hL (by decide) rfl) (la_r hL 128 rfl) ?_
  refine tr_iconst (pc' := 79) (v := (5 : Int32)) (show decode cX10_setsAsked 78 = .ok (.iconst 5, 1) by decide +kernel) rfl (by decide) ?_
  refine tr_aload_n (pc' := 80) (show decode cX10_setsAsked 79 = .ok (.aload_n 0, 1) by decide +kernel) rfl rfl rfl ?_
  refine tr_getR (pc' := 83) fl_HandRingModel_24 (show decode cX10_setsAsked 80 = .ok (.getfield 24, 3) by decide +kernel) rfl (la_o hL (by decide) rfl) (la_r hL 118 rfl) ?_
  refine tr_bipush (pc' := 85) (v := (8 : Int32)) (show decode cX10_setsAsked 83 = .ok (.bipush 8, 2) by decide +kernel) rfl (by decide) ?_
  refine tr_iload_n (pc' := 86) (show decode cX10_setsAsked 85 = .ok (.iload_n 1, 1) by decide +kernel) rfl rfl rfl ?_
  refine tr_iadd (pc' := 87) (show decode cX10_setsAsked 86 = .ok (.iadd, 1) by decide +kernel) rfl ?_
  obtain ⟨x10, ex10, h⟩ := hm_bs h
  refine tp_ldI (pc' := 88) (show decode cX10_setsAsked 87 = .ok (.iaload, 1) by decide +kernel) rfl (la_a hL (by decide) rfl) ex10 ?_
  refine tr_iload_n (pc' := 89) (show decode cX10_setsAsked 88 = .ok (.iload_n 2, 1) by decide +kernel) rfl rfl rfl ?_
  refine tr_iconst (pc' := 90) (v := (-1 : Int32)) (show decode cX10_setsAsked 89 = .ok (.iconst (-1), 1) by decide +kernel) rfl (by decide) ?_
  rcases hm_is h with ⟨hc, h⟩ | ⟨hc, h⟩
  · refine tr_icmp_ne_f (tgt := 97) (pc' := 93) hc (show decode cX10_setsAsked 90 = .ok (.if_icmp .ne 7, 3) by decide +kernel) (by decide) rfl ?_
    refine tr_iconst (pc' := 94) (v := (0 : Int32)) (show decode cX10_setsAsked 93 = .ok (.iconst 0, 1) by decide +kernel) rfl (by decide) ?_
    refine tr_goto (tgt := 106) (show decode cX10_setsAsked 94 = .ok (.goto 12, 3) by decide +kernel) rfl ?_
    refine hm_fgt [true, false, false] (lv' := [some (.ref 179), none, none]) rfl ?_
    exact ok_X10_setsAsked_J106 hfr _ _ (0 : Int32) x10 (5 : Int32) μ9 hL h
  · refine tr_icmp_ne_t (tgt := 97) hc (show decode cX10_setsAsked 90 = .ok (.if_icmp .ne 7, 3) by decide +kernel) (by decide) ?_
    refine tr_aload_n (pc' := 98) (show decode cX10_setsAsked 97 = .ok (.aload_n 0, 1) by decide +kernel) rfl rfl rfl ?_
    refine tr_getR (pc' := 101) fl_HandRingModel_24 (show decode cX10_setsAsked 98 = .ok (.getfield 24, 3) by decide +kernel) rfl (la_o hL (by decide) rfl) (la_r hL 118 rfl) ?_
    refine tr_bipush (pc' := 103) (v := (8 : Int32)) (show decode cX10_setsAsked 101 = .ok (.bipush 8, 2) by decide +kernel) rfl (by decide) ?_
    refine tr_iload_n (pc' := 104) (show decode cX10_setsAsked 103 = .ok (.iload_n 2, 1) by decide +kernel) rfl rfl rfl ?_
    refine tr_iadd (pc' := 105) (show decode cX10_setsAsked 104 = .ok (.iadd, 1) by decide +kernel) rfl ?_
    obtain ⟨x11, ex11, h⟩ := hm_bs h
    refine tp_ldI (pc' := 106) (show decode cX10_setsAsked 105 = .ok (.iaload, 1) by decide +kernel) rfl (la_a hL (by decide) rfl) ex11 ?_
    refine hm_fgt [true, false, false] (lv' := [some (.ref 179), none, none]) rfl ?_
    exact ok_X10_setsAsked_J106 hfr _ _ x11 x10 (5 : Int32) μ9 hL h
def f_X10_setsAsked_J52 (v1 : Int32) (v2 : Int32) (s0 : Int32) (s1 : Int32) (μ1 : hm_M) : Option hm_M :=
  Option.bind (hm_sd μ1 191 8 s1 s0) fun μ7 =>
  (if v2 = (-1 : Int32) then
  f_X10_setsAsked_J73 v1 v2 (-1 : Int32) (4 : Int32) μ7
  else
  Option.bind (f_X10_farOf v1 v2 μ7) fun x8 =>
  f_X10_setsAsked_J73 v1 v2 x8 (4 : Int32) μ7)
theorem ok_X10_setsAsked_J52 {fr : Nat} (hfr : 2 ≤ fr) {ν : hm_N} {μR : hm_M}  (v1 : Int32) (v2 : Int32)    (s0 : Int32) (s1 : Int32) (μ1 : hm_M) (hL : hm_LL ν μ1) (h : f_X10_setsAsked_J52 v1 v2 s0 s1 μ1 = some μR) : hm_T (hm_LL ν) m_X10_setsAsked fr 0 0 none μR 52 [some (.ref 179), some (.int v1), some (.int v2)] [.int s0, .int s1, .ref 191] μ1 := by
  unfold f_X10_setsAsked_J52 at h
  obtain ⟨μ7, eμ7, h⟩ := hm_bs h
  refine tp_sdI (pc' := 53) (show decode cX10_setsAsked 52 = .ok (.iastore, 1) by decide +kernel) rfl (la_a hL (by decide) rfl) eμ7 ?_
  replace hL := hL.same (hm_sd_s eμ7)
  refine tr_aload_n (pc' := 54) (show decode cX10_setsAsked 53 = .ok (.aload_n 0, 1) by decide +kernel) rfl rfl rfl ?_
  refine tr_getR (pc' := 57) fl_HandRingModel_59 (show decode cX10_setsAsked 54 = .ok (.getfield 59, 3) by decide +kernel) rfl (la_o hL (by decide) rfl) (la_r hL 128 rfl) ?_
  refine tr_iconst (pc' := 58) (v := (4 : Int32)) (show decode cX10_setsAsked 57 = .ok (.iconst 4, 1) by decide +kernel) rfl (by decide) ?_
  refine tr_iload_n (pc' := 59) (show decode cX10_setsAsked 58 = .ok (.iload_n 2, 1) by decide +kernel) rfl rfl rfl ?_
  refine tr_iconst (pc' := 60) (v := (-1 : Int32)) (show decode cX10_setsAsked 59 = .ok (.iconst (-1), 1) by decide +kernel) rfl (by decide) ?_
  rcases hm_is h with ⟨hc, h⟩ | ⟨hc, h⟩
  · refine tr_icmp_ne_f (tgt := 67) (pc' := 63) hc (show decode cX10_setsAsked 60 = .ok (.if_icmp .ne 7, 3) by decide +kernel) (by decide) rfl ?_
    refine tr_iconst (pc' := 64) (v := (-1 : Int32)) (show decode cX10_setsAsked 63 = .ok (.iconst (-1), 1) by decide +kernel) rfl (by decide) ?_
    refine tr_goto (tgt := 73) (show decode cX10_setsAsked 64 = .ok (.goto 9, 3) by decide +kernel) rfl ?_
    exact ok_X10_setsAsked_J73 hfr _ _ (-1 : Int32) (4 : Int32) μ7 hL h
  · refine tr_icmp_ne_t (tgt := 67) hc (show decode cX10_setsAsked 60 = .ok (.if_icmp .ne 7, 3) by decide +kernel) (by decide) ?_
    refine tr_aload_n (pc' := 68) (show decode cX10_setsAsked 67 = .ok (.aload_n 0, 1) by decide +kernel) rfl rfl rfl ?_
    refine tr_iload_n (pc' := 69) (show decode cX10_setsAsked 68 = .ok (.iload_n 1, 1) by decide +kernel) rfl rfl rfl ?_
    refine tr_iload_n (pc' := 70) (show decode cX10_setsAsked 69 = .ok (.iload_n 2, 1) by decide +kernel) rfl rfl rfl ?_
    obtain ⟨x8, ex8, h⟩ := hm_bs h
    have cx8 := ok_X10_farOf (fr := fr - 1) (ν := ν) (by omega) v1 v2 μ7 hL ex8
    refine tp_callV (pc' := 73) (As := [.int v1, .int v2]) (fr1 := fr - 1) (ci := 10) okm_X10_farOf lk_HandRingModel_147 (show decode cX10_setsAsked 70 = .ok (.invokevirtual 147, 3) by decide +kernel) rfl rfl rfl (by decide) (la_o hL (by decide) rfl) rfl rfl (Nat.le_of_ble_eq_true rfl) (by omega) cx8 (st' := [.int x8, .int (4 : Int32), .ref 191]) rfl ?_
    exact ok_X10_setsAsked_J73 hfr _ _ x8 (4 : Int32) μ7 hL h
def f_X10_setsAsked (v1 : Int32) (v2 : Int32) (μ : hm_M) : Option hm_M :=
  Option.bind (hm_sd μ 191 8 (0 : Int32) v1) fun μ2 =>
  Option.bind (hm_sd μ2 191 8 (1 : Int32) v2) fun μ3 =>
  Option.bind (hm_ld μ3 181 5665 ((25 : Int32) + v1)) fun x4 =>
  Option.bind (hm_sd μ3 191 8 (2 : Int32) x4) fun μ5 =>
  (if v2 = (-1 : Int32) then
  f_X10_setsAsked_J52 v1 v2 (-1 : Int32) (3 : Int32) μ5
  else
  Option.bind (hm_ld μ5 181 5665 ((25 : Int32) + v2)) fun x6 =>
  f_X10_setsAsked_J52 v1 v2 x6 (3 : Int32) μ5)
set_option maxRecDepth 100000 in
theorem ok_X10_setsAsked {fr : Nat} (hfr : 2 ≤ fr) {ν : hm_N} {μR : hm_M}  (v1 : Int32) (v2 : Int32)  (μ : hm_M) (hL : hm_LL ν μ) (h : f_X10_setsAsked v1 v2 μ = some μR) : hm_CC (hm_LL ν) m_X10_setsAsked fr 0 0 [.ref 179, .int v1, .int v2] μ none μR := by
  refine hm_enter (lv := [some (.ref 179), some (.int v1), some (.int v2)]) (by decide) rfl (Nat.le_of_ble_eq_true rfl) ?_
  unfold f_X10_setsAsked at h
  refine tr_aload_n (pc' := 1) (show decode cX10_setsAsked 0 = .ok (.aload_n 0, 1) by decide +kernel) rfl rfl rfl ?_
  refine tr_getR (pc' := 4) fl_HandRingModel_59 (show decode cX10_setsAsked 1 = .ok (.getfield 59, 3) by decide +kernel) rfl (la_o hL (by decide) rfl) (la_r hL 128 rfl) ?_
  refine tr_iconst (pc' := 5) (v := (0 : Int32)) (show decode cX10_setsAsked 4 = .ok (.iconst 0, 1) by decide +kernel) rfl (by decide) ?_
  refine tr_iload_n (pc' := 6) (show decode cX10_setsAsked 5 = .ok (.iload_n 1, 1) by decide +kernel) rfl rfl rfl ?_
  obtain ⟨μ2, eμ2, h⟩ := hm_bs h
  refine tp_sdI (pc' := 7) (show decode cX10_setsAsked 6 = .ok (.iastore, 1) by decide +kernel) rfl (la_a hL (by decide) rfl) eμ2 ?_
  replace hL := hL.same (hm_sd_s eμ2)
  refine tr_aload_n (pc' := 8) (show decode cX10_setsAsked 7 = .ok (.aload_n 0, 1) by decide +kernel) rfl rfl rfl ?_
  refine tr_getR (pc' := 11) fl_HandRingModel_59 (show decode cX10_setsAsked 8 = .ok (.getfield 59, 3) by decide +kernel) rfl (la_o hL (by decide) rfl) (la_r hL 128 rfl) ?_
  refine tr_iconst (pc' := 12) (v := (1 : Int32)) (show decode cX10_setsAsked 11 = .ok (.iconst 1, 1) by decide +kernel) rfl (by decide) ?_
  refine tr_iload_n (pc' := 13) (show decode cX10_setsAsked 12 = .ok (.iload_n 2, 1) by decide +kernel) rfl rfl rfl ?_
  obtain ⟨μ3, eμ3, h⟩ := hm_bs h
  refine tp_sdI (pc' := 14) (show decode cX10_setsAsked 13 = .ok (.iastore, 1) by decide +kernel) rfl (la_a hL (by decide) rfl) eμ3 ?_
  replace hL := hL.same (hm_sd_s eμ3)
  refine tr_aload_n (pc' := 15) (show decode cX10_setsAsked 14 = .ok (.aload_n 0, 1) by decide +kernel) rfl rfl rfl ?_
  refine tr_getR (pc' := 18) fl_HandRingModel_59 (show decode cX10_setsAsked 15 = .ok (.getfield 59, 3) by decide +kernel) rfl (la_o hL (by decide) rfl) (la_r hL 128 rfl) ?_
  refine tr_iconst (pc' := 19) (v := (2 : Int32)) (show decode cX10_setsAsked 18 = .ok (.iconst 2, 1) by decide +kernel) rfl (by decide) ?_
  refine tr_aload_n (pc' := 20) (show decode cX10_setsAsked 19 = .ok (.aload_n 0, 1) by decide +kernel) rfl rfl rfl ?_
  refine tr_getR (pc' := 23) fl_HandRingModel_24 (show decode cX10_setsAsked 20 = .ok (.getfield 24, 3) by decide +kernel) rfl (la_o hL (by decide) rfl) (la_r hL 118 rfl) ?_
  refine tr_bipush (pc' := 25) (v := (25 : Int32)) (show decode cX10_setsAsked 23 = .ok (.bipush 25, 2) by decide +kernel) rfl (by decide) ?_
  refine tr_iload_n (pc' := 26) (show decode cX10_setsAsked 25 = .ok (.iload_n 1, 1) by decide +kernel) rfl rfl rfl ?_
  refine tr_iadd (pc' := 27) (show decode cX10_setsAsked 26 = .ok (.iadd, 1) by decide +kernel) rfl ?_
  obtain ⟨x4, ex4, h⟩ := hm_bs h
  refine tp_ldI (pc' := 28) (show decode cX10_setsAsked 27 = .ok (.iaload, 1) by decide +kernel) rfl (la_a hL (by decide) rfl) ex4 ?_
  obtain ⟨μ5, eμ5, h⟩ := hm_bs h
  refine tp_sdI (pc' := 29) (show decode cX10_setsAsked 28 = .ok (.iastore, 1) by decide +kernel) rfl (la_a hL (by decide) rfl) eμ5 ?_
  replace hL := hL.same (hm_sd_s eμ5)
  refine tr_aload_n (pc' := 30) (show decode cX10_setsAsked 29 = .ok (.aload_n 0, 1) by decide +kernel) rfl rfl rfl ?_
  refine tr_getR (pc' := 33) fl_HandRingModel_59 (show decode cX10_setsAsked 30 = .ok (.getfield 59, 3) by decide +kernel) rfl (la_o hL (by decide) rfl) (la_r hL 128 rfl) ?_
  refine tr_iconst (pc' := 34) (v := (3 : Int32)) (show decode cX10_setsAsked 33 = .ok (.iconst 3, 1) by decide +kernel) rfl (by decide) ?_
  refine tr_iload_n (pc' := 35) (show decode cX10_setsAsked 34 = .ok (.iload_n 2, 1) by decide +kernel) rfl rfl rfl ?_
  refine tr_iconst (pc' := 36) (v := (-1 : Int32)) (show decode cX10_setsAsked 35 = .ok (.iconst (-1), 1) by decide +kernel) rfl (by decide) ?_
  rcases hm_is h with ⟨hc, h⟩ | ⟨hc, h⟩
  · refine tr_icmp_ne_f (tgt := 43) (pc' := 39) hc (show decode cX10_setsAsked 36 = .ok (.if_icmp .ne 7, 3) by decide +kernel) (by decide) rfl ?_
    refine tr_iconst (pc' := 40) (v := (-1 : Int32)) (show decode cX10_setsAsked 39 = .ok (.iconst (-1), 1) by decide +kernel) rfl (by decide) ?_
    refine tr_goto (tgt := 52) (show decode cX10_setsAsked 40 = .ok (.goto 12, 3) by decide +kernel) rfl ?_
    exact ok_X10_setsAsked_J52 hfr _ _ (-1 : Int32) (3 : Int32) μ5 hL h
  · refine tr_icmp_ne_t (tgt := 43) hc (show decode cX10_setsAsked 36 = .ok (.if_icmp .ne 7, 3) by decide +kernel) (by decide) ?_
    refine tr_aload_n (pc' := 44) (show decode cX10_setsAsked 43 = .ok (.aload_n 0, 1) by decide +kernel) rfl rfl rfl ?_
    refine tr_getR (pc' := 47) fl_HandRingModel_24 (show decode cX10_setsAsked 44 = .ok (.getfield 24, 3) by decide +kernel) rfl (la_o hL (by decide) rfl) (la_r hL 118 rfl) ?_
    refine tr_bipush (pc' := 49) (v := (25 : Int32)) (show decode cX10_setsAsked 47 = .ok (.bipush 25, 2) by decide +kernel) rfl (by decide) ?_
    refine tr_iload_n (pc' := 50) (show decode cX10_setsAsked 49 = .ok (.iload_n 2, 1) by decide +kernel) rfl rfl rfl ?_
    refine tr_iadd (pc' := 51) (show decode cX10_setsAsked 50 = .ok (.iadd, 1) by decide +kernel) rfl ?_
    obtain ⟨x6, ex6, h⟩ := hm_bs h
    refine tp_ldI (pc' := 52) (show decode cX10_setsAsked 51 = .ok (.iaload, 1) by decide +kernel) rfl (la_a hL (by decide) rfl) ex6 ?_
    exact ok_X10_setsAsked_J52 hfr _ _ x6 (3 : Int32) μ5 hL h
def f_X10_codeAt (v1 : Int32) (μ : hm_M) : Option Int32 :=
  (if (μ.1 179 23) ≤ v1 then
  some (0 : Int32)
  else
  Option.bind (hm_ld μ 181 5665 ((65 : Int32) + v1)) fun x2 =>
  some x2)
set_option maxRecDepth 100000 in
theorem ok_X10_codeAt {fr : Nat} (hfr : 0 ≤ fr) {ν : hm_N} {r : Int32}  (v1 : Int32)  (μ : hm_M) (hL : hm_LL ν μ) (h : f_X10_codeAt v1 μ = some r) : hm_CC (hm_LL ν) m_X10_codeAt fr 0 0 [.ref 179, .int v1] μ (some (.int r)) μ := by
  refine hm_enter (lv := [some (.ref 179), some (.int v1)]) (by decide) rfl (Nat.le_of_ble_eq_true rfl) ?_
  unfold f_X10_codeAt at h
  refine tr_iload_n (pc' := 1) (show decode cX10_codeAt 0 = .ok (.iload_n 1, 1) by decide +kernel) rfl rfl rfl ?_
  refine tr_aload_n (pc' := 2) (show decode cX10_codeAt 1 = .ok (.aload_n 0, 1) by decide +kernel) rfl rfl rfl ?_
  refine tr_getI (pc' := 5) fl_HandRingModel_271 (show decode cX10_codeAt 2 = .ok (.getfield 271, 3) by decide +kernel) rfl (la_o hL (by decide) rfl) ?_
  rcases hm_is h with ⟨hc, h⟩ | ⟨hc, h⟩
  · refine tr_icmp_ge_t (tgt := 20) hc (show decode cX10_codeAt 5 = .ok (.if_icmp .ge 15, 3) by decide +kernel) (by decide) ?_
    refine tr_iconst (pc' := 21) (v := (0 : Int32)) (show decode cX10_codeAt 20 = .ok (.iconst 0, 1) by decide +kernel) rfl (by decide) ?_
    cases h
    exact tr_iret rfl (show decode cX10_codeAt 21 = .ok (.ireturn, 1) by decide +kernel) hL
  · refine tr_icmp_ge_f (tgt := 20) (pc' := 8) hc (show decode cX10_codeAt 5 = .ok (.if_icmp .ge 15, 3) by decide +kernel) (by decide) rfl ?_
    refine tr_aload_n (pc' := 9) (show decode cX10_codeAt 8 = .ok (.aload_n 0, 1) by decide +kernel) rfl rfl rfl ?_
    refine tr_getR (pc' := 12) fl_HandRingModel_24 (show decode cX10_codeAt 9 = .ok (.getfield 24, 3) by decide +kernel) rfl (la_o hL (by decide) rfl) (la_r hL 118 rfl) ?_
    refine tr_bipush (pc' := 14) (v := (65 : Int32)) (show decode cX10_codeAt 12 = .ok (.bipush 65, 2) by decide +kernel) rfl (by decide) ?_
    refine tr_iload_n (pc' := 15) (show decode cX10_codeAt 14 = .ok (.iload_n 1, 1) by decide +kernel) rfl rfl rfl ?_
    refine tr_iadd (pc' := 16) (show decode cX10_codeAt 15 = .ok (.iadd, 1) by decide +kernel) rfl ?_
    obtain ⟨x2, ex2, h⟩ := hm_bs h
    refine tp_ldI (pc' := 17) (show decode cX10_codeAt 16 = .ok (.iaload, 1) by decide +kernel) rfl (la_a hL (by decide) rfl) ex2 ?_
    refine tr_goto (tgt := 21) (show decode cX10_codeAt 17 = .ok (.goto 4, 3) by decide +kernel) rfl ?_
    cases h
    exact tr_iret rfl (show decode cX10_codeAt 21 = .ok (.ireturn, 1) by decide +kernel) hL
def f_X10_sign (v0 : Int32) : Option Int32 :=
  some ((100 : Int32) + v0)
set_option maxRecDepth 100000 in
theorem ok_X10_sign {fr : Nat} (hfr : 0 ≤ fr) {ν : hm_N} {r : Int32}  (v0 : Int32)  (μ : hm_M) (hL : hm_LL ν μ) (h : f_X10_sign v0 = some r) : hm_CC (hm_LL ν) m_X10_sign fr 0 0 [.int v0] μ (some (.int r)) μ := by
  refine hm_enter (lv := [some (.int v0)]) (by decide) rfl (Nat.le_of_ble_eq_true rfl) ?_
  unfold f_X10_sign at h
  refine tr_bipush (pc' := 2) (v := (100 : Int32)) (show decode cX10_sign 0 = .ok (.bipush 100, 2) by decide +kernel) rfl (by decide) ?_
  refine tr_iload_n (pc' := 3) (show decode cX10_sign 2 = .ok (.iload_n 0, 1) by decide +kernel) rfl rfl rfl ?_
  refine tr_iadd (pc' := 4) (show decode cX10_sign 3 = .ok (.iadd, 1) by decide +kernel) rfl ?_
  cases h
  exact tr_iret rfl (show decode cX10_sign 4 = .ok (.ireturn, 1) by decide +kernel) hL
def f_X10_passes0_J17 (v1 : Int32) (s0 : Int32) (μ1 : hm_M) : Option (Int32 × hm_M) :=
  (if s0 = 0 then
  Option.bind (hm_rz s0) fun x3 => some (x3, μ1)
  else
  Option.bind (hm_pI μ1 179 22 ((μ1.1 179 22) + (1 : Int32))) fun μ4 =>
  Option.bind (hm_rz s0) fun x5 => some (x5, μ4))
theorem ok_X10_passes0_J17 {fr : Nat} (hfr : 1 ≤ fr) {ν : hm_N} {r : Int32} {μR : hm_M}  (v1 : Int32)    (s0 : Int32) (μ1 : hm_M) (hL : hm_LL ν μ1) (h : f_X10_passes0_J17 v1 s0 μ1 = some (r, μR)) : hm_T (hm_LL ν) m_X10_passes0 fr 0 0 (some (.int r)) μR 17 [some (.ref 179), none, none] [.int s0] μ1 := by
  unfold f_X10_passes0_J17 at h
  refine tr_istore_n (pc' := 18) (lv' := [some (.ref 179), none, some (.int s0)]) (show decode cX10_passes0 17 = .ok (.istore_n 2, 1) by decide +kernel) rfl rfl (Nat.le_of_ble_eq_true rfl) rfl rfl ?_
  refine tr_iload_n (pc' := 19) (show decode cX10_passes0 18 = .ok (.iload_n 2, 1) by decide +kernel) rfl rfl rfl ?_
  rcases hm_is h with ⟨hc, h⟩ | ⟨hc, h⟩
  · refine tr_if_eq_t (tgt := 32) hc (show decode cX10_passes0 19 = .ok (.ifCond .eq 13, 3) by decide +kernel) (by decide) ?_
    refine tr_iload_n (pc' := 33) (show decode cX10_passes0 32 = .ok (.iload_n 2, 1) by decide +kernel) rfl rfl rfl ?_
    obtain ⟨x3, ex3, h⟩ := hm_bs h
    cases h
    exact tp_zret rfl (show decode cX10_passes0 33 = .ok (.ireturn, 1) by decide +kernel) ex3 hL
  · refine tr_if_eq_f (tgt := 32) (pc' := 22) hc (show decode cX10_passes0 19 = .ok (.ifCond .eq 13, 3) by decide +kernel) (by decide) rfl ?_
    refine tr_aload_n (pc' := 23) (show decode cX10_passes0 22 = .ok (.aload_n 0, 1) by decide +kernel) rfl rfl rfl ?_
    refine tr_dup (pc' := 24) (show decode cX10_passes0 23 = .ok (.dup, 1) by decide +kernel) rfl rfl ?_
    refine tr_getI (pc' := 27) fl_HandRingModel_274 (show decode cX10_passes0 24 = .ok (.getfield 274, 3) by decide +kernel) rfl (la_o hL (by decide) rfl) ?_
    refine tr_iconst (pc' := 28) (v := (1 : Int32)) (show decode cX10_passes0 27 = .ok (.iconst 1, 1) by decide +kernel) rfl (by decide) ?_
    refine tr_iadd (pc' := 29) (show decode cX10_passes0 28 = .ok (.iadd, 1) by decide +kernel) rfl ?_
    obtain ⟨μ4, eμ4, h⟩ := hm_bs h
    refine tp_pI (pc' := 32) fl_HandRingModel_274 (show decode cX10_passes0 29 = .ok (.putfield 274, 3) by decide +kernel) rfl (la_o hL (by decide) rfl) eμ4 ?_
    replace hL := hL.same (hm_pI_s eμ4)
    refine tr_iload_n (pc' := 33) (show decode cX10_passes0 32 = .ok (.iload_n 2, 1) by decide +kernel) rfl rfl rfl ?_
    obtain ⟨x5, ex5, h⟩ := hm_bs h
    cases h
    exact tp_zret rfl (show decode cX10_passes0 33 = .ok (.ireturn, 1) by decide +kernel) ex5 hL
def f_X10_passes0 (v1 : Int32) (μ : hm_M) : Option (Int32 × hm_M) :=
  Option.bind (f_X10_codeAt (μ.1 179 22) μ) fun x2 =>
  (if x2 = v1 then
  f_X10_passes0_J17 v1 (1 : Int32) μ
  else
  f_X10_passes0_J17 v1 (0 : Int32) μ)
set_option maxRecDepth 100000 in
theorem ok_X10_passes0 {fr : Nat} (hfr : 1 ≤ fr) {ν : hm_N} {r : Int32} {μR : hm_M}  (v1 : Int32)  (μ : hm_M) (hL : hm_LL ν μ) (h : f_X10_passes0 v1 μ = some (r, μR)) : hm_CC (hm_LL ν) m_X10_passes0 fr 0 0 [.ref 179, .int v1] μ (some (.int r)) μR := by
  refine hm_enter (lv := [some (.ref 179), some (.int v1), none]) (by decide) rfl (Nat.le_of_ble_eq_true rfl) ?_
  unfold f_X10_passes0 at h
  refine tr_aload_n (pc' := 1) (show decode cX10_passes0 0 = .ok (.aload_n 0, 1) by decide +kernel) rfl rfl rfl ?_
  refine tr_aload_n (pc' := 2) (show decode cX10_passes0 1 = .ok (.aload_n 0, 1) by decide +kernel) rfl rfl rfl ?_
  refine tr_getI (pc' := 5) fl_HandRingModel_274 (show decode cX10_passes0 2 = .ok (.getfield 274, 3) by decide +kernel) rfl (la_o hL (by decide) rfl) ?_
  obtain ⟨x2, ex2, h⟩ := hm_bs h
  have cx2 := ok_X10_codeAt (fr := fr - 1) (ν := ν) (by omega) (μ.1 179 22) μ hL ex2
  refine tp_callV (pc' := 8) (As := [.int (μ.1 179 22)]) (fr1 := fr - 1) (ci := 10) okm_X10_codeAt lk_HandRingModel_277 (show decode cX10_passes0 5 = .ok (.invokevirtual 277, 3) by decide +kernel) rfl rfl rfl (by decide) (la_o hL (by decide) rfl) rfl rfl (Nat.le_of_ble_eq_true rfl) (by omega) cx2 (st' := [.int x2]) rfl ?_
  refine tr_iload_n (pc' := 9) (show decode cX10_passes0 8 = .ok (.iload_n 1, 1) by decide +kernel) rfl rfl rfl ?_
  rcases hm_is h with ⟨hc, h⟩ | ⟨hc, h⟩
  · refine tr_icmp_ne_f (tgt := 16) (pc' := 12) hc (show decode cX10_passes0 9 = .ok (.if_icmp .ne 7, 3) by decide +kernel) (by decide) rfl ?_
    refine tr_iconst (pc' := 13) (v := (1 : Int32)) (show decode cX10_passes0 12 = .ok (.iconst 1, 1) by decide +kernel) rfl (by decide) ?_
    refine tr_goto (tgt := 17) (show decode cX10_passes0 13 = .ok (.goto 4, 3) by decide +kernel) rfl ?_
    refine hm_fgt [true, false, false] (lv' := [some (.ref 179), none, none]) rfl ?_
    exact ok_X10_passes0_J17 hfr _ (1 : Int32) μ hL h
  · refine tr_icmp_ne_t (tgt := 16) hc (show decode cX10_passes0 9 = .ok (.if_icmp .ne 7, 3) by decide +kernel) (by decide) ?_
    refine tr_iconst (pc' := 17) (v := (0 : Int32)) (show decode cX10_passes0 16 = .ok (.iconst 0, 1) by decide +kernel) rfl (by decide) ?_
    refine hm_fgt [true, false, false] (lv' := [some (.ref 179), none, none]) rfl ?_
    exact ok_X10_passes0_J17 hfr _ (0 : Int32) μ hL h
def f_X10_holdMany_L4 (e33 : Int32 → hm_M → Option Int32) : Nat → Int32 → Int32 → hm_M → Option Int32
  | 0, _, _, _ => none
  | n + 1, y1, y2, μ1 => Option.bind (f_X10_many μ1) fun x2 =>
  (if x2 ≤ y2 then
  e33 y1 μ1
  else
  Option.bind (hm_ld μ1 181 5665 ((16 : Int32) + y2)) fun x3 =>
  Option.bind (f_X10_ones x3) fun x4 =>
  (f_X10_holdMany_L4 e33 n) (y1 + x4) (y2 + (1 : Int32)) μ1)
theorem ok_X10_holdMany_L4 {fr : Nat} (hfr : 1 ≤ fr) {ν : hm_N} {r : Int32}   (e33 : Int32 → hm_M → Option Int32)  (he33 : ∀ (y1 : Int32)  (μ1 : hm_M), hm_LL ν μ1 → e33 y1 μ1 = some r → hm_T (hm_LL ν) m_X10_holdMany fr 0 0 (some (.int r)) μ1 33 [none, some (.int y1), none] [] μ1)  : ∀ (n : Nat) (y1 : Int32) (y2 : Int32)  (μ1 : hm_M), hm_LL ν μ1 → f_X10_holdMany_L4 e33 n y1 y2 μ1 = some r → hm_T (hm_LL ν) m_X10_holdMany fr 0 0 (some (.int r)) μ1 4 [some (.ref 179), some (.int y1), some (.int y2)] [] μ1 := by
  intro n
  induction n with
  | zero =>
    intro y1 y2 μ1 hL h
    unfold f_X10_holdMany_L4 at h
    cases h
  | succ n ih =>
    intro y1 y2 μ1 hL h
    unfold f_X10_holdMany_L4 at h
    refine tr_iload_n (pc' := 5) (show decode cX10_holdMany 4 = .ok (.iload_n 2, 1) by decide +kernel) rfl rfl rfl ?_
    refine tr_aload_n (pc' := 6) (show decode cX10_holdMany 5 = .ok (.aload_n 0, 1) by decide +kernel) rfl rfl rfl ?_
    obtain ⟨x2, ex2, h⟩ := hm_bs h
    have cx2 := ok_X10_many (fr := fr - 1) (ν := ν) (by omega) μ1 hL ex2
    refine tp_callV (pc' := 9) (As := []) (fr1 := fr - 1) (ci := 10) okm_X10_many lk_HandRingModel_118 (show decode cX10_holdMany 6 = .ok (.invokevirtual 118, 3) by decide +kernel) rfl rfl rfl (by decide) (la_o hL (by decide) rfl) rfl rfl (Nat.le_of_ble_eq_true rfl) (by omega) cx2 (st' := [.int x2, .int y2]) rfl ?_
    rcases hm_is h with ⟨hc, h⟩ | ⟨hc, h⟩
    · refine tr_icmp_ge_t (tgt := 33) hc (show decode cX10_holdMany 9 = .ok (.if_icmp .ge 24, 3) by decide +kernel) (by decide) ?_
      refine hm_fgt [false, true, false] (lv' := [none, some (.int y1), none]) rfl ?_
      exact he33 y1 μ1 hL h
    · refine tr_icmp_ge_f (tgt := 33) (pc' := 12) hc (show decode cX10_holdMany 9 = .ok (.if_icmp .ge 24, 3) by decide +kernel) (by decide) rfl ?_
      refine tr_iload_n (pc' := 13) (show decode cX10_holdMany 12 = .ok (.iload_n 1, 1) by decide +kernel) rfl rfl rfl ?_
      refine tr_aload_n (pc' := 14) (show decode cX10_holdMany 13 = .ok (.aload_n 0, 1) by decide +kernel) rfl rfl rfl ?_
      refine tr_getR (pc' := 17) fl_HandRingModel_24 (show decode cX10_holdMany 14 = .ok (.getfield 24, 3) by decide +kernel) rfl (la_o hL (by decide) rfl) (la_r hL 118 rfl) ?_
      refine tr_bipush (pc' := 19) (v := (16 : Int32)) (show decode cX10_holdMany 17 = .ok (.bipush 16, 2) by decide +kernel) rfl (by decide) ?_
      refine tr_iload_n (pc' := 20) (show decode cX10_holdMany 19 = .ok (.iload_n 2, 1) by decide +kernel) rfl rfl rfl ?_
      refine tr_iadd (pc' := 21) (show decode cX10_holdMany 20 = .ok (.iadd, 1) by decide +kernel) rfl ?_
      obtain ⟨x3, ex3, h⟩ := hm_bs h
      refine tp_ldI (pc' := 22) (show decode cX10_holdMany 21 = .ok (.iaload, 1) by decide +kernel) rfl (la_a hL (by decide) rfl) ex3 ?_
      obtain ⟨x4, ex4, h⟩ := hm_bs h
      have cx4 := ok_X10_ones (fr := fr - 1) (ν := ν) (by omega) x3 μ1 hL ex4
      refine tp_callS (pc' := 25) (As := [.int x3]) (fr1 := fr - 1) okm_X10_ones lk_HandRingModel_310 (show decode cX10_holdMany 22 = .ok (.invokestatic 310, 3) by decide +kernel) rfl rfl rfl (Nat.le_of_ble_eq_true rfl) (by omega) cx4 (st' := [.int x4, .int y1]) rfl ?_
      refine tr_iadd (pc' := 26) (show decode cX10_holdMany 25 = .ok (.iadd, 1) by decide +kernel) rfl ?_
      refine tr_istore_n (pc' := 27) (lv' := [some (.ref 179), some (.int (y1 + x4)), some (.int y2)]) (show decode cX10_holdMany 26 = .ok (.istore_n 1, 1) by decide +kernel) rfl rfl (Nat.le_of_ble_eq_true rfl) rfl rfl ?_
      refine tr_iinc (pc' := 30) (v := y2 + (1 : Int32)) (lv' := [some (.ref 179), some (.int (y1 + x4)), some (.int (y2 + (1 : Int32)))]) (show decode cX10_holdMany 27 = .ok (.iinc 2 1, 3) by decide +kernel) rfl rfl rfl (Nat.le_of_ble_eq_true rfl) rfl rfl ?_
      refine tr_goto (tgt := 4) (show decode cX10_holdMany 30 = .ok (.goto (-26), 3) by decide +kernel) rfl ?_
      exact ih (y1 + x4) (y2 + (1 : Int32)) μ1 hL h
def f_X10_holdMany (μ : hm_M) : Option Int32 :=
  f_X10_holdMany_L4 (fun z5_1 μz5 => some (z5_1 / (2 : Int32))) hm_fu (0 : Int32) (0 : Int32) μ
set_option maxRecDepth 100000 in
theorem ok_X10_holdMany {fr : Nat} (hfr : 1 ≤ fr) {ν : hm_N} {r : Int32}    (μ : hm_M) (hL : hm_LL ν μ) (h : f_X10_holdMany μ = some r) : hm_CC (hm_LL ν) m_X10_holdMany fr 0 0 [.ref 179] μ (some (.int r)) μ := by
  refine hm_enter (lv := [some (.ref 179), none, none]) (by decide) rfl (Nat.le_of_ble_eq_true rfl) ?_
  unfold f_X10_holdMany at h
  refine tr_iconst (pc' := 1) (v := (0 : Int32)) (show decode cX10_holdMany 0 = .ok (.iconst 0, 1) by decide +kernel) rfl (by decide) ?_
  refine tr_istore_n (pc' := 2) (lv' := [some (.ref 179), some (.int (0 : Int32)), none]) (show decode cX10_holdMany 1 = .ok (.istore_n 1, 1) by decide +kernel) rfl rfl (Nat.le_of_ble_eq_true rfl) rfl rfl ?_
  refine tr_iconst (pc' := 3) (v := (0 : Int32)) (show decode cX10_holdMany 2 = .ok (.iconst 0, 1) by decide +kernel) rfl (by decide) ?_
  refine tr_istore_n (pc' := 4) (lv' := [some (.ref 179), some (.int (0 : Int32)), some (.int (0 : Int32))]) (show decode cX10_holdMany 3 = .ok (.istore_n 2, 1) by decide +kernel) rfl rfl (Nat.le_of_ble_eq_true rfl) rfl rfl ?_
  refine ok_X10_holdMany_L4 hfr _ ?_ _ (0 : Int32) (0 : Int32) μ hL h
  · intro z5_1 μz5 hL h
    refine tr_iload_n (pc' := 34) (show decode cX10_holdMany 33 = .ok (.iload_n 1, 1) by decide +kernel) rfl rfl rfl ?_
    refine tr_iconst (pc' := 35) (v := (2 : Int32)) (show decode cX10_holdMany 34 = .ok (.iconst 2, 1) by decide +kernel) rfl (by decide) ?_
    refine tr_idiv (pc' := 36) (show decode cX10_holdMany 35 = .ok (.idiv, 1) by decide +kernel) rfl (by decide) ?_
    cases h
    exact tr_iret rfl (show decode cX10_holdMany 36 = .ok (.ireturn, 1) by decide +kernel) hL
def f_X10_orderValue (v1 : Int32) (v2 : Int32) (μ : hm_M) : Option Int32 :=
  (if v1 < (15 : Int32) ∨ (21 : Int32) < v1 then
  some (μ.1 179 29)
  else
  (if v1 = (15 : Int32) then
  Option.bind (hm_ld μ 181 5665 (24 : Int32)) fun x8 =>
  some x8
  else
  (if v1 = (16 : Int32) then
  some (μ.1 179 27)
  else
  (if v1 = (17 : Int32) then
  some (μ.1 179 28)
  else
  (if v1 = (18 : Int32) then
  Option.bind (f_X10_holdMany μ) fun x7 =>
  some x7
  else
  (if v1 = (19 : Int32) then
  some (μ.1 179 29)
  else
  (if v1 = (20 : Int32) then
  Option.bind (f_X10_isPerson v2 μ) fun x5 =>
  (if x5 = 0 then
  some (-1 : Int32)
  else
  Option.bind (hm_ld μ 181 5665 ((0 : Int32) + v2)) fun x6 =>
  some x6)
  else
  (if v1 = (21 : Int32) then
  Option.bind (f_X10_isPerson v2 μ) fun x2 =>
  (if x2 = 0 then
  some (-1 : Int32)
  else
  Option.bind (hm_ld μ 181 5665 ((16 : Int32) + v2)) fun x3 =>
  Option.bind (f_X10_ones x3) fun x4 =>
  some x4)
  else
  none))))))))
set_option maxRecDepth 100000 in
theorem ok_X10_orderValue {fr : Nat} (hfr : 2 ≤ fr) {ν : hm_N} {r : Int32}  (v1 : Int32) (v2 : Int32)  (μ : hm_M) (hL : hm_LL ν μ) (h : f_X10_orderValue v1 v2 μ = some r) : hm_CC (hm_LL ν) m_X10_orderValue fr 0 0 [.ref 179, .int v1, .int v2] μ (some (.int r)) μ := by
  refine hm_enter (lv := [some (.ref 179), some (.int v1), some (.int v2)]) (by decide) rfl (Nat.le_of_ble_eq_true rfl) ?_
  unfold f_X10_orderValue at h
  refine tr_iload_n (pc' := 1) (show decode cX10_orderValue 0 = .ok (.iload_n 1, 1) by decide +kernel) rfl rfl rfl ?_
  rcases hm_is h with ⟨hc, h⟩ | ⟨-, h⟩
  · refine tp_tout (tgt := 113) hc (by decide) (by decide) (show decode cX10_orderValue 1 = .ok (.tableswitch 112 15 21 #[89, 97, 102, 107, 112, 43, 64], 43) by decide +kernel) (by decide) ?_
    refine tr_aload_n (pc' := 114) (show decode cX10_orderValue 113 = .ok (.aload_n 0, 1) by decide +kernel) rfl rfl rfl ?_
    refine tr_getI (pc' := 117) fl_HandRingModel_322 (show decode cX10_orderValue 114 = .ok (.getfield 322, 3) by decide +kernel) rfl (la_o hL (by decide) rfl) ?_
    cases h
    exact tr_iret rfl (show decode cX10_orderValue 117 = .ok (.ireturn, 1) by decide +kernel) hL
  · rcases hm_is h with ⟨hc, h⟩ | ⟨-, h⟩
    · refine tp_tin (tgt := 90) (off := 89) hc (show decode cX10_orderValue 1 = .ok (.tableswitch 112 15 21 #[89, 97, 102, 107, 112, 43, 64], 43) by decide +kernel) (by decide) (by decide) (by decide) (by decide) ?_
      refine tr_aload_n (pc' := 91) (show decode cX10_orderValue 90 = .ok (.aload_n 0, 1) by decide +kernel) rfl rfl rfl ?_
      refine tr_getR (pc' := 94) fl_HandRingModel_24 (show decode cX10_orderValue 91 = .ok (.getfield 24, 3) by decide +kernel) rfl (la_o hL (by decide) rfl) (la_r hL 118 rfl) ?_
      refine tr_bipush (pc' := 96) (v := (24 : Int32)) (show decode cX10_orderValue 94 = .ok (.bipush 24, 2) by decide +kernel) rfl (by decide) ?_
      obtain ⟨x8, ex8, h⟩ := hm_bs h
      refine tp_ldI (pc' := 97) (show decode cX10_orderValue 96 = .ok (.iaload, 1) by decide +kernel) rfl (la_a hL (by decide) rfl) ex8 ?_
      cases h
      exact tr_iret rfl (show decode cX10_orderValue 97 = .ok (.ireturn, 1) by decide +kernel) hL
    · rcases hm_is h with ⟨hc, h⟩ | ⟨-, h⟩
      · refine tp_tin (tgt := 98) (off := 97) hc (show decode cX10_orderValue 1 = .ok (.tableswitch 112 15 21 #[89, 97, 102, 107, 112, 43, 64], 43) by decide +kernel) (by decide) (by decide) (by decide) (by decide) ?_
        refine tr_aload_n (pc' := 99) (show decode cX10_orderValue 98 = .ok (.aload_n 0, 1) by decide +kernel) rfl rfl rfl ?_
        refine tr_getI (pc' := 102) fl_HandRingModel_313 (show decode cX10_orderValue 99 = .ok (.getfield 313, 3) by decide +kernel) rfl (la_o hL (by decide) rfl) ?_
        cases h
        exact tr_iret rfl (show decode cX10_orderValue 102 = .ok (.ireturn, 1) by decide +kernel) hL
      · rcases hm_is h with ⟨hc, h⟩ | ⟨-, h⟩
        · refine tp_tin (tgt := 103) (off := 102) hc (show decode cX10_orderValue 1 = .ok (.tableswitch 112 15 21 #[89, 97, 102, 107, 112, 43, 64], 43) by decide +kernel) (by decide) (by decide) (by decide) (by decide) ?_
          refine tr_aload_n (pc' := 104) (show decode cX10_orderValue 103 = .ok (.aload_n 0, 1) by decide +kernel) rfl rfl rfl ?_
          refine tr_getI (pc' := 107) fl_HandRingModel_316 (show decode cX10_orderValue 104 = .ok (.getfield 316, 3) by decide +kernel) rfl (la_o hL (by decide) rfl) ?_
          cases h
          exact tr_iret rfl (show decode cX10_orderValue 107 = .ok (.ireturn, 1) by decide +kernel) hL
        · rcases hm_is h with ⟨hc, h⟩ | ⟨-, h⟩
          · refine tp_tin (tgt := 108) (off := 107) hc (show decode cX10_orderValue 1 = .ok (.tableswitch 112 15 21 #[89, 97, 102, 107, 112, 43, 64], 43) by decide +kernel) (by decide) (by decide) (by decide) (by decide) ?_
            refine tr_aload_n (pc' := 109) (show decode cX10_orderValue 108 = .ok (.aload_n 0, 1) by decide +kernel) rfl rfl rfl ?_
            obtain ⟨x7, ex7, h⟩ := hm_bs h
            have cx7 := ok_X10_holdMany (fr := fr - 1) (ν := ν) (by omega) μ hL ex7
            refine tp_callV (pc' := 112) (As := []) (fr1 := fr - 1) (ci := 10) okm_X10_holdMany lk_HandRingModel_319 (show decode cX10_orderValue 109 = .ok (.invokevirtual 319, 3) by decide +kernel) rfl rfl rfl (by decide) (la_o hL (by decide) rfl) rfl rfl (Nat.le_of_ble_eq_true rfl) (by omega) cx7 (st' := [.int x7]) rfl ?_
            cases h
            exact tr_iret rfl (show decode cX10_orderValue 112 = .ok (.ireturn, 1) by decide +kernel) hL
          · rcases hm_is h with ⟨hc, h⟩ | ⟨-, h⟩
            · refine tp_tin (tgt := 113) (off := 112) hc (show decode cX10_orderValue 1 = .ok (.tableswitch 112 15 21 #[89, 97, 102, 107, 112, 43, 64], 43) by decide +kernel) (by decide) (by decide) (by decide) (by decide) ?_
              refine tr_aload_n (pc' := 114) (show decode cX10_orderValue 113 = .ok (.aload_n 0, 1) by decide +kernel) rfl rfl rfl ?_
              refine tr_getI (pc' := 117) fl_HandRingModel_322 (show decode cX10_orderValue 114 = .ok (.getfield 322, 3) by decide +kernel) rfl (la_o hL (by decide) rfl) ?_
              cases h
              exact tr_iret rfl (show decode cX10_orderValue 117 = .ok (.ireturn, 1) by decide +kernel) hL
            · rcases hm_is h with ⟨hc, h⟩ | ⟨-, h⟩
              · refine tp_tin (tgt := 44) (off := 43) hc (show decode cX10_orderValue 1 = .ok (.tableswitch 112 15 21 #[89, 97, 102, 107, 112, 43, 64], 43) by decide +kernel) (by decide) (by decide) (by decide) (by decide) ?_
                refine tr_aload_n (pc' := 45) (show decode cX10_orderValue 44 = .ok (.aload_n 0, 1) by decide +kernel) rfl rfl rfl ?_
                refine tr_iload_n (pc' := 46) (show decode cX10_orderValue 45 = .ok (.iload_n 2, 1) by decide +kernel) rfl rfl rfl ?_
                obtain ⟨x5, ex5, h⟩ := hm_bs h
                have cx5 := ok_X10_isPerson (fr := fr - 1) (ν := ν) (by omega) v2 μ hL ex5
                refine tp_callV (pc' := 49) (As := [.int v2]) (fr1 := fr - 1) (ci := 10) okm_X10_isPerson lk_HandRingModel_122 (show decode cX10_orderValue 46 = .ok (.invokevirtual 122, 3) by decide +kernel) rfl rfl rfl (by decide) (la_o hL (by decide) rfl) rfl rfl (Nat.le_of_ble_eq_true rfl) (by omega) cx5 (st' := [.int x5]) rfl ?_
                rcases hm_is h with ⟨hc, h⟩ | ⟨hc, h⟩
                · refine tr_if_eq_t (tgt := 63) hc (show decode cX10_orderValue 49 = .ok (.ifCond .eq 14, 3) by decide +kernel) (by decide) ?_
                  refine tr_iconst (pc' := 64) (v := (-1 : Int32)) (show decode cX10_orderValue 63 = .ok (.iconst (-1), 1) by decide +kernel) rfl (by decide) ?_
                  cases h
                  exact tr_iret rfl (show decode cX10_orderValue 64 = .ok (.ireturn, 1) by decide +kernel) hL
                · refine tr_if_eq_f (tgt := 63) (pc' := 52) hc (show decode cX10_orderValue 49 = .ok (.ifCond .eq 14, 3) by decide +kernel) (by decide) rfl ?_
                  refine tr_aload_n (pc' := 53) (show decode cX10_orderValue 52 = .ok (.aload_n 0, 1) by decide +kernel) rfl rfl rfl ?_
                  refine tr_getR (pc' := 56) fl_HandRingModel_24 (show decode cX10_orderValue 53 = .ok (.getfield 24, 3) by decide +kernel) rfl (la_o hL (by decide) rfl) (la_r hL 118 rfl) ?_
                  refine tr_iconst (pc' := 57) (v := (0 : Int32)) (show decode cX10_orderValue 56 = .ok (.iconst 0, 1) by decide +kernel) rfl (by decide) ?_
                  refine tr_iload_n (pc' := 58) (show decode cX10_orderValue 57 = .ok (.iload_n 2, 1) by decide +kernel) rfl rfl rfl ?_
                  refine tr_iadd (pc' := 59) (show decode cX10_orderValue 58 = .ok (.iadd, 1) by decide +kernel) rfl ?_
                  obtain ⟨x6, ex6, h⟩ := hm_bs h
                  refine tp_ldI (pc' := 60) (show decode cX10_orderValue 59 = .ok (.iaload, 1) by decide +kernel) rfl (la_a hL (by decide) rfl) ex6 ?_
                  refine tr_goto (tgt := 64) (show decode cX10_orderValue 60 = .ok (.goto 4, 3) by decide +kernel) rfl ?_
                  cases h
                  exact tr_iret rfl (show decode cX10_orderValue 64 = .ok (.ireturn, 1) by decide +kernel) hL
              · rcases hm_is h with ⟨hc, h⟩ | ⟨-, h⟩
                · refine tp_tin (tgt := 65) (off := 64) hc (show decode cX10_orderValue 1 = .ok (.tableswitch 112 15 21 #[89, 97, 102, 107, 112, 43, 64], 43) by decide +kernel) (by decide) (by decide) (by decide) (by decide) ?_
                  refine tr_aload_n (pc' := 66) (show decode cX10_orderValue 65 = .ok (.aload_n 0, 1) by decide +kernel) rfl rfl rfl ?_
                  refine tr_iload_n (pc' := 67) (show decode cX10_orderValue 66 = .ok (.iload_n 2, 1) by decide +kernel) rfl rfl rfl ?_
                  obtain ⟨x2, ex2, h⟩ := hm_bs h
                  have cx2 := ok_X10_isPerson (fr := fr - 1) (ν := ν) (by omega) v2 μ hL ex2
                  refine tp_callV (pc' := 70) (As := [.int v2]) (fr1 := fr - 1) (ci := 10) okm_X10_isPerson lk_HandRingModel_122 (show decode cX10_orderValue 67 = .ok (.invokevirtual 122, 3) by decide +kernel) rfl rfl rfl (by decide) (la_o hL (by decide) rfl) rfl rfl (Nat.le_of_ble_eq_true rfl) (by omega) cx2 (st' := [.int x2]) rfl ?_
                  rcases hm_is h with ⟨hc, h⟩ | ⟨hc, h⟩
                  · refine tr_if_eq_t (tgt := 88) hc (show decode cX10_orderValue 70 = .ok (.ifCond .eq 18, 3) by decide +kernel) (by decide) ?_
                    refine tr_iconst (pc' := 89) (v := (-1 : Int32)) (show decode cX10_orderValue 88 = .ok (.iconst (-1), 1) by decide +kernel) rfl (by decide) ?_
                    cases h
                    exact tr_iret rfl (show decode cX10_orderValue 89 = .ok (.ireturn, 1) by decide +kernel) hL
                  · refine tr_if_eq_f (tgt := 88) (pc' := 73) hc (show decode cX10_orderValue 70 = .ok (.ifCond .eq 18, 3) by decide +kernel) (by decide) rfl ?_
                    refine tr_aload_n (pc' := 74) (show decode cX10_orderValue 73 = .ok (.aload_n 0, 1) by decide +kernel) rfl rfl rfl ?_
                    refine tr_getR (pc' := 77) fl_HandRingModel_24 (show decode cX10_orderValue 74 = .ok (.getfield 24, 3) by decide +kernel) rfl (la_o hL (by decide) rfl) (la_r hL 118 rfl) ?_
                    refine tr_bipush (pc' := 79) (v := (16 : Int32)) (show decode cX10_orderValue 77 = .ok (.bipush 16, 2) by decide +kernel) rfl (by decide) ?_
                    refine tr_iload_n (pc' := 80) (show decode cX10_orderValue 79 = .ok (.iload_n 2, 1) by decide +kernel) rfl rfl rfl ?_
                    refine tr_iadd (pc' := 81) (show decode cX10_orderValue 80 = .ok (.iadd, 1) by decide +kernel) rfl ?_
                    obtain ⟨x3, ex3, h⟩ := hm_bs h
                    refine tp_ldI (pc' := 82) (show decode cX10_orderValue 81 = .ok (.iaload, 1) by decide +kernel) rfl (la_a hL (by decide) rfl) ex3 ?_
                    obtain ⟨x4, ex4, h⟩ := hm_bs h
                    have cx4 := ok_X10_ones (fr := fr - 1) (ν := ν) (by omega) x3 μ hL ex4
                    refine tp_callS (pc' := 85) (As := [.int x3]) (fr1 := fr - 1) okm_X10_ones lk_HandRingModel_310 (show decode cX10_orderValue 82 = .ok (.invokestatic 310, 3) by decide +kernel) rfl rfl rfl (Nat.le_of_ble_eq_true rfl) (by omega) cx4 (st' := [.int x4]) rfl ?_
                    refine tr_goto (tgt := 89) (show decode cX10_orderValue 85 = .ok (.goto 4, 3) by decide +kernel) rfl ?_
                    cases h
                    exact tr_iret rfl (show decode cX10_orderValue 89 = .ok (.ireturn, 1) by decide +kernel) hL
                · cases h
