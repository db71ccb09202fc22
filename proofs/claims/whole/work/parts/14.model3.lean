def f_X10_faults (μ : hm_M) : Option hm_M :=
  Option.bind (f_X10_fine μ) fun x2 =>
  (if x2 = 0 then
  some μ
  else
  Option.bind (hm_ld μ 190 401 (μ.1 179 19)) fun x3 =>
  Option.bind (hm_pI μ 179 21 x3) fun μ4 =>
  some μ4)
set_option maxRecDepth 100000 in
theorem ok_X10_faults {fr : Nat} (hfr : 1 ≤ fr) {ν : hm_N} {μR : hm_M}    (μ : hm_M) (hL : hm_LL ν μ) (h : f_X10_faults μ = some μR) : hm_CC (hm_LL ν) m_X10_faults fr 0 0 [.ref 179] μ none μR := by
  refine hm_enter (lv := [some (.ref 179)]) (by decide) rfl (Nat.le_of_ble_eq_true rfl) ?_
  unfold f_X10_faults at h
  refine tr_aload_n (pc' := 1) (show decode cX10_faults 0 = .ok (.aload_n 0, 1) by decide +kernel) rfl rfl rfl ?_
  obtain ⟨x2, ex2, h⟩ := hm_bs h
  have cx2 := ok_X10_fine (fr := fr - 1) (ν := ν) (by omega) μ hL ex2
  refine tp_callV (pc' := 4) (As := []) (fr1 := fr - 1) (ci := 10) okm_X10_fine lk_HandRingModel_184 (show decode cX10_faults 1 = .ok (.invokevirtual 184, 3) by decide +kernel) rfl rfl rfl (by decide) (la_o hL (by decide) rfl) rfl rfl (Nat.le_of_ble_eq_true rfl) (by omega) cx2 (st' := [.int x2]) rfl ?_
  rcases hm_is h with ⟨hc, h⟩ | ⟨hc, h⟩
  · refine tr_if_eq_t (tgt := 20) hc (show decode cX10_faults 4 = .ok (.ifCond .eq 16, 3) by decide +kernel) (by decide) ?_
    cases h
    exact tr_vret rfl (show decode cX10_faults 20 = .ok (.return_, 1) by decide +kernel) hL
  · refine tr_if_eq_f (tgt := 20) (pc' := 7) hc (show decode cX10_faults 4 = .ok (.ifCond .eq 16, 3) by decide +kernel) (by decide) rfl ?_
    refine tr_aload_n (pc' := 8) (show decode cX10_faults 7 = .ok (.aload_n 0, 1) by decide +kernel) rfl rfl rfl ?_
    refine tr_aload_n (pc' := 9) (show decode cX10_faults 8 = .ok (.aload_n 0, 1) by decide +kernel) rfl rfl rfl ?_
    refine tr_getR (pc' := 12) fl_HandRingModel_56 (show decode cX10_faults 9 = .ok (.getfield 56, 3) by decide +kernel) rfl (la_o hL (by decide) rfl) (la_r hL 127 rfl) ?_
    refine tr_aload_n (pc' := 13) (show decode cX10_faults 12 = .ok (.aload_n 0, 1) by decide +kernel) rfl rfl rfl ?_
    refine tr_getI (pc' := 16) fl_HandRingModel_188 (show decode cX10_faults 13 = .ok (.getfield 188, 3) by decide +kernel) rfl (la_o hL (by decide) rfl) ?_
    obtain ⟨x3, ex3, h⟩ := hm_bs h
    refine tp_ldI (pc' := 17) (show decode cX10_faults 16 = .ok (.iaload, 1) by decide +kernel) rfl (la_a hL (by decide) rfl) ex3 ?_
    obtain ⟨μ4, eμ4, h⟩ := hm_bs h
    refine tp_pI (pc' := 20) fl_HandRingModel_181 (show decode cX10_faults 17 = .ok (.putfield 181, 3) by decide +kernel) rfl (la_o hL (by decide) rfl) eμ4 ?_
    replace hL := hL.same (hm_pI_s eμ4)
    cases h
    exact tr_vret rfl (show decode cX10_faults 20 = .ok (.return_, 1) by decide +kernel) hL
def f_X10_takes0_J25 (v1 : Int32) (s0 : Int32) (μ1 : hm_M) : Option (Int32 × hm_M) :=
  (if s0 = 0 then
  Option.bind (hm_rz s0) fun x3 => some (x3, μ1)
  else
  Option.bind (hm_pI μ1 179 19 ((μ1.1 179 19) + (1 : Int32))) fun μ4 =>
  Option.bind (hm_rz s0) fun x5 => some (x5, μ4))
theorem ok_X10_takes0_J25 {fr : Nat} (hfr : 1 ≤ fr) {ν : hm_N} {r : Int32} {μR : hm_M}  (v1 : Int32)    (s0 : Int32) (μ1 : hm_M) (hL : hm_LL ν μ1) (h : f_X10_takes0_J25 v1 s0 μ1 = some (r, μR)) : hm_T (hm_LL ν) m_X10_takes0 fr 0 0 (some (.int r)) μR 25 [some (.ref 179), none, none] [.int s0] μ1 := by
  unfold f_X10_takes0_J25 at h
  refine tr_istore_n (pc' := 26) (lv' := [some (.ref 179), none, some (.int s0)]) (show decode cX10_takes0 25 = .ok (.istore_n 2, 1) by decide +kernel) rfl rfl (Nat.le_of_ble_eq_true rfl) rfl rfl ?_
  refine tr_iload_n (pc' := 27) (show decode cX10_takes0 26 = .ok (.iload_n 2, 1) by decide +kernel) rfl rfl rfl ?_
  rcases hm_is h with ⟨hc, h⟩ | ⟨hc, h⟩
  · refine tr_if_eq_t (tgt := 40) hc (show decode cX10_takes0 27 = .ok (.ifCond .eq 13, 3) by decide +kernel) (by decide) ?_
    refine tr_iload_n (pc' := 41) (show decode cX10_takes0 40 = .ok (.iload_n 2, 1) by decide +kernel) rfl rfl rfl ?_
    obtain ⟨x3, ex3, h⟩ := hm_bs h
    cases h
    exact tp_zret rfl (show decode cX10_takes0 41 = .ok (.ireturn, 1) by decide +kernel) ex3 hL
  · refine tr_if_eq_f (tgt := 40) (pc' := 30) hc (show decode cX10_takes0 27 = .ok (.ifCond .eq 13, 3) by decide +kernel) (by decide) rfl ?_
    refine tr_aload_n (pc' := 31) (show decode cX10_takes0 30 = .ok (.aload_n 0, 1) by decide +kernel) rfl rfl rfl ?_
    refine tr_dup (pc' := 32) (show decode cX10_takes0 31 = .ok (.dup, 1) by decide +kernel) rfl rfl ?_
    refine tr_getI (pc' := 35) fl_HandRingModel_188 (show decode cX10_takes0 32 = .ok (.getfield 188, 3) by decide +kernel) rfl (la_o hL (by decide) rfl) ?_
    refine tr_iconst (pc' := 36) (v := (1 : Int32)) (show decode cX10_takes0 35 = .ok (.iconst 1, 1) by decide +kernel) rfl (by decide) ?_
    refine tr_iadd (pc' := 37) (show decode cX10_takes0 36 = .ok (.iadd, 1) by decide +kernel) rfl ?_
    obtain ⟨μ4, eμ4, h⟩ := hm_bs h
    refine tp_pI (pc' := 40) fl_HandRingModel_188 (show decode cX10_takes0 37 = .ok (.putfield 188, 3) by decide +kernel) rfl (la_o hL (by decide) rfl) eμ4 ?_
    replace hL := hL.same (hm_pI_s eμ4)
    refine tr_iload_n (pc' := 41) (show decode cX10_takes0 40 = .ok (.iload_n 2, 1) by decide +kernel) rfl rfl rfl ?_
    obtain ⟨x5, ex5, h⟩ := hm_bs h
    cases h
    exact tp_zret rfl (show decode cX10_takes0 41 = .ok (.ireturn, 1) by decide +kernel) ex5 hL
def f_X10_takes0_J24 (v1 : Int32) (μ1 : hm_M) : Option (Int32 × hm_M) :=
  f_X10_takes0_J25 v1 (0 : Int32) μ1
theorem ok_X10_takes0_J24 {fr : Nat} (hfr : 1 ≤ fr) {ν : hm_N} {r : Int32} {μR : hm_M}  (v1 : Int32)     (μ1 : hm_M) (hL : hm_LL ν μ1) (h : f_X10_takes0_J24 v1 μ1 = some (r, μR)) : hm_T (hm_LL ν) m_X10_takes0 fr 0 0 (some (.int r)) μR 24 [some (.ref 179), none, none] [] μ1 := by
  unfold f_X10_takes0_J24 at h
  refine tr_iconst (pc' := 25) (v := (0 : Int32)) (show decode cX10_takes0 24 = .ok (.iconst 0, 1) by decide +kernel) rfl (by decide) ?_
  exact ok_X10_takes0_J25 hfr _ (0 : Int32) μ1 hL h
def f_X10_takes0 (v1 : Int32) (μ : hm_M) : Option (Int32 × hm_M) :=
  Option.bind (f_X10_fine μ) fun x2 =>
  (if x2 = 0 then
  f_X10_takes0_J24 v1 μ
  else
  Option.bind (hm_ld μ 188 401 (μ.1 179 19)) fun x6 =>
  (if x6 = v1 then
  f_X10_takes0_J25 v1 (1 : Int32) μ
  else
  f_X10_takes0_J24 v1 μ))
set_option maxRecDepth 100000 in
theorem ok_X10_takes0 {fr : Nat} (hfr : 1 ≤ fr) {ν : hm_N} {r : Int32} {μR : hm_M}  (v1 : Int32)  (μ : hm_M) (hL : hm_LL ν μ) (h : f_X10_takes0 v1 μ = some (r, μR)) : hm_CC (hm_LL ν) m_X10_takes0 fr 0 0 [.ref 179, .int v1] μ (some (.int r)) μR := by
  refine hm_enter (lv := [some (.ref 179), some (.int v1), none]) (by decide) rfl (Nat.le_of_ble_eq_true rfl) ?_
  unfold f_X10_takes0 at h
  refine tr_aload_n (pc' := 1) (show decode cX10_takes0 0 = .ok (.aload_n 0, 1) by decide +kernel) rfl rfl rfl ?_
  obtain ⟨x2, ex2, h⟩ := hm_bs h
  have cx2 := ok_X10_fine (fr := fr - 1) (ν := ν) (by omega) μ hL ex2
  refine tp_callV (pc' := 4) (As := []) (fr1 := fr - 1) (ci := 10) okm_X10_fine lk_HandRingModel_184 (show decode cX10_takes0 1 = .ok (.invokevirtual 184, 3) by decide +kernel) rfl rfl rfl (by decide) (la_o hL (by decide) rfl) rfl rfl (Nat.le_of_ble_eq_true rfl) (by omega) cx2 (st' := [.int x2]) rfl ?_
  rcases hm_is h with ⟨hc, h⟩ | ⟨hc, h⟩
  · refine tr_if_eq_t (tgt := 24) hc (show decode cX10_takes0 4 = .ok (.ifCond .eq 20, 3) by decide +kernel) (by decide) ?_
    refine hm_fgt [true, false, false] (lv' := [some (.ref 179), none, none]) rfl ?_
    exact ok_X10_takes0_J24 hfr _ μ hL h
  · refine tr_if_eq_f (tgt := 24) (pc' := 7) hc (show decode cX10_takes0 4 = .ok (.ifCond .eq 20, 3) by decide +kernel) (by decide) rfl ?_
    refine tr_aload_n (pc' := 8) (show decode cX10_takes0 7 = .ok (.aload_n 0, 1) by decide +kernel) rfl rfl rfl ?_
    refine tr_getR (pc' := 11) fl_HandRingModel_50 (show decode cX10_takes0 8 = .ok (.getfield 50, 3) by decide +kernel) rfl (la_o hL (by decide) rfl) (la_r hL 125 rfl) ?_
    refine tr_aload_n (pc' := 12) (show decode cX10_takes0 11 = .ok (.aload_n 0, 1) by decide +kernel) rfl rfl rfl ?_
    refine tr_getI (pc' := 15) fl_HandRingModel_188 (show decode cX10_takes0 12 = .ok (.getfield 188, 3) by decide +kernel) rfl (la_o hL (by decide) rfl) ?_
    obtain ⟨x6, ex6, h⟩ := hm_bs h
    refine tp_ldI (pc' := 16) (show decode cX10_takes0 15 = .ok (.iaload, 1) by decide +kernel) rfl (la_a hL (by decide) rfl) ex6 ?_
    refine tr_iload_n (pc' := 17) (show decode cX10_takes0 16 = .ok (.iload_n 1, 1) by decide +kernel) rfl rfl rfl ?_
    rcases hm_is h with ⟨hc, h⟩ | ⟨hc, h⟩
    · refine tr_icmp_ne_f (tgt := 24) (pc' := 20) hc (show decode cX10_takes0 17 = .ok (.if_icmp .ne 7, 3) by decide +kernel) (by decide) rfl ?_
      refine tr_iconst (pc' := 21) (v := (1 : Int32)) (show decode cX10_takes0 20 = .ok (.iconst 1, 1) by decide +kernel) rfl (by decide) ?_
      refine tr_goto (tgt := 25) (show decode cX10_takes0 21 = .ok (.goto 4, 3) by decide +kernel) rfl ?_
      refine hm_fgt [true, false, false] (lv' := [some (.ref 179), none, none]) rfl ?_
      exact ok_X10_takes0_J25 hfr _ (1 : Int32) μ hL h
    · refine tr_icmp_ne_t (tgt := 24) hc (show decode cX10_takes0 17 = .ok (.if_icmp .ne 7, 3) by decide +kernel) (by decide) ?_
      refine hm_fgt [true, false, false] (lv' := [some (.ref 179), none, none]) rfl ?_
      exact ok_X10_takes0_J24 hfr _ μ hL h
def f_X10_must (v1 : Int32) (μ : hm_M) : Option hm_M :=
  hm_b2 (f_X10_takes0 v1 μ) fun x2 μ3 =>
  (if x2 = 0 then
  Option.bind (f_X10_faults μ3) fun μ5 =>
  some μ5
  else
  some μ3)
set_option maxRecDepth 100000 in
theorem ok_X10_must {fr : Nat} (hfr : 2 ≤ fr) {ν : hm_N} {μR : hm_M}  (v1 : Int32)  (μ : hm_M) (hL : hm_LL ν μ) (h : f_X10_must v1 μ = some μR) : hm_CC (hm_LL ν) m_X10_must fr 0 0 [.ref 179, .int v1] μ none μR := by
  refine hm_enter (lv := [some (.ref 179), some (.int v1)]) (by decide) rfl (Nat.le_of_ble_eq_true rfl) ?_
  unfold f_X10_must at h
  refine tr_aload_n (pc' := 1) (show decode cX10_must 0 = .ok (.aload_n 0, 1) by decide +kernel) rfl rfl rfl ?_
  refine tr_iload_n (pc' := 2) (show decode cX10_must 1 = .ok (.iload_n 1, 1) by decide +kernel) rfl rfl rfl ?_
  obtain ⟨x2, μ3, ex2, h⟩ := hm_b2s h
  have cx2 := ok_X10_takes0 (fr := fr - 1) (ν := ν) (by omega) v1 μ hL ex2
  refine tp_callV (pc' := 5) (As := [.int v1]) (fr1 := fr - 1) (ci := 10) okm_X10_takes0 lk_HandRingModel_191 (show decode cX10_must 2 = .ok (.invokevirtual 191, 3) by decide +kernel) rfl rfl rfl (by decide) (la_o hL (by decide) rfl) rfl rfl (Nat.le_of_ble_eq_true rfl) (by omega) cx2 (st' := [.int x2]) rfl ?_
  replace hL := cx2.1
  rcases hm_is h with ⟨hc, h⟩ | ⟨hc, h⟩
  · refine tr_if_ne_f (tgt := 12) (pc' := 8) hc (show decode cX10_must 5 = .ok (.ifCond .ne 7, 3) by decide +kernel) (by decide) rfl ?_
    refine tr_aload_n (pc' := 9) (show decode cX10_must 8 = .ok (.aload_n 0, 1) by decide +kernel) rfl rfl rfl ?_
    obtain ⟨μ5, ex4, h⟩ := hm_bs h
    have cx4 := ok_X10_faults (fr := fr - 1) (ν := ν) (by omega) μ3 hL ex4
    refine tp_callV (pc' := 12) (As := []) (fr1 := fr - 1) (ci := 10) okm_X10_faults lk_HandRingModel_194 (show decode cX10_must 9 = .ok (.invokevirtual 194, 3) by decide +kernel) rfl rfl rfl (by decide) (la_o hL (by decide) rfl) rfl rfl (Nat.le_of_ble_eq_true rfl) (by omega) cx4 (st' := []) rfl ?_
    replace hL := cx4.1
    cases h
    exact tr_vret rfl (show decode cX10_must 12 = .ok (.return_, 1) by decide +kernel) hL
  · refine tr_if_ne_t (tgt := 12) hc (show decode cX10_must 5 = .ok (.ifCond .ne 7, 3) by decide +kernel) (by decide) ?_
    cases h
    exact tr_vret rfl (show decode cX10_must 12 = .ok (.return_, 1) by decide +kernel) hL
def f_X10_leaf_J13 (μ1 : hm_M) : Option hm_M :=
  Option.bind (hm_pI μ1 179 20 ((μ1.1 179 20) + (1 : Int32))) fun μ2 =>
  Option.bind (f_X10_fine μ2) fun x3 =>
  (if x3 = 0 then
  some μ2
  else
  Option.bind (hm_pI μ2 179 19 ((μ2.1 179 19) + (1 : Int32))) fun μ4 =>
  some μ4)
theorem ok_X10_leaf_J13 {fr : Nat} (hfr : 2 ≤ fr) {ν : hm_N} {μR : hm_M}       (μ1 : hm_M) (hL : hm_LL ν μ1) (h : f_X10_leaf_J13 μ1 = some μR) : hm_T (hm_LL ν) m_X10_leaf fr 0 0 none μR 13 [some (.ref 179)] [] μ1 := by
  unfold f_X10_leaf_J13 at h
  refine tr_aload_n (pc' := 14) (show decode cX10_leaf 13 = .ok (.aload_n 0, 1) by decide +kernel) rfl rfl rfl ?_
  refine tr_dup (pc' := 15) (show decode cX10_leaf 14 = .ok (.dup, 1) by decide +kernel) rfl rfl ?_
  refine tr_getI (pc' := 18) fl_HandRingModel_197 (show decode cX10_leaf 15 = .ok (.getfield 197, 3) by decide +kernel) rfl (la_o hL (by decide) rfl) ?_
  refine tr_iconst (pc' := 19) (v := (1 : Int32)) (show decode cX10_leaf 18 = .ok (.iconst 1, 1) by decide +kernel) rfl (by decide) ?_
  refine tr_iadd (pc' := 20) (show decode cX10_leaf 19 = .ok (.iadd, 1) by decide +kernel) rfl ?_
  obtain ⟨μ2, eμ2, h⟩ := hm_bs h
  refine tp_pI (pc' := 23) fl_HandRingModel_197 (show decode cX10_leaf 20 = .ok (.putfield 197, 3) by decide +kernel) rfl (la_o hL (by decide) rfl) eμ2 ?_
  replace hL := hL.same (hm_pI_s eμ2)
  refine tr_aload_n (pc' := 24) (show decode cX10_leaf 23 = .ok (.aload_n 0, 1) by decide +kernel) rfl rfl rfl ?_
  obtain ⟨x3, ex3, h⟩ := hm_bs h
  have cx3 := ok_X10_fine (fr := fr - 1) (ν := ν) (by omega) μ2 hL ex3
  refine tp_callV (pc' := 27) (As := []) (fr1 := fr - 1) (ci := 10) okm_X10_fine lk_HandRingModel_184 (show decode cX10_leaf 24 = .ok (.invokevirtual 184, 3) by decide +kernel) rfl rfl rfl (by decide) (la_o hL (by decide) rfl) rfl rfl (Nat.le_of_ble_eq_true rfl) (by omega) cx3 (st' := [.int x3]) rfl ?_
  rcases hm_is h with ⟨hc, h⟩ | ⟨hc, h⟩
  · refine tr_if_eq_t (tgt := 40) hc (show decode cX10_leaf 27 = .ok (.ifCond .eq 13, 3) by decide +kernel) (by decide) ?_
    cases h
    exact tr_vret rfl (show decode cX10_leaf 40 = .ok (.return_, 1) by decide +kernel) hL
  · refine tr_if_eq_f (tgt := 40) (pc' := 30) hc (show decode cX10_leaf 27 = .ok (.ifCond .eq 13, 3) by decide +kernel) (by decide) rfl ?_
    refine tr_aload_n (pc' := 31) (show decode cX10_leaf 30 = .ok (.aload_n 0, 1) by decide +kernel) rfl rfl rfl ?_
    refine tr_dup (pc' := 32) (show decode cX10_leaf 31 = .ok (.dup, 1) by decide +kernel) rfl rfl ?_
    refine tr_getI (pc' := 35) fl_HandRingModel_188 (show decode cX10_leaf 32 = .ok (.getfield 188, 3) by decide +kernel) rfl (la_o hL (by decide) rfl) ?_
    refine tr_iconst (pc' := 36) (v := (1 : Int32)) (show decode cX10_leaf 35 = .ok (.iconst 1, 1) by decide +kernel) rfl (by decide) ?_
    refine tr_iadd (pc' := 37) (show decode cX10_leaf 36 = .ok (.iadd, 1) by decide +kernel) rfl ?_
    obtain ⟨μ4, eμ4, h⟩ := hm_bs h
    refine tp_pI (pc' := 40) fl_HandRingModel_188 (show decode cX10_leaf 37 = .ok (.putfield 188, 3) by decide +kernel) rfl (la_o hL (by decide) rfl) eμ4 ?_
    replace hL := hL.same (hm_pI_s eμ4)
    cases h
    exact tr_vret rfl (show decode cX10_leaf 40 = .ok (.return_, 1) by decide +kernel) hL
def f_X10_leaf (μ : hm_M) : Option hm_M :=
  (if (μ.1 179 20) = (50 : Int32) then
  Option.bind (f_X10_faults μ) fun μ6 =>
  f_X10_leaf_J13 μ6
  else
  f_X10_leaf_J13 μ)
set_option maxRecDepth 100000 in
theorem ok_X10_leaf {fr : Nat} (hfr : 2 ≤ fr) {ν : hm_N} {μR : hm_M}    (μ : hm_M) (hL : hm_LL ν μ) (h : f_X10_leaf μ = some μR) : hm_CC (hm_LL ν) m_X10_leaf fr 0 0 [.ref 179] μ none μR := by
  refine hm_enter (lv := [some (.ref 179)]) (by decide) rfl (Nat.le_of_ble_eq_true rfl) ?_
  unfold f_X10_leaf at h
  refine tr_aload_n (pc' := 1) (show decode cX10_leaf 0 = .ok (.aload_n 0, 1) by decide +kernel) rfl rfl rfl ?_
  refine tr_getI (pc' := 4) fl_HandRingModel_197 (show decode cX10_leaf 1 = .ok (.getfield 197, 3) by decide +kernel) rfl (la_o hL (by decide) rfl) ?_
  refine tr_bipush (pc' := 6) (v := (50 : Int32)) (show decode cX10_leaf 4 = .ok (.bipush 50, 2) by decide +kernel) rfl (by decide) ?_
  rcases hm_is h with ⟨hc, h⟩ | ⟨hc, h⟩
  · refine tr_icmp_ne_f (tgt := 13) (pc' := 9) hc (show decode cX10_leaf 6 = .ok (.if_icmp .ne 7, 3) by decide +kernel) (by decide) rfl ?_
    refine tr_aload_n (pc' := 10) (show decode cX10_leaf 9 = .ok (.aload_n 0, 1) by decide +kernel) rfl rfl rfl ?_
    obtain ⟨μ6, ex5, h⟩ := hm_bs h
    have cx5 := ok_X10_faults (fr := fr - 1) (ν := ν) (by omega) μ hL ex5
    refine tp_callV (pc' := 13) (As := []) (fr1 := fr - 1) (ci := 10) okm_X10_faults lk_HandRingModel_194 (show decode cX10_leaf 10 = .ok (.invokevirtual 194, 3) by decide +kernel) rfl rfl rfl (by decide) (la_o hL (by decide) rfl) rfl rfl (Nat.le_of_ble_eq_true rfl) (by omega) cx5 (st' := []) rfl ?_
    replace hL := cx5.1
    exact ok_X10_leaf_J13 hfr μ6 hL h
  · refine tr_icmp_ne_t (tgt := 13) hc (show decode cX10_leaf 6 = .ok (.if_icmp .ne 7, 3) by decide +kernel) (by decide) ?_
    exact ok_X10_leaf_J13 hfr μ hL h
def f_X10_mustNumber_J42 (v1 : Int32) (v2 : Int32) (μ1 : hm_M) : Option hm_M :=
  Option.bind (f_X10_fine μ1) fun x3 =>
  (if x3 = 0 then
  some μ1
  else
  Option.bind (hm_pI μ1 179 19 ((μ1.1 179 19) + (1 : Int32))) fun μ4 =>
  some μ4)
theorem ok_X10_mustNumber_J42 {fr : Nat} (hfr : 2 ≤ fr) {ν : hm_N} {μR : hm_M}  (v1 : Int32) (v2 : Int32)     (μ1 : hm_M) (hL : hm_LL ν μ1) (h : f_X10_mustNumber_J42 v1 v2 μ1 = some μR) : hm_T (hm_LL ν) m_X10_mustNumber fr 0 0 none μR 42 [some (.ref 179), none, none] [] μ1 := by
  unfold f_X10_mustNumber_J42 at h
  refine tr_aload_n (pc' := 43) (show decode cX10_mustNumber 42 = .ok (.aload_n 0, 1) by decide +kernel) rfl rfl rfl ?_
  obtain ⟨x3, ex3, h⟩ := hm_bs h
  have cx3 := ok_X10_fine (fr := fr - 1) (ν := ν) (by omega) μ1 hL ex3
  refine tp_callV (pc' := 46) (As := []) (fr1 := fr - 1) (ci := 10) okm_X10_fine lk_HandRingModel_184 (show decode cX10_mustNumber 43 = .ok (.invokevirtual 184, 3) by decide +kernel) rfl rfl rfl (by decide) (la_o hL (by decide) rfl) rfl rfl (Nat.le_of_ble_eq_true rfl) (by omega) cx3 (st' := [.int x3]) rfl ?_
  rcases hm_is h with ⟨hc, h⟩ | ⟨hc, h⟩
  · refine tr_if_eq_t (tgt := 59) hc (show decode cX10_mustNumber 46 = .ok (.ifCond .eq 13, 3) by decide +kernel) (by decide) ?_
    cases h
    exact tr_vret rfl (show decode cX10_mustNumber 59 = .ok (.return_, 1) by decide +kernel) hL
  · refine tr_if_eq_f (tgt := 59) (pc' := 49) hc (show decode cX10_mustNumber 46 = .ok (.ifCond .eq 13, 3) by decide +kernel) (by decide) rfl ?_
    refine tr_aload_n (pc' := 50) (show decode cX10_mustNumber 49 = .ok (.aload_n 0, 1) by decide +kernel) rfl rfl rfl ?_
    refine tr_dup (pc' := 51) (show decode cX10_mustNumber 50 = .ok (.dup, 1) by decide +kernel) rfl rfl ?_
    refine tr_getI (pc' := 54) fl_HandRingModel_188 (show decode cX10_mustNumber 51 = .ok (.getfield 188, 3) by decide +kernel) rfl (la_o hL (by decide) rfl) ?_
    refine tr_iconst (pc' := 55) (v := (1 : Int32)) (show decode cX10_mustNumber 54 = .ok (.iconst 1, 1) by decide +kernel) rfl (by decide) ?_
    refine tr_iadd (pc' := 56) (show decode cX10_mustNumber 55 = .ok (.iadd, 1) by decide +kernel) rfl ?_
    obtain ⟨μ4, eμ4, h⟩ := hm_bs h
    refine tp_pI (pc' := 59) fl_HandRingModel_188 (show decode cX10_mustNumber 56 = .ok (.putfield 188, 3) by decide +kernel) rfl (la_o hL (by decide) rfl) eμ4 ?_
    replace hL := hL.same (hm_pI_s eμ4)
    cases h
    exact tr_vret rfl (show decode cX10_mustNumber 59 = .ok (.return_, 1) by decide +kernel) hL
def f_X10_mustNumber_J38 (v1 : Int32) (v2 : Int32) (μ1 : hm_M) : Option hm_M :=
  Option.bind (f_X10_faults μ1) fun μ7 =>
  f_X10_mustNumber_J42 v1 v2 μ7
theorem ok_X10_mustNumber_J38 {fr : Nat} (hfr : 2 ≤ fr) {ν : hm_N} {μR : hm_M}  (v1 : Int32) (v2 : Int32)     (μ1 : hm_M) (hL : hm_LL ν μ1) (h : f_X10_mustNumber_J38 v1 v2 μ1 = some μR) : hm_T (hm_LL ν) m_X10_mustNumber fr 0 0 none μR 38 [some (.ref 179), none, none] [] μ1 := by
  unfold f_X10_mustNumber_J38 at h
  refine tr_aload_n (pc' := 39) (show decode cX10_mustNumber 38 = .ok (.aload_n 0, 1) by decide +kernel) rfl rfl rfl ?_
  obtain ⟨μ7, ex6, h⟩ := hm_bs h
  have cx6 := ok_X10_faults (fr := fr - 1) (ν := ν) (by omega) μ1 hL ex6
  refine tp_callV (pc' := 42) (As := []) (fr1 := fr - 1) (ci := 10) okm_X10_faults lk_HandRingModel_194 (show decode cX10_mustNumber 39 = .ok (.invokevirtual 194, 3) by decide +kernel) rfl rfl rfl (by decide) (la_o hL (by decide) rfl) rfl rfl (Nat.le_of_ble_eq_true rfl) (by omega) cx6 (st' := []) rfl ?_
  replace hL := cx6.1
  exact ok_X10_mustNumber_J42 hfr _ _ μ7 hL h
def f_X10_mustNumber (v1 : Int32) (v2 : Int32) (μ : hm_M) : Option hm_M :=
  Option.bind (f_X10_fine μ) fun x2 =>
  (if x2 = 0 then
  f_X10_mustNumber_J42 v1 v2 μ
  else
  Option.bind (hm_ld μ 188 401 (μ.1 179 19)) fun x5 =>
  (if x5 = (50 : Int32) then
  Option.bind (hm_ld μ 189 401 (μ.1 179 19)) fun x8 =>
  Option.bind (f_X10_lies x8 v1 v2) fun x9 =>
  (if x9 = 0 then
  f_X10_mustNumber_J38 v1 v2 μ
  else
  f_X10_mustNumber_J42 v1 v2 μ)
  else
  f_X10_mustNumber_J38 v1 v2 μ))
set_option maxRecDepth 100000 in
theorem ok_X10_mustNumber {fr : Nat} (hfr : 2 ≤ fr) {ν : hm_N} {μR : hm_M}  (v1 : Int32) (v2 : Int32)  (μ : hm_M) (hL : hm_LL ν μ) (h : f_X10_mustNumber v1 v2 μ = some μR) : hm_CC (hm_LL ν) m_X10_mustNumber fr 0 0 [.ref 179, .int v1, .int v2] μ none μR := by
  refine hm_enter (lv := [some (.ref 179), some (.int v1), some (.int v2)]) (by decide) rfl (Nat.le_of_ble_eq_true rfl) ?_
  unfold f_X10_mustNumber at h
  refine tr_aload_n (pc' := 1) (show decode cX10_mustNumber 0 = .ok (.aload_n 0, 1) by decide +kernel) rfl rfl rfl ?_
  obtain ⟨x2, ex2, h⟩ := hm_bs h
  have cx2 := ok_X10_fine (fr := fr - 1) (ν := ν) (by omega) μ hL ex2
  refine tp_callV (pc' := 4) (As := []) (fr1 := fr - 1) (ci := 10) okm_X10_fine lk_HandRingModel_184 (show decode cX10_mustNumber 1 = .ok (.invokevirtual 184, 3) by decide +kernel) rfl rfl rfl (by decide) (la_o hL (by decide) rfl) rfl rfl (Nat.le_of_ble_eq_true rfl) (by omega) cx2 (st' := [.int x2]) rfl ?_
  rcases hm_is h with ⟨hc, h⟩ | ⟨hc, h⟩
  · refine tr_if_eq_t (tgt := 42) hc (show decode cX10_mustNumber 4 = .ok (.ifCond .eq 38, 3) by decide +kernel) (by decide) ?_
    refine hm_fgt [true, false, false] (lv' := [some (.ref 179), none, none]) rfl ?_
    exact ok_X10_mustNumber_J42 hfr _ _ μ hL h
  · refine tr_if_eq_f (tgt := 42) (pc' := 7) hc (show decode cX10_mustNumber 4 = .ok (.ifCond .eq 38, 3) by decide +kernel) (by decide) rfl ?_
    refine tr_aload_n (pc' := 8) (show decode cX10_mustNumber 7 = .ok (.aload_n 0, 1) by decide +kernel) rfl rfl rfl ?_
    refine tr_getR (pc' := 11) fl_HandRingModel_50 (show decode cX10_mustNumber 8 = .ok (.getfield 50, 3) by decide +kernel) rfl (la_o hL (by decide) rfl) (la_r hL 125 rfl) ?_
    refine tr_aload_n (pc' := 12) (show decode cX10_mustNumber 11 = .ok (.aload_n 0, 1) by decide +kernel) rfl rfl rfl ?_
    refine tr_getI (pc' := 15) fl_HandRingModel_188 (show decode cX10_mustNumber 12 = .ok (.getfield 188, 3) by decide +kernel) rfl (la_o hL (by decide) rfl) ?_
    obtain ⟨x5, ex5, h⟩ := hm_bs h
    refine tp_ldI (pc' := 16) (show decode cX10_mustNumber 15 = .ok (.iaload, 1) by decide +kernel) rfl (la_a hL (by decide) rfl) ex5 ?_
    refine tr_bipush (pc' := 18) (v := (50 : Int32)) (show decode cX10_mustNumber 16 = .ok (.bipush 50, 2) by decide +kernel) rfl (by decide) ?_
    rcases hm_is h with ⟨hc, h⟩ | ⟨hc, h⟩
    · refine tr_icmp_ne_f (tgt := 38) (pc' := 21) hc (show decode cX10_mustNumber 18 = .ok (.if_icmp .ne 20, 3) by decide +kernel) (by decide) rfl ?_
      refine tr_aload_n (pc' := 22) (show decode cX10_mustNumber 21 = .ok (.aload_n 0, 1) by decide +kernel) rfl rfl rfl ?_
      refine tr_getR (pc' := 25) fl_HandRingModel_53 (show decode cX10_mustNumber 22 = .ok (.getfield 53, 3) by decide +kernel) rfl (la_o hL (by decide) rfl) (la_r hL 126 rfl) ?_
      refine tr_aload_n (pc' := 26) (show decode cX10_mustNumber 25 = .ok (.aload_n 0, 1) by decide +kernel) rfl rfl rfl ?_
      refine tr_getI (pc' := 29) fl_HandRingModel_188 (show decode cX10_mustNumber 26 = .ok (.getfield 188, 3) by decide +kernel) rfl (la_o hL (by decide) rfl) ?_
      obtain ⟨x8, ex8, h⟩ := hm_bs h
      refine tp_ldI (pc' := 30) (show decode cX10_mustNumber 29 = .ok (.iaload, 1) by decide +kernel) rfl (la_a hL (by decide) rfl) ex8 ?_
      refine tr_iload_n (pc' := 31) (show decode cX10_mustNumber 30 = .ok (.iload_n 1, 1) by decide +kernel) rfl rfl rfl ?_
      refine tr_iload_n (pc' := 32) (show decode cX10_mustNumber 31 = .ok (.iload_n 2, 1) by decide +kernel) rfl rfl rfl ?_
      obtain ⟨x9, ex9, h⟩ := hm_bs h
      have cx9 := ok_X10_lies (fr := fr - 1) (ν := ν) (by omega) x8 v1 v2 μ hL ex9
      refine tp_callS (pc' := 35) (As := [.int x8, .int v1, .int v2]) (fr1 := fr - 1) okm_X10_lies lk_HandRingModel_108 (show decode cX10_mustNumber 32 = .ok (.invokestatic 108, 3) by decide +kernel) rfl rfl rfl (Nat.le_of_ble_eq_true rfl) (by omega) cx9 (st' := [.int x9]) rfl ?_
      rcases hm_is h with ⟨hc, h⟩ | ⟨hc, h⟩
      · refine tr_if_ne_f (tgt := 42) (pc' := 38) hc (show decode cX10_mustNumber 35 = .ok (.ifCond .ne 7, 3) by decide +kernel) (by decide) rfl ?_
        refine hm_fgt [true, false, false] (lv' := [some (.ref 179), none, none]) rfl ?_
        exact ok_X10_mustNumber_J38 hfr _ _ μ hL h
      · refine tr_if_ne_t (tgt := 42) hc (show decode cX10_mustNumber 35 = .ok (.ifCond .ne 7, 3) by decide +kernel) (by decide) ?_
        refine hm_fgt [true, false, false] (lv' := [some (.ref 179), none, none]) rfl ?_
        exact ok_X10_mustNumber_J42 hfr _ _ μ hL h
    · refine tr_icmp_ne_t (tgt := 38) hc (show decode cX10_mustNumber 18 = .ok (.if_icmp .ne 20, 3) by decide +kernel) (by decide) ?_
      refine hm_fgt [true, false, false] (lv' := [some (.ref 179), none, none]) rfl ?_
      exact ok_X10_mustNumber_J38 hfr _ _ μ hL h
def f_X10_readPart_J144 (k_X10_readPart : Int32 → hm_M → Option hm_M) (k_X10_readSum : Int32 → hm_M → Option hm_M) (k_X10_readTerm : Int32 → hm_M → Option hm_M) (v1 : Int32) (μ1 : hm_M) : Option hm_M :=
  Option.bind (f_X10_faults μ1) fun μ6 =>
  some μ6
theorem ok_X10_readPart_J144 {fr : Nat} (hfr : 4 ≤ fr) {ν : hm_N} {μR : hm_M} (k_X10_readPart : Int32 → hm_M → Option hm_M) (hk_X10_readPart : ∀ {μR : hm_M} (v1 : Int32)  (μ : hm_M), hm_LL ν μ → k_X10_readPart v1 μ = some μR → hm_CC (hm_LL ν) m_X10_readPart (fr - 1) 0 0 [.ref 179, .int v1] μ none μR) (k_X10_readSum : Int32 → hm_M → Option hm_M) (hk_X10_readSum : ∀ {μR : hm_M} (v1 : Int32)  (μ : hm_M), hm_LL ν μ → k_X10_readSum v1 μ = some μR → hm_CC (hm_LL ν) m_X10_readSum (fr - 1) 0 0 [.ref 179, .int v1] μ none μR) (k_X10_readTerm : Int32 → hm_M → Option hm_M) (hk_X10_readTerm : ∀ {μR : hm_M} (v1 : Int32)  (μ : hm_M), hm_LL ν μ → k_X10_readTerm v1 μ = some μR → hm_CC (hm_LL ν) m_X10_readTerm (fr - 1) 0 0 [.ref 179, .int v1] μ none μR) (v1 : Int32)     (μ1 : hm_M) (hL : hm_LL ν μ1) (h : f_X10_readPart_J144 k_X10_readPart k_X10_readSum k_X10_readTerm v1 μ1 = some μR) : hm_T (hm_LL ν) m_X10_readPart fr 0 0 none μR 144 [some (.ref 179), none, none] [] μ1 := by
  unfold f_X10_readPart_J144 at h
  refine tr_aload_n (pc' := 145) (show decode cX10_readPart 144 = .ok (.aload_n 0, 1) by decide +kernel) rfl rfl rfl ?_
  obtain ⟨μ6, ex5, h⟩ := hm_bs h
  have cx5 := ok_X10_faults (fr := fr - 1) (ν := ν) (by omega) μ1 hL ex5
  refine tp_callV (pc' := 148) (As := []) (fr1 := fr - 1) (ci := 10) okm_X10_faults lk_HandRingModel_194 (show decode cX10_readPart 145 = .ok (.invokevirtual 194, 3) by decide +kernel) rfl rfl rfl (by decide) (la_o hL (by decide) rfl) rfl rfl (Nat.le_of_ble_eq_true rfl) (by omega) cx5 (st' := []) rfl ?_
  replace hL := cx5.1
  cases h
  exact tr_vret rfl (show decode cX10_readPart 148 = .ok (.return_, 1) by decide +kernel) hL
def f_X10_readPart_J134 (k_X10_readPart : Int32 → hm_M → Option hm_M) (k_X10_readSum : Int32 → hm_M → Option hm_M) (k_X10_readTerm : Int32 → hm_M → Option hm_M) (v1 : Int32) (μ1 : hm_M) : Option hm_M :=
  Option.bind (f_X10_mustNumber (0 : Int32) (7 : Int32) μ1) fun μ10 =>
  some μ10
theorem ok_X10_readPart_J134 {fr : Nat} (hfr : 4 ≤ fr) {ν : hm_N} {μR : hm_M} (k_X10_readPart : Int32 → hm_M → Option hm_M) (hk_X10_readPart : ∀ {μR : hm_M} (v1 : Int32)  (μ : hm_M), hm_LL ν μ → k_X10_readPart v1 μ = some μR → hm_CC (hm_LL ν) m_X10_readPart (fr - 1) 0 0 [.ref 179, .int v1] μ none μR) (k_X10_readSum : Int32 → hm_M → Option hm_M) (hk_X10_readSum : ∀ {μR : hm_M} (v1 : Int32)  (μ : hm_M), hm_LL ν μ → k_X10_readSum v1 μ = some μR → hm_CC (hm_LL ν) m_X10_readSum (fr - 1) 0 0 [.ref 179, .int v1] μ none μR) (k_X10_readTerm : Int32 → hm_M → Option hm_M) (hk_X10_readTerm : ∀ {μR : hm_M} (v1 : Int32)  (μ : hm_M), hm_LL ν μ → k_X10_readTerm v1 μ = some μR → hm_CC (hm_LL ν) m_X10_readTerm (fr - 1) 0 0 [.ref 179, .int v1] μ none μR) (v1 : Int32)     (μ1 : hm_M) (hL : hm_LL ν μ1) (h : f_X10_readPart_J134 k_X10_readPart k_X10_readSum k_X10_readTerm v1 μ1 = some μR) : hm_T (hm_LL ν) m_X10_readPart fr 0 0 none μR 134 [some (.ref 179), none, none] [] μ1 := by
  unfold f_X10_readPart_J134 at h
  refine tr_aload_n (pc' := 135) (show decode cX10_readPart 134 = .ok (.aload_n 0, 1) by decide +kernel) rfl rfl rfl ?_
  refine tr_iconst (pc' := 136) (v := (0 : Int32)) (show decode cX10_readPart 135 = .ok (.iconst 0, 1) by decide +kernel) rfl (by decide) ?_
  refine tr_bipush (pc' := 138) (v := (7 : Int32)) (show decode cX10_readPart 136 = .ok (.bipush 7, 2) by decide +kernel) rfl (by decide) ?_
  obtain ⟨μ10, ex9, h⟩ := hm_bs h
  have cx9 := ok_X10_mustNumber (fr := fr - 1) (ν := ν) (by omega) (0 : Int32) (7 : Int32) μ1 hL ex9
  refine tp_callV (pc' := 141) (As := [.int (0 : Int32), .int (7 : Int32)]) (fr1 := fr - 1) (ci := 10) okm_X10_mustNumber lk_HandRingModel_213 (show decode cX10_readPart 138 = .ok (.invokevirtual 213, 3) by decide +kernel) rfl rfl rfl (by decide) (la_o hL (by decide) rfl) rfl rfl (Nat.le_of_ble_eq_true rfl) (by omega) cx9 (st' := []) rfl ?_
  replace hL := cx9.1
  refine tr_goto (tgt := 148) (show decode cX10_readPart 141 = .ok (.goto 7, 3) by decide +kernel) rfl ?_
  cases h
  exact tr_vret rfl (show decode cX10_readPart 148 = .ok (.return_, 1) by decide +kernel) hL
def f_X10_readPart_J111 (k_X10_readPart : Int32 → hm_M → Option hm_M) (k_X10_readSum : Int32 → hm_M → Option hm_M) (k_X10_readTerm : Int32 → hm_M → Option hm_M) (v1 : Int32) (y2 : Int32) (μ1 : hm_M) : Option hm_M :=
  Option.bind (f_X10_leaf μ1) fun μ8 =>
  (if (μ8.1 179 10) = 0 then
  some μ8
  else
  (if y2 = (20 : Int32) then
  f_X10_readPart_J134 k_X10_readPart k_X10_readSum k_X10_readTerm v1 μ8
  else
  (if y2 = (21 : Int32) then
  f_X10_readPart_J134 k_X10_readPart k_X10_readSum k_X10_readTerm v1 μ8
  else
  some μ8)))
theorem ok_X10_readPart_J111 {fr : Nat} (hfr : 4 ≤ fr) {ν : hm_N} {μR : hm_M} (k_X10_readPart : Int32 → hm_M → Option hm_M) (hk_X10_readPart : ∀ {μR : hm_M} (v1 : Int32)  (μ : hm_M), hm_LL ν μ → k_X10_readPart v1 μ = some μR → hm_CC (hm_LL ν) m_X10_readPart (fr - 1) 0 0 [.ref 179, .int v1] μ none μR) (k_X10_readSum : Int32 → hm_M → Option hm_M) (hk_X10_readSum : ∀ {μR : hm_M} (v1 : Int32)  (μ : hm_M), hm_LL ν μ → k_X10_readSum v1 μ = some μR → hm_CC (hm_LL ν) m_X10_readSum (fr - 1) 0 0 [.ref 179, .int v1] μ none μR) (k_X10_readTerm : Int32 → hm_M → Option hm_M) (hk_X10_readTerm : ∀ {μR : hm_M} (v1 : Int32)  (μ : hm_M), hm_LL ν μ → k_X10_readTerm v1 μ = some μR → hm_CC (hm_LL ν) m_X10_readTerm (fr - 1) 0 0 [.ref 179, .int v1] μ none μR) (v1 : Int32)    (y2 : Int32) (μ1 : hm_M) (hL : hm_LL ν μ1) (h : f_X10_readPart_J111 k_X10_readPart k_X10_readSum k_X10_readTerm v1 y2 μ1 = some μR) : hm_T (hm_LL ν) m_X10_readPart fr 0 0 none μR 111 [some (.ref 179), none, some (.int y2)] [] μ1 := by
  unfold f_X10_readPart_J111 at h
  refine tr_aload_n (pc' := 112) (show decode cX10_readPart 111 = .ok (.aload_n 0, 1) by decide +kernel) rfl rfl rfl ?_
  obtain ⟨μ8, ex7, h⟩ := hm_bs h
  have cx7 := ok_X10_leaf (fr := fr - 1) (ν := ν) (by omega) μ1 hL ex7
  refine tp_callV (pc' := 115) (As := []) (fr1 := fr - 1) (ci := 10) okm_X10_leaf lk_HandRingModel_249 (show decode cX10_readPart 112 = .ok (.invokevirtual 249, 3) by decide +kernel) rfl rfl rfl (by decide) (la_o hL (by decide) rfl) rfl rfl (Nat.le_of_ble_eq_true rfl) (by omega) cx7 (st' := []) rfl ?_
  replace hL := cx7.1
  refine tr_aload_n (pc' := 116) (show decode cX10_readPart 115 = .ok (.aload_n 0, 1) by decide +kernel) rfl rfl rfl ?_
  refine tr_getI (pc' := 119) fl_HandRingModel_217 (show decode cX10_readPart 116 = .ok (.getfield 217, 3) by decide +kernel) rfl (la_o hL (by decide) rfl) ?_
  rcases hm_is h with ⟨hc, h⟩ | ⟨hc, h⟩
  · refine tr_if_eq_t (tgt := 148) hc (show decode cX10_readPart 119 = .ok (.ifCond .eq 29, 3) by decide +kernel) (by decide) ?_
    cases h
    exact tr_vret rfl (show decode cX10_readPart 148 = .ok (.return_, 1) by decide +kernel) hL
  · refine tr_if_eq_f (tgt := 148) (pc' := 122) hc (show decode cX10_readPart 119 = .ok (.ifCond .eq 29, 3) by decide +kernel) (by decide) rfl ?_
    refine tr_iload_n (pc' := 123) (show decode cX10_readPart 122 = .ok (.iload_n 2, 1) by decide +kernel) rfl rfl rfl ?_
    refine tr_bipush (pc' := 125) (v := (20 : Int32)) (show decode cX10_readPart 123 = .ok (.bipush 20, 2) by decide +kernel) rfl (by decide) ?_
    rcases hm_is h with ⟨hc, h⟩ | ⟨hc, h⟩
    · refine tr_icmp_eq_t (tgt := 134) hc (show decode cX10_readPart 125 = .ok (.if_icmp .eq 9, 3) by decide +kernel) (by decide) ?_
      refine hm_fgt [true, false, false] (lv' := [some (.ref 179), none, none]) rfl ?_
      exact ok_X10_readPart_J134 hfr k_X10_readPart hk_X10_readPart k_X10_readSum hk_X10_readSum k_X10_readTerm hk_X10_readTerm _ μ8 hL h
    · refine tr_icmp_eq_f (tgt := 134) (pc' := 128) hc (show decode cX10_readPart 125 = .ok (.if_icmp .eq 9, 3) by decide +kernel) (by decide) rfl ?_
      refine tr_iload_n (pc' := 129) (show decode cX10_readPart 128 = .ok (.iload_n 2, 1) by decide +kernel) rfl rfl rfl ?_
      refine tr_bipush (pc' := 131) (v := (21 : Int32)) (show decode cX10_readPart 129 = .ok (.bipush 21, 2) by decide +kernel) rfl (by decide) ?_
      rcases hm_is h with ⟨hc, h⟩ | ⟨hc, h⟩
      · refine tr_icmp_ne_f (tgt := 148) (pc' := 134) hc (show decode cX10_readPart 131 = .ok (.if_icmp .ne 17, 3) by decide +kernel) (by decide) rfl ?_
        refine hm_fgt [true, false, false] (lv' := [some (.ref 179), none, none]) rfl ?_
        exact ok_X10_readPart_J134 hfr k_X10_readPart hk_X10_readPart k_X10_readSum hk_X10_readSum k_X10_readTerm hk_X10_readTerm _ μ8 hL h
      · refine tr_icmp_ne_t (tgt := 148) hc (show decode cX10_readPart 131 = .ok (.if_icmp .ne 17, 3) by decide +kernel) (by decide) ?_
        cases h
        exact tr_vret rfl (show decode cX10_readPart 148 = .ok (.return_, 1) by decide +kernel) hL
def f_X10_readPart_J95 (k_X10_readPart : Int32 → hm_M → Option hm_M) (k_X10_readSum : Int32 → hm_M → Option hm_M) (k_X10_readTerm : Int32 → hm_M → Option hm_M) (v1 : Int32) (y2 : Int32) (μ1 : hm_M) : Option hm_M :=
  (if y2 < (μ1.1 179 8) then
  f_X10_readPart_J144 k_X10_readPart k_X10_readSum k_X10_readTerm v1 μ1
  else
  (if (μ1.1 179 9) < y2 then
  f_X10_readPart_J144 k_X10_readPart k_X10_readSum k_X10_readTerm v1 μ1
  else
  f_X10_readPart_J111 k_X10_readPart k_X10_readSum k_X10_readTerm v1 y2 μ1))
theorem ok_X10_readPart_J95 {fr : Nat} (hfr : 4 ≤ fr) {ν : hm_N} {μR : hm_M} (k_X10_readPart : Int32 → hm_M → Option hm_M) (hk_X10_readPart : ∀ {μR : hm_M} (v1 : Int32)  (μ : hm_M), hm_LL ν μ → k_X10_readPart v1 μ = some μR → hm_CC (hm_LL ν) m_X10_readPart (fr - 1) 0 0 [.ref 179, .int v1] μ none μR) (k_X10_readSum : Int32 → hm_M → Option hm_M) (hk_X10_readSum : ∀ {μR : hm_M} (v1 : Int32)  (μ : hm_M), hm_LL ν μ → k_X10_readSum v1 μ = some μR → hm_CC (hm_LL ν) m_X10_readSum (fr - 1) 0 0 [.ref 179, .int v1] μ none μR) (k_X10_readTerm : Int32 → hm_M → Option hm_M) (hk_X10_readTerm : ∀ {μR : hm_M} (v1 : Int32)  (μ : hm_M), hm_LL ν μ → k_X10_readTerm v1 μ = some μR → hm_CC (hm_LL ν) m_X10_readTerm (fr - 1) 0 0 [.ref 179, .int v1] μ none μR) (v1 : Int32)    (y2 : Int32) (μ1 : hm_M) (hL : hm_LL ν μ1) (h : f_X10_readPart_J95 k_X10_readPart k_X10_readSum k_X10_readTerm v1 y2 μ1 = some μR) : hm_T (hm_LL ν) m_X10_readPart fr 0 0 none μR 95 [some (.ref 179), none, some (.int y2)] [] μ1 := by
  unfold f_X10_readPart_J95 at h
  refine tr_iload_n (pc' := 96) (show decode cX10_readPart 95 = .ok (.iload_n 2, 1) by decide +kernel) rfl rfl rfl ?_
  refine tr_aload_n (pc' := 97) (show decode cX10_readPart 96 = .ok (.aload_n 0, 1) by decide +kernel) rfl rfl rfl ?_
  refine tr_getI (pc' := 100) fl_HandRingModel_243 (show decode cX10_readPart 97 = .ok (.getfield 243, 3) by decide +kernel) rfl (la_o hL (by decide) rfl) ?_
  rcases hm_is h with ⟨hc, h⟩ | ⟨hc, h⟩
  · refine tr_icmp_lt_t (tgt := 144) hc (show decode cX10_readPart 100 = .ok (.if_icmp .lt 44, 3) by decide +kernel) (by decide) ?_
    refine hm_fgt [true, false, false] (lv' := [some (.ref 179), none, none]) rfl ?_
    exact ok_X10_readPart_J144 hfr k_X10_readPart hk_X10_readPart k_X10_readSum hk_X10_readSum k_X10_readTerm hk_X10_readTerm _ μ1 hL h
  · refine tr_icmp_lt_f (tgt := 144) (pc' := 103) hc (show decode cX10_readPart 100 = .ok (.if_icmp .lt 44, 3) by decide +kernel) (by decide) rfl ?_
    refine tr_iload_n (pc' := 104) (show decode cX10_readPart 103 = .ok (.iload_n 2, 1) by decide +kernel) rfl rfl rfl ?_
    refine tr_aload_n (pc' := 105) (show decode cX10_readPart 104 = .ok (.aload_n 0, 1) by decide +kernel) rfl rfl rfl ?_
    refine tr_getI (pc' := 108) fl_HandRingModel_246 (show decode cX10_readPart 105 = .ok (.getfield 246, 3) by decide +kernel) rfl (la_o hL (by decide) rfl) ?_
    rcases hm_is h with ⟨hc, h⟩ | ⟨hc, h⟩
    · refine tr_icmp_gt_t (tgt := 144) hc (show decode cX10_readPart 108 = .ok (.if_icmp .gt 36, 3) by decide +kernel) (by decide) ?_
      refine hm_fgt [true, false, false] (lv' := [some (.ref 179), none, none]) rfl ?_
      exact ok_X10_readPart_J144 hfr k_X10_readPart hk_X10_readPart k_X10_readSum hk_X10_readSum k_X10_readTerm hk_X10_readTerm _ μ1 hL h
    · refine tr_icmp_gt_f (tgt := 144) (pc' := 111) hc (show decode cX10_readPart 108 = .ok (.if_icmp .gt 36, 3) by decide +kernel) (by decide) rfl ?_
      exact ok_X10_readPart_J111 hfr k_X10_readPart hk_X10_readPart k_X10_readSum hk_X10_readSum k_X10_readTerm hk_X10_readTerm _ y2 μ1 hL h
def f_X10_readPart_J37 (k_X10_readPart : Int32 → hm_M → Option hm_M) (k_X10_readSum : Int32 → hm_M → Option hm_M) (k_X10_readTerm : Int32 → hm_M → Option hm_M) (v1 : Int32) (μ1 : hm_M) : Option hm_M :=
  Option.bind (f_X10_fine μ1) fun x12 =>
  (if x12 = 0 then
  some μ1
  else
  Option.bind (hm_pI μ1 179 19 ((μ1.1 179 19) + (1 : Int32))) fun μ13 =>
  Option.bind (k_X10_readSum (v1 + (1 : Int32)) μ13) fun μ15 =>
  Option.bind (f_X10_sign (93 : Int32)) fun x16 =>
  Option.bind (f_X10_must x16 μ15) fun μ18 =>
  some μ18)
theorem ok_X10_readPart_J37 {fr : Nat} (hfr : 4 ≤ fr) {ν : hm_N} {μR : hm_M} (k_X10_readPart : Int32 → hm_M → Option hm_M) (hk_X10_readPart : ∀ {μR : hm_M} (v1 : Int32)  (μ : hm_M), hm_LL ν μ → k_X10_readPart v1 μ = some μR → hm_CC (hm_LL ν) m_X10_readPart (fr - 1) 0 0 [.ref 179, .int v1] μ none μR) (k_X10_readSum : Int32 → hm_M → Option hm_M) (hk_X10_readSum : ∀ {μR : hm_M} (v1 : Int32)  (μ : hm_M), hm_LL ν μ → k_X10_readSum v1 μ = some μR → hm_CC (hm_LL ν) m_X10_readSum (fr - 1) 0 0 [.ref 179, .int v1] μ none μR) (k_X10_readTerm : Int32 → hm_M → Option hm_M) (hk_X10_readTerm : ∀ {μR : hm_M} (v1 : Int32)  (μ : hm_M), hm_LL ν μ → k_X10_readTerm v1 μ = some μR → hm_CC (hm_LL ν) m_X10_readTerm (fr - 1) 0 0 [.ref 179, .int v1] μ none μR) (v1 : Int32)     (μ1 : hm_M) (hL : hm_LL ν μ1) (h : f_X10_readPart_J37 k_X10_readPart k_X10_readSum k_X10_readTerm v1 μ1 = some μR) : hm_T (hm_LL ν) m_X10_readPart fr 0 0 none μR 37 [some (.ref 179), some (.int v1), none] [] μ1 := by
  unfold f_X10_readPart_J37 at h
  refine tr_aload_n (pc' := 38) (show decode cX10_readPart 37 = .ok (.aload_n 0, 1) by decide +kernel) rfl rfl rfl ?_
  obtain ⟨x12, ex12, h⟩ := hm_bs h
  have cx12 := ok_X10_fine (fr := fr - 1) (ν := ν) (by omega) μ1 hL ex12
  refine tp_callV (pc' := 41) (As := []) (fr1 := fr - 1) (ci := 10) okm_X10_fine lk_HandRingModel_184 (show decode cX10_readPart 38 = .ok (.invokevirtual 184, 3) by decide +kernel) rfl rfl rfl (by decide) (la_o hL (by decide) rfl) rfl rfl (Nat.le_of_ble_eq_true rfl) (by omega) cx12 (st' := [.int x12]) rfl ?_
  rcases hm_is h with ⟨hc, h⟩ | ⟨hc, h⟩
  · refine tr_if_ne_f (tgt := 45) (pc' := 44) hc (show decode cX10_readPart 41 = .ok (.ifCond .ne 4, 3) by decide +kernel) (by decide) rfl ?_
    cases h
    exact tr_vret rfl (show decode cX10_readPart 44 = .ok (.return_, 1) by decide +kernel) hL
  · refine tr_if_ne_t (tgt := 45) hc (show decode cX10_readPart 41 = .ok (.ifCond .ne 4, 3) by decide +kernel) (by decide) ?_
    refine tr_aload_n (pc' := 46) (show decode cX10_readPart 45 = .ok (.aload_n 0, 1) by decide +kernel) rfl rfl rfl ?_
    refine tr_dup (pc' := 47) (show decode cX10_readPart 46 = .ok (.dup, 1) by decide +kernel) rfl rfl ?_
    refine tr_getI (pc' := 50) fl_HandRingModel_188 (show decode cX10_readPart 47 = .ok (.getfield 188, 3) by decide +kernel) rfl (la_o hL (by decide) rfl) ?_
    refine tr_iconst (pc' := 51) (v := (1 : Int32)) (show decode cX10_readPart 50 = .ok (.iconst 1, 1) by decide +kernel) rfl (by decide) ?_
    refine tr_iadd (pc' := 52) (show decode cX10_readPart 51 = .ok (.iadd, 1) by decide +kernel) rfl ?_
    obtain ⟨μ13, eμ13, h⟩ := hm_bs h
    refine tp_pI (pc' := 55) fl_HandRingModel_188 (show decode cX10_readPart 52 = .ok (.putfield 188, 3) by decide +kernel) rfl (la_o hL (by decide) rfl) eμ13 ?_
    replace hL := hL.same (hm_pI_s eμ13)
    refine tr_aload_n (pc' := 56) (show decode cX10_readPart 55 = .ok (.aload_n 0, 1) by decide +kernel) rfl rfl rfl ?_
    refine tr_iload_n (pc' := 57) (show decode cX10_readPart 56 = .ok (.iload_n 1, 1) by decide +kernel) rfl rfl rfl ?_
    refine tr_iconst (pc' := 58) (v := (1 : Int32)) (show decode cX10_readPart 57 = .ok (.iconst 1, 1) by decide +kernel) rfl (by decide) ?_
    refine tr_iadd (pc' := 59) (show decode cX10_readPart 58 = .ok (.iadd, 1) by decide +kernel) rfl ?_
    obtain ⟨μ15, ex14, h⟩ := hm_bs h
    have cx14 := hk_X10_readSum (v1 + (1 : Int32)) μ13 hL ex14
    refine tp_callV (pc' := 62) (As := [.int (v1 + (1 : Int32))]) (fr1 := fr - 1) (ci := 10) okm_X10_readSum lk_HandRingModel_200 (show decode cX10_readPart 59 = .ok (.invokevirtual 200, 3) by decide +kernel) rfl rfl rfl (by decide) (la_o hL (by decide) rfl) rfl rfl (Nat.le_of_ble_eq_true rfl) (by omega) cx14 (st' := []) rfl ?_
    replace hL := cx14.1
    refine tr_aload_n (pc' := 63) (show decode cX10_readPart 62 = .ok (.aload_n 0, 1) by decide +kernel) rfl rfl rfl ?_
    refine tr_bipush (pc' := 65) (v := (93 : Int32)) (show decode cX10_readPart 63 = .ok (.bipush 93, 2) by decide +kernel) rfl (by decide) ?_
    obtain ⟨x16, ex16, h⟩ := hm_bs h
    have cx16 := ok_X10_sign (fr := fr - 1) (ν := ν) (by omega) (93 : Int32) μ15 hL ex16
    refine tp_callS (pc' := 68) (As := [.int (93 : Int32)]) (fr1 := fr - 1) okm_X10_sign lk_HandRingModel_233 (show decode cX10_readPart 65 = .ok (.invokestatic 233, 3) by decide +kernel) rfl rfl rfl (Nat.le_of_ble_eq_true rfl) (by omega) cx16 (st' := [.int x16, .ref 179]) rfl ?_
    obtain ⟨μ18, ex17, h⟩ := hm_bs h
    have cx17 := ok_X10_must (fr := fr - 1) (ν := ν) (by omega) x16 μ15 hL ex17
    refine tp_callV (pc' := 71) (As := [.int x16]) (fr1 := fr - 1) (ci := 10) okm_X10_must lk_HandRingModel_204 (show decode cX10_readPart 68 = .ok (.invokevirtual 204, 3) by decide +kernel) rfl rfl rfl (by decide) (la_o hL (by decide) rfl) rfl rfl (Nat.le_of_ble_eq_true rfl) (by omega) cx17 (st' := []) rfl ?_
    replace hL := cx17.1
    refine tr_goto (tgt := 148) (show decode cX10_readPart 71 = .ok (.goto 77, 3) by decide +kernel) rfl ?_
    cases h
    exact tr_vret rfl (show decode cX10_readPart 148 = .ok (.return_, 1) by decide +kernel) hL
def f_X10_readPart (k_X10_readPart : Int32 → hm_M → Option hm_M) (k_X10_readSum : Int32 → hm_M → Option hm_M) (k_X10_readTerm : Int32 → hm_M → Option hm_M) (v1 : Int32) (μ : hm_M) : Option hm_M :=
  Option.bind (f_X10_fine μ) fun x2 =>
  (if x2 = 0 then
  some μ
  else
  Option.bind (hm_ld μ 188 401 (μ.1 179 19)) fun x3 =>
  Option.bind (f_X10_sign (91 : Int32)) fun x4 =>
  (if x3 = x4 then
  (if v1 = (8 : Int32) then
  Option.bind (f_X10_faults μ) fun μ20 =>
  f_X10_readPart_J37 k_X10_readPart k_X10_readSum k_X10_readTerm v1 μ20
  else
  f_X10_readPart_J37 k_X10_readPart k_X10_readSum k_X10_readTerm v1 μ)
  else
  (if x3 = (50 : Int32) then
  Option.bind (hm_ld μ 189 401 (μ.1 179 19)) fun x11 =>
  (if x11 ≤ (1000 : Int32) then
  f_X10_readPart_J111 k_X10_readPart k_X10_readSum k_X10_readTerm v1 x3 μ
  else
  f_X10_readPart_J95 k_X10_readPart k_X10_readSum k_X10_readTerm v1 x3 μ)
  else
  f_X10_readPart_J95 k_X10_readPart k_X10_readSum k_X10_readTerm v1 x3 μ)))
set_option maxRecDepth 100000 in
theorem ok_X10_readPart {fr : Nat} (hfr : 4 ≤ fr) {ν : hm_N} {μR : hm_M} (k_X10_readPart : Int32 → hm_M → Option hm_M) (hk_X10_readPart : ∀ {μR : hm_M} (v1 : Int32)  (μ : hm_M), hm_LL ν μ → k_X10_readPart v1 μ = some μR → hm_CC (hm_LL ν) m_X10_readPart (fr - 1) 0 0 [.ref 179, .int v1] μ none μR) (k_X10_readSum : Int32 → hm_M → Option hm_M) (hk_X10_readSum : ∀ {μR : hm_M} (v1 : Int32)  (μ : hm_M), hm_LL ν μ → k_X10_readSum v1 μ = some μR → hm_CC (hm_LL ν) m_X10_readSum (fr - 1) 0 0 [.ref 179, .int v1] μ none μR) (k_X10_readTerm : Int32 → hm_M → Option hm_M) (hk_X10_readTerm : ∀ {μR : hm_M} (v1 : Int32)  (μ : hm_M), hm_LL ν μ → k_X10_readTerm v1 μ = some μR → hm_CC (hm_LL ν) m_X10_readTerm (fr - 1) 0 0 [.ref 179, .int v1] μ none μR) (v1 : Int32)  (μ : hm_M) (hL : hm_LL ν μ) (h : f_X10_readPart k_X10_readPart k_X10_readSum k_X10_readTerm v1 μ = some μR) : hm_CC (hm_LL ν) m_X10_readPart fr 0 0 [.ref 179, .int v1] μ none μR := by
  refine hm_enter (lv := [some (.ref 179), some (.int v1), none]) (by decide) rfl (Nat.le_of_ble_eq_true rfl) ?_
  unfold f_X10_readPart at h
  refine tr_aload_n (pc' := 1) (show decode cX10_readPart 0 = .ok (.aload_n 0, 1) by decide +kernel) rfl rfl rfl ?_
  obtain ⟨x2, ex2, h⟩ := hm_bs h
  have cx2 := ok_X10_fine (fr := fr - 1) (ν := ν) (by omega) μ hL ex2
  refine tp_callV (pc' := 4) (As := []) (fr1 := fr - 1) (ci := 10) okm_X10_fine lk_HandRingModel_184 (show decode cX10_readPart 1 = .ok (.invokevirtual 184, 3) by decide +kernel) rfl rfl rfl (by decide) (la_o hL (by decide) rfl) rfl rfl (Nat.le_of_ble_eq_true rfl) (by omega) cx2 (st' := [.int x2]) rfl ?_
  rcases hm_is h with ⟨hc, h⟩ | ⟨hc, h⟩
  · refine tr_if_ne_f (tgt := 8) (pc' := 7) hc (show decode cX10_readPart 4 = .ok (.ifCond .ne 4, 3) by decide +kernel) (by decide) rfl ?_
    cases h
    exact tr_vret rfl (show decode cX10_readPart 7 = .ok (.return_, 1) by decide +kernel) hL
  · refine tr_if_ne_t (tgt := 8) hc (show decode cX10_readPart 4 = .ok (.ifCond .ne 4, 3) by decide +kernel) (by decide) ?_
    refine tr_aload_n (pc' := 9) (show decode cX10_readPart 8 = .ok (.aload_n 0, 1) by decide +kernel) rfl rfl rfl ?_
    refine tr_getR (pc' := 12) fl_HandRingModel_50 (show decode cX10_readPart 9 = .ok (.getfield 50, 3) by decide +kernel) rfl (la_o hL (by decide) rfl) (la_r hL 125 rfl) ?_
    refine tr_aload_n (pc' := 13) (show decode cX10_readPart 12 = .ok (.aload_n 0, 1) by decide +kernel) rfl rfl rfl ?_
    refine tr_getI (pc' := 16) fl_HandRingModel_188 (show decode cX10_readPart 13 = .ok (.getfield 188, 3) by decide +kernel) rfl (la_o hL (by decide) rfl) ?_
    obtain ⟨x3, ex3, h⟩ := hm_bs h
    refine tp_ldI (pc' := 17) (show decode cX10_readPart 16 = .ok (.iaload, 1) by decide +kernel) rfl (la_a hL (by decide) rfl) ex3 ?_
    refine tr_istore_n (pc' := 18) (lv' := [some (.ref 179), some (.int v1), some (.int x3)]) (show decode cX10_readPart 17 = .ok (.istore_n 2, 1) by decide +kernel) rfl rfl (Nat.le_of_ble_eq_true rfl) rfl rfl ?_
    refine tr_iload_n (pc' := 19) (show decode cX10_readPart 18 = .ok (.iload_n 2, 1) by decide +kernel) rfl rfl rfl ?_
    refine tr_bipush (pc' := 21) (v := (91 : Int32)) (show decode cX10_readPart 19 = .ok (.bipush 91, 2) by decide +kernel) rfl (by decide) ?_
    obtain ⟨x4, ex4, h⟩ := hm_bs h
    have cx4 := ok_X10_sign (fr := fr - 1) (ν := ν) (by omega) (91 : Int32) μ hL ex4
    refine tp_callS (pc' := 24) (As := [.int (91 : Int32)]) (fr1 := fr - 1) okm_X10_sign lk_HandRingModel_233 (show decode cX10_readPart 21 = .ok (.invokestatic 233, 3) by decide +kernel) rfl rfl rfl (Nat.le_of_ble_eq_true rfl) (by omega) cx4 (st' := [.int x4, .int x3]) rfl ?_
    rcases hm_is h with ⟨hc, h⟩ | ⟨hc, h⟩
    · refine tr_icmp_ne_f (tgt := 74) (pc' := 27) hc (show decode cX10_readPart 24 = .ok (.if_icmp .ne 50, 3) by decide +kernel) (by decide) rfl ?_
      refine tr_iload_n (pc' := 28) (show decode cX10_readPart 27 = .ok (.iload_n 1, 1) by decide +kernel) rfl rfl rfl ?_
      refine tr_bipush (pc' := 30) (v := (8 : Int32)) (show decode cX10_readPart 28 = .ok (.bipush 8, 2) by decide +kernel) rfl (by decide) ?_
      rcases hm_is h with ⟨hc, h⟩ | ⟨hc, h⟩
      · refine tr_icmp_ne_f (tgt := 37) (pc' := 33) hc (show decode cX10_readPart 30 = .ok (.if_icmp .ne 7, 3) by decide +kernel) (by decide) rfl ?_
        refine tr_aload_n (pc' := 34) (show decode cX10_readPart 33 = .ok (.aload_n 0, 1) by decide +kernel) rfl rfl rfl ?_
        obtain ⟨μ20, ex19, h⟩ := hm_bs h
        have cx19 := ok_X10_faults (fr := fr - 1) (ν := ν) (by omega) μ hL ex19
        refine tp_callV (pc' := 37) (As := []) (fr1 := fr - 1) (ci := 10) okm_X10_faults lk_HandRingModel_194 (show decode cX10_readPart 34 = .ok (.invokevirtual 194, 3) by decide +kernel) rfl rfl rfl (by decide) (la_o hL (by decide) rfl) rfl rfl (Nat.le_of_ble_eq_true rfl) (by omega) cx19 (st' := []) rfl ?_
        replace hL := cx19.1
        refine hm_fgt [true, true, false] (lv' := [some (.ref 179), some (.int v1), none]) rfl ?_
        exact ok_X10_readPart_J37 hfr k_X10_readPart hk_X10_readPart k_X10_readSum hk_X10_readSum k_X10_readTerm hk_X10_readTerm _ μ20 hL h
      · refine tr_icmp_ne_t (tgt := 37) hc (show decode cX10_readPart 30 = .ok (.if_icmp .ne 7, 3) by decide +kernel) (by decide) ?_
        refine hm_fgt [true, true, false] (lv' := [some (.ref 179), some (.int v1), none]) rfl ?_
        exact ok_X10_readPart_J37 hfr k_X10_readPart hk_X10_readPart k_X10_readSum hk_X10_readSum k_X10_readTerm hk_X10_readTerm _ μ hL h
    · refine tr_icmp_ne_t (tgt := 74) hc (show decode cX10_readPart 24 = .ok (.if_icmp .ne 50, 3) by decide +kernel) (by decide) ?_
      refine tr_iload_n (pc' := 75) (show decode cX10_readPart 74 = .ok (.iload_n 2, 1) by decide +kernel) rfl rfl rfl ?_
      refine tr_bipush (pc' := 77) (v := (50 : Int32)) (show decode cX10_readPart 75 = .ok (.bipush 50, 2) by decide +kernel) rfl (by decide) ?_
      rcases hm_is h with ⟨hc, h⟩ | ⟨hc, h⟩
      · refine tr_icmp_ne_f (tgt := 95) (pc' := 80) hc (show decode cX10_readPart 77 = .ok (.if_icmp .ne 18, 3) by decide +kernel) (by decide) rfl ?_
        refine tr_aload_n (pc' := 81) (show decode cX10_readPart 80 = .ok (.aload_n 0, 1) by decide +kernel) rfl rfl rfl ?_
        refine tr_getR (pc' := 84) fl_HandRingModel_53 (show decode cX10_readPart 81 = .ok (.getfield 53, 3) by decide +kernel) rfl (la_o hL (by decide) rfl) (la_r hL 126 rfl) ?_
        refine tr_aload_n (pc' := 85) (show decode cX10_readPart 84 = .ok (.aload_n 0, 1) by decide +kernel) rfl rfl rfl ?_
        refine tr_getI (pc' := 88) fl_HandRingModel_188 (show decode cX10_readPart 85 = .ok (.getfield 188, 3) by decide +kernel) rfl (la_o hL (by decide) rfl) ?_
        obtain ⟨x11, ex11, h⟩ := hm_bs h
        refine tp_ldI (pc' := 89) (show decode cX10_readPart 88 = .ok (.iaload, 1) by decide +kernel) rfl (la_a hL (by decide) rfl) ex11 ?_
        refine tr_sipush (pc' := 92) (v := (1000 : Int32)) (show decode cX10_readPart 89 = .ok (.sipush 1000, 3) by decide +kernel) rfl (by decide) ?_
        rcases hm_is h with ⟨hc, h⟩ | ⟨hc, h⟩
        · refine tr_icmp_le_t (tgt := 111) hc (show decode cX10_readPart 92 = .ok (.if_icmp .le 19, 3) by decide +kernel) (by decide) ?_
          refine hm_fgt [true, false, true] (lv' := [some (.ref 179), none, some (.int x3)]) rfl ?_
          exact ok_X10_readPart_J111 hfr k_X10_readPart hk_X10_readPart k_X10_readSum hk_X10_readSum k_X10_readTerm hk_X10_readTerm _ x3 μ hL h
        · refine tr_icmp_le_f (tgt := 111) (pc' := 95) hc (show decode cX10_readPart 92 = .ok (.if_icmp .le 19, 3) by decide +kernel) (by decide) rfl ?_
          refine hm_fgt [true, false, true] (lv' := [some (.ref 179), none, some (.int x3)]) rfl ?_
          exact ok_X10_readPart_J95 hfr k_X10_readPart hk_X10_readPart k_X10_readSum hk_X10_readSum k_X10_readTerm hk_X10_readTerm _ x3 μ hL h
      · refine tr_icmp_ne_t (tgt := 95) hc (show decode cX10_readPart 77 = .ok (.if_icmp .ne 18, 3) by decide +kernel) (by decide) ?_
        refine hm_fgt [true, false, true] (lv' := [some (.ref 179), none, some (.int x3)]) rfl ?_
        exact ok_X10_readPart_J95 hfr k_X10_readPart hk_X10_readPart k_X10_readSum hk_X10_readSum k_X10_readTerm hk_X10_readTerm _ x3 μ hL h
def f_X10_readSum_J29 (k_X10_readPart : Int32 → hm_M → Option hm_M) (k_X10_readSum : Int32 → hm_M → Option hm_M) (k_X10_readTerm : Int32 → hm_M → Option hm_M) (v1 : Int32) (c5 : hm_M → Option hm_M) (e37 : hm_M → Option hm_M) (μ1 : hm_M) : Option hm_M :=
  Option.bind (k_X10_readTerm v1 μ1) fun μ8 =>
  c5 μ8
theorem ok_X10_readSum_J29 {fr : Nat} (hfr : 3 ≤ fr) {ν : hm_N} {μR : hm_M} (k_X10_readPart : Int32 → hm_M → Option hm_M) (hk_X10_readPart : ∀ {μR : hm_M} (v1 : Int32)  (μ : hm_M), hm_LL ν μ → k_X10_readPart v1 μ = some μR → hm_CC (hm_LL ν) m_X10_readPart (fr - 1) 0 0 [.ref 179, .int v1] μ none μR) (k_X10_readSum : Int32 → hm_M → Option hm_M) (hk_X10_readSum : ∀ {μR : hm_M} (v1 : Int32)  (μ : hm_M), hm_LL ν μ → k_X10_readSum v1 μ = some μR → hm_CC (hm_LL ν) m_X10_readSum (fr - 1) 0 0 [.ref 179, .int v1] μ none μR) (k_X10_readTerm : Int32 → hm_M → Option hm_M) (hk_X10_readTerm : ∀ {μR : hm_M} (v1 : Int32)  (μ : hm_M), hm_LL ν μ → k_X10_readTerm v1 μ = some μR → hm_CC (hm_LL ν) m_X10_readTerm (fr - 1) 0 0 [.ref 179, .int v1] μ none μR) (v1 : Int32) (c5 : hm_M → Option hm_M) (e37 : hm_M → Option hm_M) (hc5 : ∀   (μ1 : hm_M), hm_LL ν μ1 → c5 μ1 = some μR → hm_T (hm_LL ν) m_X10_readSum fr 0 0 none μR 5 [some (.ref 179), some (.int v1)] [] μ1) (he37 : ∀   (μ1 : hm_M), hm_LL ν μ1 → e37 μ1 = some μR → hm_T (hm_LL ν) m_X10_readSum fr 0 0 none μR 37 [none, none] [] μ1)   (μ1 : hm_M) (hL : hm_LL ν μ1) (h : f_X10_readSum_J29 k_X10_readPart k_X10_readSum k_X10_readTerm v1 c5 e37 μ1 = some μR) : hm_T (hm_LL ν) m_X10_readSum fr 0 0 none μR 29 [some (.ref 179), some (.int v1)] [] μ1 := by
  unfold f_X10_readSum_J29 at h
  refine tr_aload_n (pc' := 30) (show decode cX10_readSum 29 = .ok (.aload_n 0, 1) by decide +kernel) rfl rfl rfl ?_
  refine tr_iload_n (pc' := 31) (show decode cX10_readSum 30 = .ok (.iload_n 1, 1) by decide +kernel) rfl rfl rfl ?_
  obtain ⟨μ8, ex7, h⟩ := hm_bs h
  have cx7 := hk_X10_readTerm v1 μ1 hL ex7
  refine tp_callV (pc' := 34) (As := [.int v1]) (fr1 := fr - 1) (ci := 10) okm_X10_readTerm lk_HandRingModel_237 (show decode cX10_readSum 31 = .ok (.invokevirtual 237, 3) by decide +kernel) rfl rfl rfl (by decide) (la_o hL (by decide) rfl) rfl rfl (Nat.le_of_ble_eq_true rfl) (by omega) cx7 (st' := []) rfl ?_
  replace hL := cx7.1
  refine tr_goto (tgt := 5) (show decode cX10_readSum 34 = .ok (.goto (-29), 3) by decide +kernel) rfl ?_
  exact hc5 μ8 hL h
def f_X10_readSum_L5 (k_X10_readPart : Int32 → hm_M → Option hm_M) (k_X10_readSum : Int32 → hm_M → Option hm_M) (k_X10_readTerm : Int32 → hm_M → Option hm_M) (v1 : Int32) (e37 : hm_M → Option hm_M) : Nat → hm_M → Option hm_M
  | 0, _ => none
  | n + 1, μ1 => Option.bind (f_X10_sign (43 : Int32)) fun x4 =>
  hm_b2 (f_X10_takes0 x4 μ1) fun x5 μ6 =>
  (if x5 = 0 then
  Option.bind (f_X10_sign (45 : Int32)) fun x9 =>
  hm_b2 (f_X10_takes0 x9 μ6) fun x10 μ11 =>
  (if x10 = 0 then
  e37 μ11
  else
  f_X10_readSum_J29 k_X10_readPart k_X10_readSum k_X10_readTerm v1 (f_X10_readSum_L5 k_X10_readPart k_X10_readSum k_X10_readTerm v1 e37 n) e37 μ11)
  else
  f_X10_readSum_J29 k_X10_readPart k_X10_readSum k_X10_readTerm v1 (f_X10_readSum_L5 k_X10_readPart k_X10_readSum k_X10_readTerm v1 e37 n) e37 μ6)
theorem ok_X10_readSum_L5 {fr : Nat} (hfr : 3 ≤ fr) {ν : hm_N} {μR : hm_M} (k_X10_readPart : Int32 → hm_M → Option hm_M) (hk_X10_readPart : ∀ {μR : hm_M} (v1 : Int32)  (μ : hm_M), hm_LL ν μ → k_X10_readPart v1 μ = some μR → hm_CC (hm_LL ν) m_X10_readPart (fr - 1) 0 0 [.ref 179, .int v1] μ none μR) (k_X10_readSum : Int32 → hm_M → Option hm_M) (hk_X10_readSum : ∀ {μR : hm_M} (v1 : Int32)  (μ : hm_M), hm_LL ν μ → k_X10_readSum v1 μ = some μR → hm_CC (hm_LL ν) m_X10_readSum (fr - 1) 0 0 [.ref 179, .int v1] μ none μR) (k_X10_readTerm : Int32 → hm_M → Option hm_M) (hk_X10_readTerm : ∀ {μR : hm_M} (v1 : Int32)  (μ : hm_M), hm_LL ν μ → k_X10_readTerm v1 μ = some μR → hm_CC (hm_LL ν) m_X10_readTerm (fr - 1) 0 0 [.ref 179, .int v1] μ none μR) (v1 : Int32) (e37 : hm_M → Option hm_M)  (he37 : ∀   (μ1 : hm_M), hm_LL ν μ1 → e37 μ1 = some μR → hm_T (hm_LL ν) m_X10_readSum fr 0 0 none μR 37 [none, none] [] μ1)  : ∀ (n : Nat)   (μ1 : hm_M), hm_LL ν μ1 → f_X10_readSum_L5 k_X10_readPart k_X10_readSum k_X10_readTerm v1 e37 n μ1 = some μR → hm_T (hm_LL ν) m_X10_readSum fr 0 0 none μR 5 [some (.ref 179), some (.int v1)] [] μ1 := by
  intro n
  induction n with
  | zero =>
    intro μ1 hL h
    unfold f_X10_readSum_L5 at h
    cases h
  | succ n ih =>
    intro μ1 hL h
    unfold f_X10_readSum_L5 at h
    refine tr_aload_n (pc' := 6) (show decode cX10_readSum 5 = .ok (.aload_n 0, 1) by decide +kernel) rfl rfl rfl ?_
    refine tr_bipush (pc' := 8) (v := (43 : Int32)) (show decode cX10_readSum 6 = .ok (.bipush 43, 2) by decide +kernel) rfl (by decide) ?_
    obtain ⟨x4, ex4, h⟩ := hm_bs h
    have cx4 := ok_X10_sign (fr := fr - 1) (ν := ν) (by omega) (43 : Int32) μ1 hL ex4
    refine tp_callS (pc' := 11) (As := [.int (43 : Int32)]) (fr1 := fr - 1) okm_X10_sign lk_HandRingModel_233 (show decode cX10_readSum 8 = .ok (.invokestatic 233, 3) by decide +kernel) rfl rfl rfl (Nat.le_of_ble_eq_true rfl) (by omega) cx4 (st' := [.int x4, .ref 179]) rfl ?_
    obtain ⟨x5, μ6, ex5, h⟩ := hm_b2s h
    have cx5 := ok_X10_takes0 (fr := fr - 1) (ν := ν) (by omega) x4 μ1 hL ex5
    refine tp_callV (pc' := 14) (As := [.int x4]) (fr1 := fr - 1) (ci := 10) okm_X10_takes0 lk_HandRingModel_191 (show decode cX10_readSum 11 = .ok (.invokevirtual 191, 3) by decide +kernel) rfl rfl rfl (by decide) (la_o hL (by decide) rfl) rfl rfl (Nat.le_of_ble_eq_true rfl) (by omega) cx5 (st' := [.int x5]) rfl ?_
    replace hL := cx5.1
    rcases hm_is h with ⟨hc, h⟩ | ⟨hc, h⟩
    · refine tr_if_ne_f (tgt := 29) (pc' := 17) hc (show decode cX10_readSum 14 = .ok (.ifCond .ne 15, 3) by decide +kernel) (by decide) rfl ?_
      refine tr_aload_n (pc' := 18) (show decode cX10_readSum 17 = .ok (.aload_n 0, 1) by decide +kernel) rfl rfl rfl ?_
      refine tr_bipush (pc' := 20) (v := (45 : Int32)) (show decode cX10_readSum 18 = .ok (.bipush 45, 2) by decide +kernel) rfl (by decide) ?_
      obtain ⟨x9, ex9, h⟩ := hm_bs h
      have cx9 := ok_X10_sign (fr := fr - 1) (ν := ν) (by omega) (45 : Int32) μ6 hL ex9
      refine tp_callS (pc' := 23) (As := [.int (45 : Int32)]) (fr1 := fr - 1) okm_X10_sign lk_HandRingModel_233 (show decode cX10_readSum 20 = .ok (.invokestatic 233, 3) by decide +kernel) rfl rfl rfl (Nat.le_of_ble_eq_true rfl) (by omega) cx9 (st' := [.int x9, .ref 179]) rfl ?_
      obtain ⟨x10, μ11, ex10, h⟩ := hm_b2s h
      have cx10 := ok_X10_takes0 (fr := fr - 1) (ν := ν) (by omega) x9 μ6 hL ex10
      refine tp_callV (pc' := 26) (As := [.int x9]) (fr1 := fr - 1) (ci := 10) okm_X10_takes0 lk_HandRingModel_191 (show decode cX10_readSum 23 = .ok (.invokevirtual 191, 3) by decide +kernel) rfl rfl rfl (by decide) (la_o hL (by decide) rfl) rfl rfl (Nat.le_of_ble_eq_true rfl) (by omega) cx10 (st' := [.int x10]) rfl ?_
      replace hL := cx10.1
      rcases hm_is h with ⟨hc, h⟩ | ⟨hc, h⟩
      · refine tr_if_eq_t (tgt := 37) hc (show decode cX10_readSum 26 = .ok (.ifCond .eq 11, 3) by decide +kernel) (by decide) ?_
        refine hm_fgt [false, false] (lv' := [none, none]) rfl ?_
        exact he37 μ11 hL h
      · refine tr_if_eq_f (tgt := 37) (pc' := 29) hc (show decode cX10_readSum 26 = .ok (.ifCond .eq 11, 3) by decide +kernel) (by decide) rfl ?_
        exact ok_X10_readSum_J29 hfr k_X10_readPart hk_X10_readPart k_X10_readSum hk_X10_readSum k_X10_readTerm hk_X10_readTerm _ (f_X10_readSum_L5 k_X10_readPart k_X10_readSum k_X10_readTerm v1 e37 n) e37 ih he37 μ11 hL h
    · refine tr_if_ne_t (tgt := 29) hc (show decode cX10_readSum 14 = .ok (.ifCond .ne 15, 3) by decide +kernel) (by decide) ?_
      exact ok_X10_readSum_J29 hfr k_X10_readPart hk_X10_readPart k_X10_readSum hk_X10_readSum k_X10_readTerm hk_X10_readTerm _ (f_X10_readSum_L5 k_X10_readPart k_X10_readSum k_X10_readTerm v1 e37 n) e37 ih he37 μ6 hL h
def f_X10_readSum (k_X10_readPart : Int32 → hm_M → Option hm_M) (k_X10_readSum : Int32 → hm_M → Option hm_M) (k_X10_readTerm : Int32 → hm_M → Option hm_M) (v1 : Int32) (μ : hm_M) : Option hm_M :=
  Option.bind (k_X10_readTerm v1 μ) fun μ3 =>
  f_X10_readSum_L5 k_X10_readPart k_X10_readSum k_X10_readTerm v1 (fun μz12 => some μz12) hm_fu μ3
set_option maxRecDepth 100000 in
theorem ok_X10_readSum {fr : Nat} (hfr : 3 ≤ fr) {ν : hm_N} {μR : hm_M} (k_X10_readPart : Int32 → hm_M → Option hm_M) (hk_X10_readPart : ∀ {μR : hm_M} (v1 : Int32)  (μ : hm_M), hm_LL ν μ → k_X10_readPart v1 μ = some μR → hm_CC (hm_LL ν) m_X10_readPart (fr - 1) 0 0 [.ref 179, .int v1] μ none μR) (k_X10_readSum : Int32 → hm_M → Option hm_M) (hk_X10_readSum : ∀ {μR : hm_M} (v1 : Int32)  (μ : hm_M), hm_LL ν μ → k_X10_readSum v1 μ = some μR → hm_CC (hm_LL ν) m_X10_readSum (fr - 1) 0 0 [.ref 179, .int v1] μ none μR) (k_X10_readTerm : Int32 → hm_M → Option hm_M) (hk_X10_readTerm : ∀ {μR : hm_M} (v1 : Int32)  (μ : hm_M), hm_LL ν μ → k_X10_readTerm v1 μ = some μR → hm_CC (hm_LL ν) m_X10_readTerm (fr - 1) 0 0 [.ref 179, .int v1] μ none μR) (v1 : Int32)  (μ : hm_M) (hL : hm_LL ν μ) (h : f_X10_readSum k_X10_readPart k_X10_readSum k_X10_readTerm v1 μ = some μR) : hm_CC (hm_LL ν) m_X10_readSum fr 0 0 [.ref 179, .int v1] μ none μR := by
  refine hm_enter (lv := [some (.ref 179), some (.int v1)]) (by decide) rfl (Nat.le_of_ble_eq_true rfl) ?_
  unfold f_X10_readSum at h
  refine tr_aload_n (pc' := 1) (show decode cX10_readSum 0 = .ok (.aload_n 0, 1) by decide +kernel) rfl rfl rfl ?_
  refine tr_iload_n (pc' := 2) (show decode cX10_readSum 1 = .ok (.iload_n 1, 1) by decide +kernel) rfl rfl rfl ?_
  obtain ⟨μ3, ex2, h⟩ := hm_bs h
  have cx2 := hk_X10_readTerm v1 μ hL ex2
  refine tp_callV (pc' := 5) (As := [.int v1]) (fr1 := fr - 1) (ci := 10) okm_X10_readTerm lk_HandRingModel_237 (show decode cX10_readSum 2 = .ok (.invokevirtual 237, 3) by decide +kernel) rfl rfl rfl (by decide) (la_o hL (by decide) rfl) rfl rfl (Nat.le_of_ble_eq_true rfl) (by omega) cx2 (st' := []) rfl ?_
  replace hL := cx2.1
  refine ok_X10_readSum_L5 hfr k_X10_readPart hk_X10_readPart k_X10_readSum hk_X10_readSum k_X10_readTerm hk_X10_readTerm _ _ ?_ _ μ3 hL h
  · intro μz12 hL h
    cases h
    exact tr_vret rfl (show decode cX10_readSum 37 = .ok (.return_, 1) by decide +kernel) hL
def f_X10_readTerm_J41 (k_X10_readPart : Int32 → hm_M → Option hm_M) (k_X10_readSum : Int32 → hm_M → Option hm_M) (k_X10_readTerm : Int32 → hm_M → Option hm_M) (v1 : Int32) (c5 : hm_M → Option hm_M) (e49 : hm_M → Option hm_M) (μ1 : hm_M) : Option hm_M :=
  Option.bind (k_X10_readPart v1 μ1) fun μ8 =>
  c5 μ8
theorem ok_X10_readTerm_J41 {fr : Nat} (hfr : 3 ≤ fr) {ν : hm_N} {μR : hm_M} (k_X10_readPart : Int32 → hm_M → Option hm_M) (hk_X10_readPart : ∀ {μR : hm_M} (v1 : Int32)  (μ : hm_M), hm_LL ν μ → k_X10_readPart v1 μ = some μR → hm_CC (hm_LL ν) m_X10_readPart (fr - 1) 0 0 [.ref 179, .int v1] μ none μR) (k_X10_readSum : Int32 → hm_M → Option hm_M) (hk_X10_readSum : ∀ {μR : hm_M} (v1 : Int32)  (μ : hm_M), hm_LL ν μ → k_X10_readSum v1 μ = some μR → hm_CC (hm_LL ν) m_X10_readSum (fr - 1) 0 0 [.ref 179, .int v1] μ none μR) (k_X10_readTerm : Int32 → hm_M → Option hm_M) (hk_X10_readTerm : ∀ {μR : hm_M} (v1 : Int32)  (μ : hm_M), hm_LL ν μ → k_X10_readTerm v1 μ = some μR → hm_CC (hm_LL ν) m_X10_readTerm (fr - 1) 0 0 [.ref 179, .int v1] μ none μR) (v1 : Int32) (c5 : hm_M → Option hm_M) (e49 : hm_M → Option hm_M) (hc5 : ∀   (μ1 : hm_M), hm_LL ν μ1 → c5 μ1 = some μR → hm_T (hm_LL ν) m_X10_readTerm fr 0 0 none μR 5 [some (.ref 179), some (.int v1)] [] μ1) (he49 : ∀   (μ1 : hm_M), hm_LL ν μ1 → e49 μ1 = some μR → hm_T (hm_LL ν) m_X10_readTerm fr 0 0 none μR 49 [none, none] [] μ1)   (μ1 : hm_M) (hL : hm_LL ν μ1) (h : f_X10_readTerm_J41 k_X10_readPart k_X10_readSum k_X10_readTerm v1 c5 e49 μ1 = some μR) : hm_T (hm_LL ν) m_X10_readTerm fr 0 0 none μR 41 [some (.ref 179), some (.int v1)] [] μ1 := by
  unfold f_X10_readTerm_J41 at h
  refine tr_aload_n (pc' := 42) (show decode cX10_readTerm 41 = .ok (.aload_n 0, 1) by decide +kernel) rfl rfl rfl ?_
  refine tr_iload_n (pc' := 43) (show decode cX10_readTerm 42 = .ok (.iload_n 1, 1) by decide +kernel) rfl rfl rfl ?_
  obtain ⟨μ8, ex7, h⟩ := hm_bs h
  have cx7 := hk_X10_readPart v1 μ1 hL ex7
  refine tp_callV (pc' := 46) (As := [.int v1]) (fr1 := fr - 1) (ci := 10) okm_X10_readPart lk_HandRingModel_240 (show decode cX10_readTerm 43 = .ok (.invokevirtual 240, 3) by decide +kernel) rfl rfl rfl (by decide) (la_o hL (by decide) rfl) rfl rfl (Nat.le_of_ble_eq_true rfl) (by omega) cx7 (st' := []) rfl ?_
  replace hL := cx7.1
  refine tr_goto (tgt := 5) (show decode cX10_readTerm 46 = .ok (.goto (-41), 3) by decide +kernel) rfl ?_
  exact hc5 μ8 hL h
def f_X10_readTerm_L5 (k_X10_readPart : Int32 → hm_M → Option hm_M) (k_X10_readSum : Int32 → hm_M → Option hm_M) (k_X10_readTerm : Int32 → hm_M → Option hm_M) (v1 : Int32) (e49 : hm_M → Option hm_M) : Nat → hm_M → Option hm_M
  | 0, _ => none
  | n + 1, μ1 => Option.bind (f_X10_sign (42 : Int32)) fun x4 =>
  hm_b2 (f_X10_takes0 x4 μ1) fun x5 μ6 =>
  (if x5 = 0 then
  Option.bind (f_X10_sign (47 : Int32)) fun x9 =>
  hm_b2 (f_X10_takes0 x9 μ6) fun x10 μ11 =>
  (if x10 = 0 then
  Option.bind (f_X10_sign (37 : Int32)) fun x12 =>
  hm_b2 (f_X10_takes0 x12 μ11) fun x13 μ14 =>
  (if x13 = 0 then
  e49 μ14
  else
  f_X10_readTerm_J41 k_X10_readPart k_X10_readSum k_X10_readTerm v1 (f_X10_readTerm_L5 k_X10_readPart k_X10_readSum k_X10_readTerm v1 e49 n) e49 μ14)
  else
  f_X10_readTerm_J41 k_X10_readPart k_X10_readSum k_X10_readTerm v1 (f_X10_readTerm_L5 k_X10_readPart k_X10_readSum k_X10_readTerm v1 e49 n) e49 μ11)
  else
  f_X10_readTerm_J41 k_X10_readPart k_X10_readSum k_X10_readTerm v1 (f_X10_readTerm_L5 k_X10_readPart k_X10_readSum k_X10_readTerm v1 e49 n) e49 μ6)
theorem ok_X10_readTerm_L5 {fr : Nat} (hfr : 3 ≤ fr) {ν : hm_N} {μR : hm_M} (k_X10_readPart : Int32 → hm_M → Option hm_M) (hk_X10_readPart : ∀ {μR : hm_M} (v1 : Int32)  (μ : hm_M), hm_LL ν μ → k_X10_readPart v1 μ = some μR → hm_CC (hm_LL ν) m_X10_readPart (fr - 1) 0 0 [.ref 179, .int v1] μ none μR) (k_X10_readSum : Int32 → hm_M → Option hm_M) (hk_X10_readSum : ∀ {μR : hm_M} (v1 : Int32)  (μ : hm_M), hm_LL ν μ → k_X10_readSum v1 μ = some μR → hm_CC (hm_LL ν) m_X10_readSum (fr - 1) 0 0 [.ref 179, .int v1] μ none μR) (k_X10_readTerm : Int32 → hm_M → Option hm_M) (hk_X10_readTerm : ∀ {μR : hm_M} (v1 : Int32)  (μ : hm_M), hm_LL ν μ → k_X10_readTerm v1 μ = some μR → hm_CC (hm_LL ν) m_X10_readTerm (fr - 1) 0 0 [.ref 179, .int v1] μ none μR) (v1 : Int32) (e49 : hm_M → Option hm_M)  (he49 : ∀   (μ1 : hm_M), hm_LL ν μ1 → e49 μ1 = some μR → hm_T (hm_LL ν) m_X10_readTerm fr 0 0 none μR 49 [none, none] [] μ1)  : ∀ (n : Nat)   (μ1 : hm_M), hm_LL ν μ1 → f_X10_readTerm_L5 k_X10_readPart k_X10_readSum k_X10_readTerm v1 e49 n μ1 = some μR → hm_T (hm_LL ν) m_X10_readTerm fr 0 0 none μR 5 [some (.ref 179), some (.int v1)] [] μ1 := by
  intro n
  induction n with
  | zero =>
    intro μ1 hL h
    unfold f_X10_readTerm_L5 at h
    cases h
  | succ n ih =>
    intro μ1 hL h
    unfold f_X10_readTerm_L5 at h
    refine tr_aload_n (pc' := 6) (show decode cX10_readTerm 5 = .ok (.aload_n 0, 1) by decide +kernel) rfl rfl rfl ?_
    refine tr_bipush (pc' := 8) (v := (42 : Int32)) (show decode cX10_readTerm 6 = .ok (.bipush 42, 2) by decide +kernel) rfl (by decide) ?_
    obtain ⟨x4, ex4, h⟩ := hm_bs h
    have cx4 := ok_X10_sign (fr := fr - 1) (ν := ν) (by omega) (42 : Int32) μ1 hL ex4
    refine tp_callS (pc' := 11) (As := [.int (42 : Int32)]) (fr1 := fr - 1) okm_X10_sign lk_HandRingModel_233 (show decode cX10_readTerm 8 = .ok (.invokestatic 233, 3) by decide +kernel) rfl rfl rfl (Nat.le_of_ble_eq_true rfl) (by omega) cx4 (st' := [.int x4, .ref 179]) rfl ?_
    obtain ⟨x5, μ6, ex5, h⟩ := hm_b2s h
    have cx5 := ok_X10_takes0 (fr := fr - 1) (ν := ν) (by omega) x4 μ1 hL ex5
    refine tp_callV (pc' := 14) (As := [.int x4]) (fr1 := fr - 1) (ci := 10) okm_X10_takes0 lk_HandRingModel_191 (show decode cX10_readTerm 11 = .ok (.invokevirtual 191, 3) by decide +kernel) rfl rfl rfl (by decide) (la_o hL (by decide) rfl) rfl rfl (Nat.le_of_ble_eq_true rfl) (by omega) cx5 (st' := [.int x5]) rfl ?_
    replace hL := cx5.1
    rcases hm_is h with ⟨hc, h⟩ | ⟨hc, h⟩
    · refine tr_if_ne_f (tgt := 41) (pc' := 17) hc (show decode cX10_readTerm 14 = .ok (.ifCond .ne 27, 3) by decide +kernel) (by decide) rfl ?_
      refine tr_aload_n (pc' := 18) (show decode cX10_readTerm 17 = .ok (.aload_n 0, 1) by decide +kernel) rfl rfl rfl ?_
      refine tr_bipush (pc' := 20) (v := (47 : Int32)) (show decode cX10_readTerm 18 = .ok (.bipush 47, 2) by decide +kernel) rfl (by decide) ?_
      obtain ⟨x9, ex9, h⟩ := hm_bs h
      have cx9 := ok_X10_sign (fr := fr - 1) (ν := ν) (by omega) (47 : Int32) μ6 hL ex9
      refine tp_callS (pc' := 23) (As := [.int (47 : Int32)]) (fr1 := fr - 1) okm_X10_sign lk_HandRingModel_233 (show decode cX10_readTerm 20 = .ok (.invokestatic 233, 3) by decide +kernel) rfl rfl rfl (Nat.le_of_ble_eq_true rfl) (by omega) cx9 (st' := [.int x9, .ref 179]) rfl ?_
      obtain ⟨x10, μ11, ex10, h⟩ := hm_b2s h
      have cx10 := ok_X10_takes0 (fr := fr - 1) (ν := ν) (by omega) x9 μ6 hL ex10
      refine tp_callV (pc' := 26) (As := [.int x9]) (fr1 := fr - 1) (ci := 10) okm_X10_takes0 lk_HandRingModel_191 (show decode cX10_readTerm 23 = .ok (.invokevirtual 191, 3) by decide +kernel) rfl rfl rfl (by decide) (la_o hL (by decide) rfl) rfl rfl (Nat.le_of_ble_eq_true rfl) (by omega) cx10 (st' := [.int x10]) rfl ?_
      replace hL := cx10.1
      rcases hm_is h with ⟨hc, h⟩ | ⟨hc, h⟩
      · refine tr_if_ne_f (tgt := 41) (pc' := 29) hc (show decode cX10_readTerm 26 = .ok (.ifCond .ne 15, 3) by decide +kernel) (by decide) rfl ?_
        refine tr_aload_n (pc' := 30) (show decode cX10_readTerm 29 = .ok (.aload_n 0, 1) by decide +kernel) rfl rfl rfl ?_
        refine tr_bipush (pc' := 32) (v := (37 : Int32)) (show decode cX10_readTerm 30 = .ok (.bipush 37, 2) by decide +kernel) rfl (by decide) ?_
        obtain ⟨x12, ex12, h⟩ := hm_bs h
        have cx12 := ok_X10_sign (fr := fr - 1) (ν := ν) (by omega) (37 : Int32) μ11 hL ex12
        refine tp_callS (pc' := 35) (As := [.int (37 : Int32)]) (fr1 := fr - 1) okm_X10_sign lk_HandRingModel_233 (show decode cX10_readTerm 32 = .ok (.invokestatic 233, 3) by decide +kernel) rfl rfl rfl (Nat.le_of_ble_eq_true rfl) (by omega) cx12 (st' := [.int x12, .ref 179]) rfl ?_
        obtain ⟨x13, μ14, ex13, h⟩ := hm_b2s h
        have cx13 := ok_X10_takes0 (fr := fr - 1) (ν := ν) (by omega) x12 μ11 hL ex13
        refine tp_callV (pc' := 38) (As := [.int x12]) (fr1 := fr - 1) (ci := 10) okm_X10_takes0 lk_HandRingModel_191 (show decode cX10_readTerm 35 = .ok (.invokevirtual 191, 3) by decide +kernel) rfl rfl rfl (by decide) (la_o hL (by decide) rfl) rfl rfl (Nat.le_of_ble_eq_true rfl) (by omega) cx13 (st' := [.int x13]) rfl ?_
        replace hL := cx13.1
        rcases hm_is h with ⟨hc, h⟩ | ⟨hc, h⟩
        · refine tr_if_eq_t (tgt := 49) hc (show decode cX10_readTerm 38 = .ok (.ifCond .eq 11, 3) by decide +kernel) (by decide) ?_
          refine hm_fgt [false, false] (lv' := [none, none]) rfl ?_
          exact he49 μ14 hL h
        · refine tr_if_eq_f (tgt := 49) (pc' := 41) hc (show decode cX10_readTerm 38 = .ok (.ifCond .eq 11, 3) by decide +kernel) (by decide) rfl ?_
          exact ok_X10_readTerm_J41 hfr k_X10_readPart hk_X10_readPart k_X10_readSum hk_X10_readSum k_X10_readTerm hk_X10_readTerm _ (f_X10_readTerm_L5 k_X10_readPart k_X10_readSum k_X10_readTerm v1 e49 n) e49 ih he49 μ14 hL h
      · refine tr_if_ne_t (tgt := 41) hc (show decode cX10_readTerm 26 = .ok (.ifCond .ne 15, 3) by decide +kernel) (by decide) ?_
        exact ok_X10_readTerm_J41 hfr k_X10_readPart hk_X10_readPart k_X10_readSum hk_X10_readSum k_X10_readTerm hk_X10_readTerm _ (f_X10_readTerm_L5 k_X10_readPart k_X10_readSum k_X10_readTerm v1 e49 n) e49 ih he49 μ11 hL h
    · refine tr_if_ne_t (tgt := 41) hc (show decode cX10_readTerm 14 = .ok (.ifCond .ne 27, 3) by decide +kernel) (by decide) ?_
      exact ok_X10_readTerm_J41 hfr k_X10_readPart hk_X10_readPart k_X10_readSum hk_X10_readSum k_X10_readTerm hk_X10_readTerm _ (f_X10_readTerm_L5 k_X10_readPart k_X10_readSum k_X10_readTerm v1 e49 n) e49 ih he49 μ6 hL h
def f_X10_readTerm (k_X10_readPart : Int32 → hm_M → Option hm_M) (k_X10_readSum : Int32 → hm_M → Option hm_M) (k_X10_readTerm : Int32 → hm_M → Option hm_M) (v1 : Int32) (μ : hm_M) : Option hm_M :=
  Option.bind (k_X10_readPart v1 μ) fun μ3 =>
  f_X10_readTerm_L5 k_X10_readPart k_X10_readSum k_X10_readTerm v1 (fun μz15 => some μz15) hm_fu μ3
set_option maxRecDepth 100000 in
theorem ok_X10_readTerm {fr : Nat} (hfr : 3 ≤ fr) {ν : hm_N} {μR : hm_M} (k_X10_readPart : Int32 → hm_M → Option hm_M) (hk_X10_readPart : ∀ {μR : hm_M} (v1 : Int32)  (μ : hm_M), hm_LL ν μ → k_X10_readPart v1 μ = some μR → hm_CC (hm_LL ν) m_X10_readPart (fr - 1) 0 0 [.ref 179, .int v1] μ none μR) (k_X10_readSum : Int32 → hm_M → Option hm_M) (hk_X10_readSum : ∀ {μR : hm_M} (v1 : Int32)  (μ : hm_M), hm_LL ν μ → k_X10_readSum v1 μ = some μR → hm_CC (hm_LL ν) m_X10_readSum (fr - 1) 0 0 [.ref 179, .int v1] μ none μR) (k_X10_readTerm : Int32 → hm_M → Option hm_M) (hk_X10_readTerm : ∀ {μR : hm_M} (v1 : Int32)  (μ : hm_M), hm_LL ν μ → k_X10_readTerm v1 μ = some μR → hm_CC (hm_LL ν) m_X10_readTerm (fr - 1) 0 0 [.ref 179, .int v1] μ none μR) (v1 : Int32)  (μ : hm_M) (hL : hm_LL ν μ) (h : f_X10_readTerm k_X10_readPart k_X10_readSum k_X10_readTerm v1 μ = some μR) : hm_CC (hm_LL ν) m_X10_readTerm fr 0 0 [.ref 179, .int v1] μ none μR := by
  refine hm_enter (lv := [some (.ref 179), some (.int v1)]) (by decide) rfl (Nat.le_of_ble_eq_true rfl) ?_
  unfold f_X10_readTerm at h
  refine tr_aload_n (pc' := 1) (show decode cX10_readTerm 0 = .ok (.aload_n 0, 1) by decide +kernel) rfl rfl rfl ?_
  refine tr_iload_n (pc' := 2) (show decode cX10_readTerm 1 = .ok (.iload_n 1, 1) by decide +kernel) rfl rfl rfl ?_
  obtain ⟨μ3, ex2, h⟩ := hm_bs h
  have cx2 := hk_X10_readPart v1 μ hL ex2
  refine tp_callV (pc' := 5) (As := [.int v1]) (fr1 := fr - 1) (ci := 10) okm_X10_readPart lk_HandRingModel_240 (show decode cX10_readTerm 2 = .ok (.invokevirtual 240, 3) by decide +kernel) rfl rfl rfl (by decide) (la_o hL (by decide) rfl) rfl rfl (Nat.le_of_ble_eq_true rfl) (by omega) cx2 (st' := []) rfl ?_
  replace hL := cx2.1
  refine ok_X10_readTerm_L5 hfr k_X10_readPart hk_X10_readPart k_X10_readSum hk_X10_readSum k_X10_readTerm hk_X10_readTerm _ _ ?_ _ μ3 hL h
  · intro μz15 hL h
    cases h
    exact tr_vret rfl (show decode cX10_readTerm 49 = .ok (.return_, 1) by decide +kernel) hL
def K_X10_readPart : Nat → (Int32 → hm_M → Option hm_M) × (Int32 → hm_M → Option hm_M) × (Int32 → hm_M → Option hm_M)
  | 0 => (fun _ _ => none, fun _ _ => none, fun _ _ => none)
  | n + 1 => (f_X10_readPart (K_X10_readPart n).1 (K_X10_readPart n).2.1 (K_X10_readPart n).2.2, f_X10_readSum (K_X10_readPart n).1 (K_X10_readPart n).2.1 (K_X10_readPart n).2.2, f_X10_readTerm (K_X10_readPart n).1 (K_X10_readPart n).2.1 (K_X10_readPart n).2.2)
theorem KK_X10_readPart {ν : hm_N} : ∀ (n fr : Nat), n + 4 ≤ fr → (∀ {μR : hm_M} (v1 : Int32)  (μ : hm_M), hm_LL ν μ → (K_X10_readPart n).1 v1 μ = some μR → hm_CC (hm_LL ν) m_X10_readPart (fr) 0 0 [.ref 179, .int v1] μ none μR) ∧ (∀ {μR : hm_M} (v1 : Int32)  (μ : hm_M), hm_LL ν μ → (K_X10_readPart n).2.1 v1 μ = some μR → hm_CC (hm_LL ν) m_X10_readSum (fr) 0 0 [.ref 179, .int v1] μ none μR) ∧ (∀ {μR : hm_M} (v1 : Int32)  (μ : hm_M), hm_LL ν μ → (K_X10_readPart n).2.2 v1 μ = some μR → hm_CC (hm_LL ν) m_X10_readTerm (fr) 0 0 [.ref 179, .int v1] μ none μR) := by
  intro n
  induction n with
  | zero =>
    intro fr _
    exact ⟨by intros; rename_i h; exact absurd (show none = some _ from h) (fun z => by cases z), by intros; rename_i h; exact absurd (show none = some _ from h) (fun z => by cases z), by intros; rename_i h; exact absurd (show none = some _ from h) (fun z => by cases z)⟩
  | succ n ih =>
    intro fr hf
    have I := @ih (fr - 1) (by omega)
    exact ⟨(fun {_} v1  μ hL h => ok_X10_readPart (by omega) (K_X10_readPart n).1 I.1 (K_X10_readPart n).2.1 I.2.1 (K_X10_readPart n).2.2 I.2.2 v1  μ hL h),
      (fun {_} v1  μ hL h => ok_X10_readSum (by omega) (K_X10_readPart n).1 I.1 (K_X10_readPart n).2.1 I.2.1 (K_X10_readPart n).2.2 I.2.2 v1  μ hL h),
      (fun {_} v1  μ hL h => ok_X10_readTerm (by omega) (K_X10_readPart n).1 I.1 (K_X10_readPart n).2.1 I.2.1 (K_X10_readPart n).2.2 I.2.2 v1  μ hL h)⟩
def F_X10_readPart (v1 : Int32) (μ : hm_M) : Option hm_M := (K_X10_readPart 40).1 v1 μ
theorem OK_X10_readPart {fr : Nat} (hfr : 44 ≤ fr) {ν : hm_N} {μR : hm_M} (v1 : Int32)  (μ : hm_M) (hL : hm_LL ν μ) (h : F_X10_readPart v1 μ = some μR) : hm_CC (hm_LL ν) m_X10_readPart fr 0 0 [.ref 179, .int v1] μ none μR := (KK_X10_readPart 40 fr (by omega)).1 v1  μ hL h
def F_X10_readSum (v1 : Int32) (μ : hm_M) : Option hm_M := (K_X10_readPart 40).2.1 v1 μ
theorem OK_X10_readSum {fr : Nat} (hfr : 44 ≤ fr) {ν : hm_N} {μR : hm_M} (v1 : Int32)  (μ : hm_M) (hL : hm_LL ν μ) (h : F_X10_readSum v1 μ = some μR) : hm_CC (hm_LL ν) m_X10_readSum fr 0 0 [.ref 179, .int v1] μ none μR := (KK_X10_readPart 40 fr (by omega)).2.1 v1  μ hL h
def F_X10_readTerm (v1 : Int32) (μ : hm_M) : Option hm_M := (K_X10_readPart 40).2.2 v1 μ
theorem OK_X10_readTerm {fr : Nat} (hfr : 44 ≤ fr) {ν : hm_N} {μR : hm_M} (v1 : Int32)  (μ : hm_M) (hL : hm_LL ν μ) (h : F_X10_readTerm v1 μ = some μR) : hm_CC (hm_LL ν) m_X10_readTerm fr 0 0 [.ref 179, .int v1] μ none μR := (KK_X10_readPart 40 fr (by omega)).2.2 v1  μ hL h
def f_X10_readBoth_L5 (k_X10_readBoth : Int32 → hm_M → Option hm_M) (k_X10_readPlain : Int32 → hm_M → Option hm_M) (k_X10_readTest : Int32 → hm_M → Option hm_M) (v1 : Int32) (e22 : hm_M → Option hm_M) : Nat → hm_M → Option hm_M
  | 0, _ => none
  | n + 1, μ1 => hm_b2 (f_X10_takes0 (6 : Int32) μ1) fun x4 μ5 =>
  (if x4 = 0 then
  e22 μ5
  else
  Option.bind (k_X10_readPlain v1 μ5) fun μ7 =>
  (f_X10_readBoth_L5 k_X10_readBoth k_X10_readPlain k_X10_readTest v1 e22 n) μ7)
theorem ok_X10_readBoth_L5 {fr : Nat} (hfr : 3 ≤ fr) {ν : hm_N} {μR : hm_M} (k_X10_readBoth : Int32 → hm_M → Option hm_M) (hk_X10_readBoth : ∀ {μR : hm_M} (v1 : Int32)  (μ : hm_M), hm_LL ν μ → k_X10_readBoth v1 μ = some μR → hm_CC (hm_LL ν) m_X10_readBoth (fr - 1) 0 0 [.ref 179, .int v1] μ none μR) (k_X10_readPlain : Int32 → hm_M → Option hm_M) (hk_X10_readPlain : ∀ {μR : hm_M} (v1 : Int32)  (μ : hm_M), hm_LL ν μ → k_X10_readPlain v1 μ = some μR → hm_CC (hm_LL ν) m_X10_readPlain (fr - 1) 0 0 [.ref 179, .int v1] μ none μR) (k_X10_readTest : Int32 → hm_M → Option hm_M) (hk_X10_readTest : ∀ {μR : hm_M} (v1 : Int32)  (μ : hm_M), hm_LL ν μ → k_X10_readTest v1 μ = some μR → hm_CC (hm_LL ν) m_X10_readTest (fr - 1) 0 0 [.ref 179, .int v1] μ none μR) (v1 : Int32) (e22 : hm_M → Option hm_M)  (he22 : ∀   (μ1 : hm_M), hm_LL ν μ1 → e22 μ1 = some μR → hm_T (hm_LL ν) m_X10_readBoth fr 0 0 none μR 22 [none, none] [] μ1)  : ∀ (n : Nat)   (μ1 : hm_M), hm_LL ν μ1 → f_X10_readBoth_L5 k_X10_readBoth k_X10_readPlain k_X10_readTest v1 e22 n μ1 = some μR → hm_T (hm_LL ν) m_X10_readBoth fr 0 0 none μR 5 [some (.ref 179), some (.int v1)] [] μ1 := by
  intro n
  induction n with
  | zero =>
    intro μ1 hL h
    unfold f_X10_readBoth_L5 at h
    cases h
  | succ n ih =>
    intro μ1 hL h
    unfold f_X10_readBoth_L5 at h
    refine tr_aload_n (pc' := 6) (show decode cX10_readBoth 5 = .ok (.aload_n 0, 1) by decide +kernel) rfl rfl rfl ?_
    refine tr_bipush (pc' := 8) (v := (6 : Int32)) (show decode cX10_readBoth 6 = .ok (.bipush 6, 2) by decide +kernel) rfl (by decide) ?_
    obtain ⟨x4, μ5, ex4, h⟩ := hm_b2s h
    have cx4 := ok_X10_takes0 (fr := fr - 1) (ν := ν) (by omega) (6 : Int32) μ1 hL ex4
    refine tp_callV (pc' := 11) (As := [.int (6 : Int32)]) (fr1 := fr - 1) (ci := 10) okm_X10_takes0 lk_HandRingModel_191 (show decode cX10_readBoth 8 = .ok (.invokevirtual 191, 3) by decide +kernel) rfl rfl rfl (by decide) (la_o hL (by decide) rfl) rfl rfl (Nat.le_of_ble_eq_true rfl) (by omega) cx4 (st' := [.int x4]) rfl ?_
    replace hL := cx4.1
    rcases hm_is h with ⟨hc, h⟩ | ⟨hc, h⟩
    · refine tr_if_eq_t (tgt := 22) hc (show decode cX10_readBoth 11 = .ok (.ifCond .eq 11, 3) by decide +kernel) (by decide) ?_
      refine hm_fgt [false, false] (lv' := [none, none]) rfl ?_
      exact he22 μ5 hL h
    · refine tr_if_eq_f (tgt := 22) (pc' := 14) hc (show decode cX10_readBoth 11 = .ok (.ifCond .eq 11, 3) by decide +kernel) (by decide) rfl ?_
      refine tr_aload_n (pc' := 15) (show decode cX10_readBoth 14 = .ok (.aload_n 0, 1) by decide +kernel) rfl rfl rfl ?_
      refine tr_iload_n (pc' := 16) (show decode cX10_readBoth 15 = .ok (.iload_n 1, 1) by decide +kernel) rfl rfl rfl ?_
      obtain ⟨μ7, ex6, h⟩ := hm_bs h
      have cx6 := hk_X10_readPlain v1 μ5 hL ex6
      refine tp_callV (pc' := 19) (As := [.int v1]) (fr1 := fr - 1) (ci := 10) okm_X10_readPlain lk_HandRingModel_230 (show decode cX10_readBoth 16 = .ok (.invokevirtual 230, 3) by decide +kernel) rfl rfl rfl (by decide) (la_o hL (by decide) rfl) rfl rfl (Nat.le_of_ble_eq_true rfl) (by omega) cx6 (st' := []) rfl ?_
      replace hL := cx6.1
      refine tr_goto (tgt := 5) (show decode cX10_readBoth 19 = .ok (.goto (-14), 3) by decide +kernel) rfl ?_
      exact ih μ7 hL h
def f_X10_readBoth (k_X10_readBoth : Int32 → hm_M → Option hm_M) (k_X10_readPlain : Int32 → hm_M → Option hm_M) (k_X10_readTest : Int32 → hm_M → Option hm_M) (v1 : Int32) (μ : hm_M) : Option hm_M :=
  Option.bind (k_X10_readPlain v1 μ) fun μ3 =>
  f_X10_readBoth_L5 k_X10_readBoth k_X10_readPlain k_X10_readTest v1 (fun μz8 => some μz8) hm_fu μ3
set_option maxRecDepth 100000 in
theorem ok_X10_readBoth {fr : Nat} (hfr : 3 ≤ fr) {ν : hm_N} {μR : hm_M} (k_X10_readBoth : Int32 → hm_M → Option hm_M) (hk_X10_readBoth : ∀ {μR : hm_M} (v1 : Int32)  (μ : hm_M), hm_LL ν μ → k_X10_readBoth v1 μ = some μR → hm_CC (hm_LL ν) m_X10_readBoth (fr - 1) 0 0 [.ref 179, .int v1] μ none μR) (k_X10_readPlain : Int32 → hm_M → Option hm_M) (hk_X10_readPlain : ∀ {μR : hm_M} (v1 : Int32)  (μ : hm_M), hm_LL ν μ → k_X10_readPlain v1 μ = some μR → hm_CC (hm_LL ν) m_X10_readPlain (fr - 1) 0 0 [.ref 179, .int v1] μ none μR) (k_X10_readTest : Int32 → hm_M → Option hm_M) (hk_X10_readTest : ∀ {μR : hm_M} (v1 : Int32)  (μ : hm_M), hm_LL ν μ → k_X10_readTest v1 μ = some μR → hm_CC (hm_LL ν) m_X10_readTest (fr - 1) 0 0 [.ref 179, .int v1] μ none μR) (v1 : Int32)  (μ : hm_M) (hL : hm_LL ν μ) (h : f_X10_readBoth k_X10_readBoth k_X10_readPlain k_X10_readTest v1 μ = some μR) : hm_CC (hm_LL ν) m_X10_readBoth fr 0 0 [.ref 179, .int v1] μ none μR := by
  refine hm_enter (lv := [some (.ref 179), some (.int v1)]) (by decide) rfl (Nat.le_of_ble_eq_true rfl) ?_
  unfold f_X10_readBoth at h
  refine tr_aload_n (pc' := 1) (show decode cX10_readBoth 0 = .ok (.aload_n 0, 1) by decide +kernel) rfl rfl rfl ?_
  refine tr_iload_n (pc' := 2) (show decode cX10_readBoth 1 = .ok (.iload_n 1, 1) by decide +kernel) rfl rfl rfl ?_
  obtain ⟨μ3, ex2, h⟩ := hm_bs h
  have cx2 := hk_X10_readPlain v1 μ hL ex2
  refine tp_callV (pc' := 5) (As := [.int v1]) (fr1 := fr - 1) (ci := 10) okm_X10_readPlain lk_HandRingModel_230 (show decode cX10_readBoth 2 = .ok (.invokevirtual 230, 3) by decide +kernel) rfl rfl rfl (by decide) (la_o hL (by decide) rfl) rfl rfl (Nat.le_of_ble_eq_true rfl) (by omega) cx2 (st' := []) rfl ?_
  replace hL := cx2.1
  refine ok_X10_readBoth_L5 hfr k_X10_readBoth hk_X10_readBoth k_X10_readPlain hk_X10_readPlain k_X10_readTest hk_X10_readTest _ _ ?_ _ μ3 hL h
  · intro μz8 hL h
    cases h
    exact tr_vret rfl (show decode cX10_readBoth 22 = .ok (.return_, 1) by decide +kernel) hL
def f_X10_readPlain_L2 (k_X10_readBoth : Int32 → hm_M → Option hm_M) (k_X10_readPlain : Int32 → hm_M → Option hm_M) (k_X10_readTest : Int32 → hm_M → Option hm_M) (v1 : Int32) (e16 : hm_M → Option hm_M) : Nat → Int32 → hm_M → Option hm_M
  | 0, _, _ => none
  | n + 1, y2, μ1 => (if y2 = 0 then
  e16 μ1
  else
  hm_b2 (f_X10_takes0 (7 : Int32) μ1) fun x2 μ3 =>
  (f_X10_readPlain_L2 k_X10_readBoth k_X10_readPlain k_X10_readTest v1 e16 n) x2 μ3)
theorem ok_X10_readPlain_L2 {fr : Nat} (hfr : 46 ≤ fr) {ν : hm_N} {μR : hm_M} (k_X10_readBoth : Int32 → hm_M → Option hm_M) (hk_X10_readBoth : ∀ {μR : hm_M} (v1 : Int32)  (μ : hm_M), hm_LL ν μ → k_X10_readBoth v1 μ = some μR → hm_CC (hm_LL ν) m_X10_readBoth (fr - 1) 0 0 [.ref 179, .int v1] μ none μR) (k_X10_readPlain : Int32 → hm_M → Option hm_M) (hk_X10_readPlain : ∀ {μR : hm_M} (v1 : Int32)  (μ : hm_M), hm_LL ν μ → k_X10_readPlain v1 μ = some μR → hm_CC (hm_LL ν) m_X10_readPlain (fr - 1) 0 0 [.ref 179, .int v1] μ none μR) (k_X10_readTest : Int32 → hm_M → Option hm_M) (hk_X10_readTest : ∀ {μR : hm_M} (v1 : Int32)  (μ : hm_M), hm_LL ν μ → k_X10_readTest v1 μ = some μR → hm_CC (hm_LL ν) m_X10_readTest (fr - 1) 0 0 [.ref 179, .int v1] μ none μR) (v1 : Int32) (e16 : hm_M → Option hm_M)  (he16 : ∀   (μ1 : hm_M), hm_LL ν μ1 → e16 μ1 = some μR → hm_T (hm_LL ν) m_X10_readPlain fr 0 0 none μR 16 [some (.ref 179), some (.int v1), none, none] [] μ1)  : ∀ (n : Nat) (y2 : Int32)  (μ1 : hm_M), hm_LL ν μ1 → f_X10_readPlain_L2 k_X10_readBoth k_X10_readPlain k_X10_readTest v1 e16 n y2 μ1 = some μR → hm_T (hm_LL ν) m_X10_readPlain fr 0 0 none μR 2 [some (.ref 179), some (.int v1), some (.int y2), none] [] μ1 := by
  intro n
  induction n with
  | zero =>
    intro y2 μ1 hL h
    unfold f_X10_readPlain_L2 at h
    cases h
  | succ n ih =>
    intro y2 μ1 hL h
    unfold f_X10_readPlain_L2 at h
    refine tr_iload_n (pc' := 3) (show decode cX10_readPlain 2 = .ok (.iload_n 2, 1) by decide +kernel) rfl rfl rfl ?_
    rcases hm_is h with ⟨hc, h⟩ | ⟨hc, h⟩
    · refine tr_if_eq_t (tgt := 16) hc (show decode cX10_readPlain 3 = .ok (.ifCond .eq 13, 3) by decide +kernel) (by decide) ?_
      refine hm_fgt [true, true, false, false] (lv' := [some (.ref 179), some (.int v1), none, none]) rfl ?_
      exact he16 μ1 hL h
    · refine tr_if_eq_f (tgt := 16) (pc' := 6) hc (show decode cX10_readPlain 3 = .ok (.ifCond .eq 13, 3) by decide +kernel) (by decide) rfl ?_
      refine tr_aload_n (pc' := 7) (show decode cX10_readPlain 6 = .ok (.aload_n 0, 1) by decide +kernel) rfl rfl rfl ?_
      refine tr_bipush (pc' := 9) (v := (7 : Int32)) (show decode cX10_readPlain 7 = .ok (.bipush 7, 2) by decide +kernel) rfl (by decide) ?_
      obtain ⟨x2, μ3, ex2, h⟩ := hm_b2s h
      have cx2 := ok_X10_takes0 (fr := fr - 1) (ν := ν) (by omega) (7 : Int32) μ1 hL ex2
      refine tp_callV (pc' := 12) (As := [.int (7 : Int32)]) (fr1 := fr - 1) (ci := 10) okm_X10_takes0 lk_HandRingModel_191 (show decode cX10_readPlain 9 = .ok (.invokevirtual 191, 3) by decide +kernel) rfl rfl rfl (by decide) (la_o hL (by decide) rfl) rfl rfl (Nat.le_of_ble_eq_true rfl) (by omega) cx2 (st' := [.int x2]) rfl ?_
      replace hL := cx2.1
      refine tr_istore_n (pc' := 13) (lv' := [some (.ref 179), some (.int v1), some (.int x2), none]) (show decode cX10_readPlain 12 = .ok (.istore_n 2, 1) by decide +kernel) rfl rfl (Nat.le_of_ble_eq_true rfl) rfl rfl ?_
      refine tr_goto (tgt := 2) (show decode cX10_readPlain 13 = .ok (.goto (-11), 3) by decide +kernel) rfl ?_
      exact ih x2 μ3 hL h
def f_X10_readPlain_J128 (k_X10_readBoth : Int32 → hm_M → Option hm_M) (k_X10_readPlain : Int32 → hm_M → Option hm_M) (k_X10_readTest : Int32 → hm_M → Option hm_M) (v1 : Int32) (μ1 : hm_M) : Option hm_M :=
  Option.bind (F_X10_readSum v1 μ1) fun μ14 =>
  some μ14
theorem ok_X10_readPlain_J128 {fr : Nat} (hfr : 46 ≤ fr) {ν : hm_N} {μR : hm_M} (k_X10_readBoth : Int32 → hm_M → Option hm_M) (hk_X10_readBoth : ∀ {μR : hm_M} (v1 : Int32)  (μ : hm_M), hm_LL ν μ → k_X10_readBoth v1 μ = some μR → hm_CC (hm_LL ν) m_X10_readBoth (fr - 1) 0 0 [.ref 179, .int v1] μ none μR) (k_X10_readPlain : Int32 → hm_M → Option hm_M) (hk_X10_readPlain : ∀ {μR : hm_M} (v1 : Int32)  (μ : hm_M), hm_LL ν μ → k_X10_readPlain v1 μ = some μR → hm_CC (hm_LL ν) m_X10_readPlain (fr - 1) 0 0 [.ref 179, .int v1] μ none μR) (k_X10_readTest : Int32 → hm_M → Option hm_M) (hk_X10_readTest : ∀ {μR : hm_M} (v1 : Int32)  (μ : hm_M), hm_LL ν μ → k_X10_readTest v1 μ = some μR → hm_CC (hm_LL ν) m_X10_readTest (fr - 1) 0 0 [.ref 179, .int v1] μ none μR) (v1 : Int32)     (μ1 : hm_M) (hL : hm_LL ν μ1) (h : f_X10_readPlain_J128 k_X10_readBoth k_X10_readPlain k_X10_readTest v1 μ1 = some μR) : hm_T (hm_LL ν) m_X10_readPlain fr 0 0 none μR 128 [some (.ref 179), some (.int v1), none, none] [] μ1 := by
  unfold f_X10_readPlain_J128 at h
  refine tr_aload_n (pc' := 129) (show decode cX10_readPlain 128 = .ok (.aload_n 0, 1) by decide +kernel) rfl rfl rfl ?_
  refine tr_iload_n (pc' := 130) (show decode cX10_readPlain 129 = .ok (.iload_n 1, 1) by decide +kernel) rfl rfl rfl ?_
  obtain ⟨μ14, ex13, h⟩ := hm_bs h
  have cx13 := OK_X10_readSum (fr := fr - 1) (ν := ν) (by omega) v1 μ1 hL ex13
  refine tp_callV (pc' := 133) (As := [.int v1]) (fr1 := fr - 1) (ci := 10) okm_X10_readSum lk_HandRingModel_200 (show decode cX10_readPlain 130 = .ok (.invokevirtual 200, 3) by decide +kernel) rfl rfl rfl (by decide) (la_o hL (by decide) rfl) rfl rfl (Nat.le_of_ble_eq_true rfl) (by omega) cx13 (st' := []) rfl ?_
  replace hL := cx13.1
  cases h
  exact tr_vret rfl (show decode cX10_readPlain 133 = .ok (.return_, 1) by decide +kernel) hL
def f_X10_readPlain_J53 (k_X10_readBoth : Int32 → hm_M → Option hm_M) (k_X10_readPlain : Int32 → hm_M → Option hm_M) (k_X10_readTest : Int32 → hm_M → Option hm_M) (v1 : Int32) (μ1 : hm_M) : Option hm_M :=
  Option.bind (f_X10_fine μ1) fun x21 =>
  (if x21 = 0 then
  some μ1
  else
  Option.bind (hm_pI μ1 179 19 ((μ1.1 179 19) + (1 : Int32))) fun μ22 =>
  Option.bind (k_X10_readTest (v1 + (1 : Int32)) μ22) fun μ24 =>
  Option.bind (f_X10_sign (41 : Int32)) fun x25 =>
  Option.bind (f_X10_must x25 μ24) fun μ27 =>
  some μ27)
theorem ok_X10_readPlain_J53 {fr : Nat} (hfr : 46 ≤ fr) {ν : hm_N} {μR : hm_M} (k_X10_readBoth : Int32 → hm_M → Option hm_M) (hk_X10_readBoth : ∀ {μR : hm_M} (v1 : Int32)  (μ : hm_M), hm_LL ν μ → k_X10_readBoth v1 μ = some μR → hm_CC (hm_LL ν) m_X10_readBoth (fr - 1) 0 0 [.ref 179, .int v1] μ none μR) (k_X10_readPlain : Int32 → hm_M → Option hm_M) (hk_X10_readPlain : ∀ {μR : hm_M} (v1 : Int32)  (μ : hm_M), hm_LL ν μ → k_X10_readPlain v1 μ = some μR → hm_CC (hm_LL ν) m_X10_readPlain (fr - 1) 0 0 [.ref 179, .int v1] μ none μR) (k_X10_readTest : Int32 → hm_M → Option hm_M) (hk_X10_readTest : ∀ {μR : hm_M} (v1 : Int32)  (μ : hm_M), hm_LL ν μ → k_X10_readTest v1 μ = some μR → hm_CC (hm_LL ν) m_X10_readTest (fr - 1) 0 0 [.ref 179, .int v1] μ none μR) (v1 : Int32)     (μ1 : hm_M) (hL : hm_LL ν μ1) (h : f_X10_readPlain_J53 k_X10_readBoth k_X10_readPlain k_X10_readTest v1 μ1 = some μR) : hm_T (hm_LL ν) m_X10_readPlain fr 0 0 none μR 53 [some (.ref 179), some (.int v1), none, none] [] μ1 := by
  unfold f_X10_readPlain_J53 at h
  refine tr_aload_n (pc' := 54) (show decode cX10_readPlain 53 = .ok (.aload_n 0, 1) by decide +kernel) rfl rfl rfl ?_
  obtain ⟨x21, ex21, h⟩ := hm_bs h
  have cx21 := ok_X10_fine (fr := fr - 1) (ν := ν) (by omega) μ1 hL ex21
  refine tp_callV (pc' := 57) (As := []) (fr1 := fr - 1) (ci := 10) okm_X10_fine lk_HandRingModel_184 (show decode cX10_readPlain 54 = .ok (.invokevirtual 184, 3) by decide +kernel) rfl rfl rfl (by decide) (la_o hL (by decide) rfl) rfl rfl (Nat.le_of_ble_eq_true rfl) (by omega) cx21 (st' := [.int x21]) rfl ?_
  rcases hm_is h with ⟨hc, h⟩ | ⟨hc, h⟩
  · refine tr_if_ne_f (tgt := 61) (pc' := 60) hc (show decode cX10_readPlain 57 = .ok (.ifCond .ne 4, 3) by decide +kernel) (by decide) rfl ?_
    cases h
    exact tr_vret rfl (show decode cX10_readPlain 60 = .ok (.return_, 1) by decide +kernel) hL
  · refine tr_if_ne_t (tgt := 61) hc (show decode cX10_readPlain 57 = .ok (.ifCond .ne 4, 3) by decide +kernel) (by decide) ?_
    refine tr_aload_n (pc' := 62) (show decode cX10_readPlain 61 = .ok (.aload_n 0, 1) by decide +kernel) rfl rfl rfl ?_
    refine tr_dup (pc' := 63) (show decode cX10_readPlain 62 = .ok (.dup, 1) by decide +kernel) rfl rfl ?_
    refine tr_getI (pc' := 66) fl_HandRingModel_188 (show decode cX10_readPlain 63 = .ok (.getfield 188, 3) by decide +kernel) rfl (la_o hL (by decide) rfl) ?_
    refine tr_iconst (pc' := 67) (v := (1 : Int32)) (show decode cX10_readPlain 66 = .ok (.iconst 1, 1) by decide +kernel) rfl (by decide) ?_
    refine tr_iadd (pc' := 68) (show decode cX10_readPlain 67 = .ok (.iadd, 1) by decide +kernel) rfl ?_
    obtain ⟨μ22, eμ22, h⟩ := hm_bs h
    refine tp_pI (pc' := 71) fl_HandRingModel_188 (show decode cX10_readPlain 68 = .ok (.putfield 188, 3) by decide +kernel) rfl (la_o hL (by decide) rfl) eμ22 ?_
    replace hL := hL.same (hm_pI_s eμ22)
    refine tr_aload_n (pc' := 72) (show decode cX10_readPlain 71 = .ok (.aload_n 0, 1) by decide +kernel) rfl rfl rfl ?_
    refine tr_iload_n (pc' := 73) (show decode cX10_readPlain 72 = .ok (.iload_n 1, 1) by decide +kernel) rfl rfl rfl ?_
    refine tr_iconst (pc' := 74) (v := (1 : Int32)) (show decode cX10_readPlain 73 = .ok (.iconst 1, 1) by decide +kernel) rfl (by decide) ?_
    refine tr_iadd (pc' := 75) (show decode cX10_readPlain 74 = .ok (.iadd, 1) by decide +kernel) rfl ?_
    obtain ⟨μ24, ex23, h⟩ := hm_bs h
    have cx23 := hk_X10_readTest (v1 + (1 : Int32)) μ22 hL ex23
    refine tp_callV (pc' := 78) (As := [.int (v1 + (1 : Int32))]) (fr1 := fr - 1) (ci := 10) okm_X10_readTest lk_HandRingModel_207 (show decode cX10_readPlain 75 = .ok (.invokevirtual 207, 3) by decide +kernel) rfl rfl rfl (by decide) (la_o hL (by decide) rfl) rfl rfl (Nat.le_of_ble_eq_true rfl) (by omega) cx23 (st' := []) rfl ?_
    replace hL := cx23.1
    refine tr_aload_n (pc' := 79) (show decode cX10_readPlain 78 = .ok (.aload_n 0, 1) by decide +kernel) rfl rfl rfl ?_
    refine tr_bipush (pc' := 81) (v := (41 : Int32)) (show decode cX10_readPlain 79 = .ok (.bipush 41, 2) by decide +kernel) rfl (by decide) ?_
    obtain ⟨x25, ex25, h⟩ := hm_bs h
    have cx25 := ok_X10_sign (fr := fr - 1) (ν := ν) (by omega) (41 : Int32) μ24 hL ex25
    refine tp_callS (pc' := 84) (As := [.int (41 : Int32)]) (fr1 := fr - 1) okm_X10_sign lk_HandRingModel_233 (show decode cX10_readPlain 81 = .ok (.invokestatic 233, 3) by decide +kernel) rfl rfl rfl (Nat.le_of_ble_eq_true rfl) (by omega) cx25 (st' := [.int x25, .ref 179]) rfl ?_
    obtain ⟨μ27, ex26, h⟩ := hm_bs h
    have cx26 := ok_X10_must (fr := fr - 1) (ν := ν) (by omega) x25 μ24 hL ex26
    refine tp_callV (pc' := 87) (As := [.int x25]) (fr1 := fr - 1) (ci := 10) okm_X10_must lk_HandRingModel_204 (show decode cX10_readPlain 84 = .ok (.invokevirtual 204, 3) by decide +kernel) rfl rfl rfl (by decide) (la_o hL (by decide) rfl) rfl rfl (Nat.le_of_ble_eq_true rfl) (by omega) cx26 (st' := []) rfl ?_
    replace hL := cx26.1
    refine tr_goto (tgt := 133) (show decode cX10_readPlain 87 = .ok (.goto 46, 3) by decide +kernel) rfl ?_
    cases h
    exact tr_vret rfl (show decode cX10_readPlain 133 = .ok (.return_, 1) by decide +kernel) hL
def f_X10_readPlain (k_X10_readBoth : Int32 → hm_M → Option hm_M) (k_X10_readPlain : Int32 → hm_M → Option hm_M) (k_X10_readTest : Int32 → hm_M → Option hm_M) (v1 : Int32) (μ : hm_M) : Option hm_M :=
  f_X10_readPlain_L2 k_X10_readBoth k_X10_readPlain k_X10_readTest v1 (fun μz4 => Option.bind (f_X10_fine μz4) fun x5 =>
  (if x5 = 0 then
  some μz4
  else
  Option.bind (hm_ld μz4 188 401 (μz4.1 179 19)) fun x6 =>
  Option.bind (f_X10_sign (40 : Int32)) fun x7 =>
  (if x6 = x7 then
  (if v1 = (8 : Int32) then
  Option.bind (f_X10_faults μz4) fun μ29 =>
  f_X10_readPlain_J53 k_X10_readBoth k_X10_readPlain k_X10_readTest v1 μ29
  else
  f_X10_readPlain_J53 k_X10_readBoth k_X10_readPlain k_X10_readTest v1 μz4)
  else
  Option.bind (F_X10_readSum v1 μz4) fun μ9 =>
  Option.bind (f_X10_sign (60 : Int32)) fun x10 =>
  hm_b2 (f_X10_takes0 x10 μ9) fun x11 μ12 =>
  (if x11 = 0 then
  Option.bind (f_X10_sign (62 : Int32)) fun x15 =>
  hm_b2 (f_X10_takes0 x15 μ12) fun x16 μ17 =>
  (if x16 = 0 then
  Option.bind (f_X10_sign (61 : Int32)) fun x18 =>
  Option.bind (f_X10_must x18 μ17) fun μ20 =>
  f_X10_readPlain_J128 k_X10_readBoth k_X10_readPlain k_X10_readTest v1 μ20
  else
  f_X10_readPlain_J128 k_X10_readBoth k_X10_readPlain k_X10_readTest v1 μ17)
  else
  f_X10_readPlain_J128 k_X10_readBoth k_X10_readPlain k_X10_readTest v1 μ12)))) hm_fu (1 : Int32) μ
set_option maxRecDepth 100000 in
theorem ok_X10_readPlain {fr : Nat} (hfr : 46 ≤ fr) {ν : hm_N} {μR : hm_M} (k_X10_readBoth : Int32 → hm_M → Option hm_M) (hk_X10_readBoth : ∀ {μR : hm_M} (v1 : Int32)  (μ : hm_M), hm_LL ν μ → k_X10_readBoth v1 μ = some μR → hm_CC (hm_LL ν) m_X10_readBoth (fr - 1) 0 0 [.ref 179, .int v1] μ none μR) (k_X10_readPlain : Int32 → hm_M → Option hm_M) (hk_X10_readPlain : ∀ {μR : hm_M} (v1 : Int32)  (μ : hm_M), hm_LL ν μ → k_X10_readPlain v1 μ = some μR → hm_CC (hm_LL ν) m_X10_readPlain (fr - 1) 0 0 [.ref 179, .int v1] μ none μR) (k_X10_readTest : Int32 → hm_M → Option hm_M) (hk_X10_readTest : ∀ {μR : hm_M} (v1 : Int32)  (μ : hm_M), hm_LL ν μ → k_X10_readTest v1 μ = some μR → hm_CC (hm_LL ν) m_X10_readTest (fr - 1) 0 0 [.ref 179, .int v1] μ none μR) (v1 : Int32)  (μ : hm_M) (hL : hm_LL ν μ) (h : f_X10_readPlain k_X10_readBoth k_X10_readPlain k_X10_readTest v1 μ = some μR) : hm_CC (hm_LL ν) m_X10_readPlain fr 0 0 [.ref 179, .int v1] μ none μR := by
  refine hm_enter (lv := [some (.ref 179), some (.int v1), none, none]) (by decide) rfl (Nat.le_of_ble_eq_true rfl) ?_
  unfold f_X10_readPlain at h
  refine tr_iconst (pc' := 1) (v := (1 : Int32)) (show decode cX10_readPlain 0 = .ok (.iconst 1, 1) by decide +kernel) rfl (by decide) ?_
  refine tr_istore_n (pc' := 2) (lv' := [some (.ref 179), some (.int v1), some (.int (1 : Int32)), none]) (show decode cX10_readPlain 1 = .ok (.istore_n 2, 1) by decide +kernel) rfl rfl (Nat.le_of_ble_eq_true rfl) rfl rfl ?_
  refine ok_X10_readPlain_L2 hfr k_X10_readBoth hk_X10_readBoth k_X10_readPlain hk_X10_readPlain k_X10_readTest hk_X10_readTest _ _ ?_ _ (1 : Int32) μ hL h
  · intro μz4 hL h
    refine tr_aload_n (pc' := 17) (show decode cX10_readPlain 16 = .ok (.aload_n 0, 1) by decide +kernel) rfl rfl rfl ?_
    obtain ⟨x5, ex5, h⟩ := hm_bs h
    have cx5 := ok_X10_fine (fr := fr - 1) (ν := ν) (by omega) μz4 hL ex5
    refine tp_callV (pc' := 20) (As := []) (fr1 := fr - 1) (ci := 10) okm_X10_fine lk_HandRingModel_184 (show decode cX10_readPlain 17 = .ok (.invokevirtual 184, 3) by decide +kernel) rfl rfl rfl (by decide) (la_o hL (by decide) rfl) rfl rfl (Nat.le_of_ble_eq_true rfl) (by omega) cx5 (st' := [.int x5]) rfl ?_
    rcases hm_is h with ⟨hc, h⟩ | ⟨hc, h⟩
    · refine tr_if_ne_f (tgt := 24) (pc' := 23) hc (show decode cX10_readPlain 20 = .ok (.ifCond .ne 4, 3) by decide +kernel) (by decide) rfl ?_
      cases h
      exact tr_vret rfl (show decode cX10_readPlain 23 = .ok (.return_, 1) by decide +kernel) hL
    · refine tr_if_ne_t (tgt := 24) hc (show decode cX10_readPlain 20 = .ok (.ifCond .ne 4, 3) by decide +kernel) (by decide) ?_
      refine tr_aload_n (pc' := 25) (show decode cX10_readPlain 24 = .ok (.aload_n 0, 1) by decide +kernel) rfl rfl rfl ?_
      refine tr_getR (pc' := 28) fl_HandRingModel_50 (show decode cX10_readPlain 25 = .ok (.getfield 50, 3) by decide +kernel) rfl (la_o hL (by decide) rfl) (la_r hL 125 rfl) ?_
      refine tr_aload_n (pc' := 29) (show decode cX10_readPlain 28 = .ok (.aload_n 0, 1) by decide +kernel) rfl rfl rfl ?_
      refine tr_getI (pc' := 32) fl_HandRingModel_188 (show decode cX10_readPlain 29 = .ok (.getfield 188, 3) by decide +kernel) rfl (la_o hL (by decide) rfl) ?_
      obtain ⟨x6, ex6, h⟩ := hm_bs h
      refine tp_ldI (pc' := 33) (show decode cX10_readPlain 32 = .ok (.iaload, 1) by decide +kernel) rfl (la_a hL (by decide) rfl) ex6 ?_
      refine tr_istore_n (pc' := 34) (lv' := [some (.ref 179), some (.int v1), none, some (.int x6)]) (show decode cX10_readPlain 33 = .ok (.istore_n 3, 1) by decide +kernel) rfl rfl (Nat.le_of_ble_eq_true rfl) rfl rfl ?_
      refine tr_iload_n (pc' := 35) (show decode cX10_readPlain 34 = .ok (.iload_n 3, 1) by decide +kernel) rfl rfl rfl ?_
      refine tr_bipush (pc' := 37) (v := (40 : Int32)) (show decode cX10_readPlain 35 = .ok (.bipush 40, 2) by decide +kernel) rfl (by decide) ?_
      obtain ⟨x7, ex7, h⟩ := hm_bs h
      have cx7 := ok_X10_sign (fr := fr - 1) (ν := ν) (by omega) (40 : Int32) μz4 hL ex7
      refine tp_callS (pc' := 40) (As := [.int (40 : Int32)]) (fr1 := fr - 1) okm_X10_sign lk_HandRingModel_233 (show decode cX10_readPlain 37 = .ok (.invokestatic 233, 3) by decide +kernel) rfl rfl rfl (Nat.le_of_ble_eq_true rfl) (by omega) cx7 (st' := [.int x7, .int x6]) rfl ?_
      rcases hm_is h with ⟨hc, h⟩ | ⟨hc, h⟩
      · refine tr_icmp_ne_f (tgt := 90) (pc' := 43) hc (show decode cX10_readPlain 40 = .ok (.if_icmp .ne 50, 3) by decide +kernel) (by decide) rfl ?_
        refine tr_iload_n (pc' := 44) (show decode cX10_readPlain 43 = .ok (.iload_n 1, 1) by decide +kernel) rfl rfl rfl ?_
        refine tr_bipush (pc' := 46) (v := (8 : Int32)) (show decode cX10_readPlain 44 = .ok (.bipush 8, 2) by decide +kernel) rfl (by decide) ?_
        rcases hm_is h with ⟨hc, h⟩ | ⟨hc, h⟩
        · refine tr_icmp_ne_f (tgt := 53) (pc' := 49) hc (show decode cX10_readPlain 46 = .ok (.if_icmp .ne 7, 3) by decide +kernel) (by decide) rfl ?_
          refine tr_aload_n (pc' := 50) (show decode cX10_readPlain 49 = .ok (.aload_n 0, 1) by decide +kernel) rfl rfl rfl ?_
          obtain ⟨μ29, ex28, h⟩ := hm_bs h
          have cx28 := ok_X10_faults (fr := fr - 1) (ν := ν) (by omega) μz4 hL ex28
          refine tp_callV (pc' := 53) (As := []) (fr1 := fr - 1) (ci := 10) okm_X10_faults lk_HandRingModel_194 (show decode cX10_readPlain 50 = .ok (.invokevirtual 194, 3) by decide +kernel) rfl rfl rfl (by decide) (la_o hL (by decide) rfl) rfl rfl (Nat.le_of_ble_eq_true rfl) (by omega) cx28 (st' := []) rfl ?_
          replace hL := cx28.1
          refine hm_fgt [true, true, false, false] (lv' := [some (.ref 179), some (.int v1), none, none]) rfl ?_
          exact ok_X10_readPlain_J53 hfr k_X10_readBoth hk_X10_readBoth k_X10_readPlain hk_X10_readPlain k_X10_readTest hk_X10_readTest _ μ29 hL h
        · refine tr_icmp_ne_t (tgt := 53) hc (show decode cX10_readPlain 46 = .ok (.if_icmp .ne 7, 3) by decide +kernel) (by decide) ?_
          refine hm_fgt [true, true, false, false] (lv' := [some (.ref 179), some (.int v1), none, none]) rfl ?_
          exact ok_X10_readPlain_J53 hfr k_X10_readBoth hk_X10_readBoth k_X10_readPlain hk_X10_readPlain k_X10_readTest hk_X10_readTest _ μz4 hL h
      · refine tr_icmp_ne_t (tgt := 90) hc (show decode cX10_readPlain 40 = .ok (.if_icmp .ne 50, 3) by decide +kernel) (by decide) ?_
        refine tr_aload_n (pc' := 91) (show decode cX10_readPlain 90 = .ok (.aload_n 0, 1) by decide +kernel) rfl rfl rfl ?_
        refine tr_iload_n (pc' := 92) (show decode cX10_readPlain 91 = .ok (.iload_n 1, 1) by decide +kernel) rfl rfl rfl ?_
        obtain ⟨μ9, ex8, h⟩ := hm_bs h
        have cx8 := OK_X10_readSum (fr := fr - 1) (ν := ν) (by omega) v1 μz4 hL ex8
        refine tp_callV (pc' := 95) (As := [.int v1]) (fr1 := fr - 1) (ci := 10) okm_X10_readSum lk_HandRingModel_200 (show decode cX10_readPlain 92 = .ok (.invokevirtual 200, 3) by decide +kernel) rfl rfl rfl (by decide) (la_o hL (by decide) rfl) rfl rfl (Nat.le_of_ble_eq_true rfl) (by omega) cx8 (st' := []) rfl ?_
        replace hL := cx8.1
        refine tr_aload_n (pc' := 96) (show decode cX10_readPlain 95 = .ok (.aload_n 0, 1) by decide +kernel) rfl rfl rfl ?_
        refine tr_bipush (pc' := 98) (v := (60 : Int32)) (show decode cX10_readPlain 96 = .ok (.bipush 60, 2) by decide +kernel) rfl (by decide) ?_
        obtain ⟨x10, ex10, h⟩ := hm_bs h
        have cx10 := ok_X10_sign (fr := fr - 1) (ν := ν) (by omega) (60 : Int32) μ9 hL ex10
        refine tp_callS (pc' := 101) (As := [.int (60 : Int32)]) (fr1 := fr - 1) okm_X10_sign lk_HandRingModel_233 (show decode cX10_readPlain 98 = .ok (.invokestatic 233, 3) by decide +kernel) rfl rfl rfl (Nat.le_of_ble_eq_true rfl) (by omega) cx10 (st' := [.int x10, .ref 179]) rfl ?_
        obtain ⟨x11, μ12, ex11, h⟩ := hm_b2s h
        have cx11 := ok_X10_takes0 (fr := fr - 1) (ν := ν) (by omega) x10 μ9 hL ex11
        refine tp_callV (pc' := 104) (As := [.int x10]) (fr1 := fr - 1) (ci := 10) okm_X10_takes0 lk_HandRingModel_191 (show decode cX10_readPlain 101 = .ok (.invokevirtual 191, 3) by decide +kernel) rfl rfl rfl (by decide) (la_o hL (by decide) rfl) rfl rfl (Nat.le_of_ble_eq_true rfl) (by omega) cx11 (st' := [.int x11]) rfl ?_
        replace hL := cx11.1
        rcases hm_is h with ⟨hc, h⟩ | ⟨hc, h⟩
        · refine tr_if_ne_f (tgt := 128) (pc' := 107) hc (show decode cX10_readPlain 104 = .ok (.ifCond .ne 24, 3) by decide +kernel) (by decide) rfl ?_
          refine tr_aload_n (pc' := 108) (show decode cX10_readPlain 107 = .ok (.aload_n 0, 1) by decide +kernel) rfl rfl rfl ?_
          refine tr_bipush (pc' := 110) (v := (62 : Int32)) (show decode cX10_readPlain 108 = .ok (.bipush 62, 2) by decide +kernel) rfl (by decide) ?_
          obtain ⟨x15, ex15, h⟩ := hm_bs h
          have cx15 := ok_X10_sign (fr := fr - 1) (ν := ν) (by omega) (62 : Int32) μ12 hL ex15
          refine tp_callS (pc' := 113) (As := [.int (62 : Int32)]) (fr1 := fr - 1) okm_X10_sign lk_HandRingModel_233 (show decode cX10_readPlain 110 = .ok (.invokestatic 233, 3) by decide +kernel) rfl rfl rfl (Nat.le_of_ble_eq_true rfl) (by omega) cx15 (st' := [.int x15, .ref 179]) rfl ?_
          obtain ⟨x16, μ17, ex16, h⟩ := hm_b2s h
          have cx16 := ok_X10_takes0 (fr := fr - 1) (ν := ν) (by omega) x15 μ12 hL ex16
          refine tp_callV (pc' := 116) (As := [.int x15]) (fr1 := fr - 1) (ci := 10) okm_X10_takes0 lk_HandRingModel_191 (show decode cX10_readPlain 113 = .ok (.invokevirtual 191, 3) by decide +kernel) rfl rfl rfl (by decide) (la_o hL (by decide) rfl) rfl rfl (Nat.le_of_ble_eq_true rfl) (by omega) cx16 (st' := [.int x16]) rfl ?_
          replace hL := cx16.1
          rcases hm_is h with ⟨hc, h⟩ | ⟨hc, h⟩
          · refine tr_if_ne_f (tgt := 128) (pc' := 119) hc (show decode cX10_readPlain 116 = .ok (.ifCond .ne 12, 3) by decide +kernel) (by decide) rfl ?_
            refine tr_aload_n (pc' := 120) (show decode cX10_readPlain 119 = .ok (.aload_n 0, 1) by decide +kernel) rfl rfl rfl ?_
            refine tr_bipush (pc' := 122) (v := (61 : Int32)) (show decode cX10_readPlain 120 = .ok (.bipush 61, 2) by decide +kernel) rfl (by decide) ?_
            obtain ⟨x18, ex18, h⟩ := hm_bs h
            have cx18 := ok_X10_sign (fr := fr - 1) (ν := ν) (by omega) (61 : Int32) μ17 hL ex18
            refine tp_callS (pc' := 125) (As := [.int (61 : Int32)]) (fr1 := fr - 1) okm_X10_sign lk_HandRingModel_233 (show decode cX10_readPlain 122 = .ok (.invokestatic 233, 3) by decide +kernel) rfl rfl rfl (Nat.le_of_ble_eq_true rfl) (by omega) cx18 (st' := [.int x18, .ref 179]) rfl ?_
            obtain ⟨μ20, ex19, h⟩ := hm_bs h
            have cx19 := ok_X10_must (fr := fr - 1) (ν := ν) (by omega) x18 μ17 hL ex19
            refine tp_callV (pc' := 128) (As := [.int x18]) (fr1 := fr - 1) (ci := 10) okm_X10_must lk_HandRingModel_204 (show decode cX10_readPlain 125 = .ok (.invokevirtual 204, 3) by decide +kernel) rfl rfl rfl (by decide) (la_o hL (by decide) rfl) rfl rfl (Nat.le_of_ble_eq_true rfl) (by omega) cx19 (st' := []) rfl ?_
            replace hL := cx19.1
            refine hm_fgt [true, true, false, false] (lv' := [some (.ref 179), some (.int v1), none, none]) rfl ?_
            exact ok_X10_readPlain_J128 hfr k_X10_readBoth hk_X10_readBoth k_X10_readPlain hk_X10_readPlain k_X10_readTest hk_X10_readTest _ μ20 hL h
          · refine tr_if_ne_t (tgt := 128) hc (show decode cX10_readPlain 116 = .ok (.ifCond .ne 12, 3) by decide +kernel) (by decide) ?_
            refine hm_fgt [true, true, false, false] (lv' := [some (.ref 179), some (.int v1), none, none]) rfl ?_
            exact ok_X10_readPlain_J128 hfr k_X10_readBoth hk_X10_readBoth k_X10_readPlain hk_X10_readPlain k_X10_readTest hk_X10_readTest _ μ17 hL h
        · refine tr_if_ne_t (tgt := 128) hc (show decode cX10_readPlain 104 = .ok (.ifCond .ne 24, 3) by decide +kernel) (by decide) ?_
          refine hm_fgt [true, true, false, false] (lv' := [some (.ref 179), some (.int v1), none, none]) rfl ?_
          exact ok_X10_readPlain_J128 hfr k_X10_readBoth hk_X10_readBoth k_X10_readPlain hk_X10_readPlain k_X10_readTest hk_X10_readTest _ μ12 hL h
def f_X10_readTest_L5 (k_X10_readBoth : Int32 → hm_M → Option hm_M) (k_X10_readPlain : Int32 → hm_M → Option hm_M) (k_X10_readTest : Int32 → hm_M → Option hm_M) (v1 : Int32) (e21 : hm_M → Option hm_M) : Nat → hm_M → Option hm_M
  | 0, _ => none
  | n + 1, μ1 => hm_b2 (f_X10_takes0 (5 : Int32) μ1) fun x4 μ5 =>
  (if x4 = 0 then
  e21 μ5
  else
  Option.bind (k_X10_readBoth v1 μ5) fun μ7 =>
  (f_X10_readTest_L5 k_X10_readBoth k_X10_readPlain k_X10_readTest v1 e21 n) μ7)
theorem ok_X10_readTest_L5 {fr : Nat} (hfr : 3 ≤ fr) {ν : hm_N} {μR : hm_M} (k_X10_readBoth : Int32 → hm_M → Option hm_M) (hk_X10_readBoth : ∀ {μR : hm_M} (v1 : Int32)  (μ : hm_M), hm_LL ν μ → k_X10_readBoth v1 μ = some μR → hm_CC (hm_LL ν) m_X10_readBoth (fr - 1) 0 0 [.ref 179, .int v1] μ none μR) (k_X10_readPlain : Int32 → hm_M → Option hm_M) (hk_X10_readPlain : ∀ {μR : hm_M} (v1 : Int32)  (μ : hm_M), hm_LL ν μ → k_X10_readPlain v1 μ = some μR → hm_CC (hm_LL ν) m_X10_readPlain (fr - 1) 0 0 [.ref 179, .int v1] μ none μR) (k_X10_readTest : Int32 → hm_M → Option hm_M) (hk_X10_readTest : ∀ {μR : hm_M} (v1 : Int32)  (μ : hm_M), hm_LL ν μ → k_X10_readTest v1 μ = some μR → hm_CC (hm_LL ν) m_X10_readTest (fr - 1) 0 0 [.ref 179, .int v1] μ none μR) (v1 : Int32) (e21 : hm_M → Option hm_M)  (he21 : ∀   (μ1 : hm_M), hm_LL ν μ1 → e21 μ1 = some μR → hm_T (hm_LL ν) m_X10_readTest fr 0 0 none μR 21 [none, none] [] μ1)  : ∀ (n : Nat)   (μ1 : hm_M), hm_LL ν μ1 → f_X10_readTest_L5 k_X10_readBoth k_X10_readPlain k_X10_readTest v1 e21 n μ1 = some μR → hm_T (hm_LL ν) m_X10_readTest fr 0 0 none μR 5 [some (.ref 179), some (.int v1)] [] μ1 := by
  intro n
  induction n with
  | zero =>
    intro μ1 hL h
    unfold f_X10_readTest_L5 at h
    cases h
  | succ n ih =>
    intro μ1 hL h
    unfold f_X10_readTest_L5 at h
    refine tr_aload_n (pc' := 6) (show decode cX10_readTest 5 = .ok (.aload_n 0, 1) by decide +kernel) rfl rfl rfl ?_
    refine tr_iconst (pc' := 7) (v := (5 : Int32)) (show decode cX10_readTest 6 = .ok (.iconst 5, 1) by decide +kernel) rfl (by decide) ?_
    obtain ⟨x4, μ5, ex4, h⟩ := hm_b2s h
    have cx4 := ok_X10_takes0 (fr := fr - 1) (ν := ν) (by omega) (5 : Int32) μ1 hL ex4
    refine tp_callV (pc' := 10) (As := [.int (5 : Int32)]) (fr1 := fr - 1) (ci := 10) okm_X10_takes0 lk_HandRingModel_191 (show decode cX10_readTest 7 = .ok (.invokevirtual 191, 3) by decide +kernel) rfl rfl rfl (by decide) (la_o hL (by decide) rfl) rfl rfl (Nat.le_of_ble_eq_true rfl) (by omega) cx4 (st' := [.int x4]) rfl ?_
    replace hL := cx4.1
    rcases hm_is h with ⟨hc, h⟩ | ⟨hc, h⟩
    · refine tr_if_eq_t (tgt := 21) hc (show decode cX10_readTest 10 = .ok (.ifCond .eq 11, 3) by decide +kernel) (by decide) ?_
      refine hm_fgt [false, false] (lv' := [none, none]) rfl ?_
      exact he21 μ5 hL h
    · refine tr_if_eq_f (tgt := 21) (pc' := 13) hc (show decode cX10_readTest 10 = .ok (.ifCond .eq 11, 3) by decide +kernel) (by decide) rfl ?_
      refine tr_aload_n (pc' := 14) (show decode cX10_readTest 13 = .ok (.aload_n 0, 1) by decide +kernel) rfl rfl rfl ?_
      refine tr_iload_n (pc' := 15) (show decode cX10_readTest 14 = .ok (.iload_n 1, 1) by decide +kernel) rfl rfl rfl ?_
      obtain ⟨μ7, ex6, h⟩ := hm_bs h
      have cx6 := hk_X10_readBoth v1 μ5 hL ex6
      refine tp_callV (pc' := 18) (As := [.int v1]) (fr1 := fr - 1) (ci := 10) okm_X10_readBoth lk_HandRingModel_227 (show decode cX10_readTest 15 = .ok (.invokevirtual 227, 3) by decide +kernel) rfl rfl rfl (by decide) (la_o hL (by decide) rfl) rfl rfl (Nat.le_of_ble_eq_true rfl) (by omega) cx6 (st' := []) rfl ?_
      replace hL := cx6.1
      refine tr_goto (tgt := 5) (show decode cX10_readTest 18 = .ok (.goto (-13), 3) by decide +kernel) rfl ?_
      exact ih μ7 hL h
def f_X10_readTest (k_X10_readBoth : Int32 → hm_M → Option hm_M) (k_X10_readPlain : Int32 → hm_M → Option hm_M) (k_X10_readTest : Int32 → hm_M → Option hm_M) (v1 : Int32) (μ : hm_M) : Option hm_M :=
  Option.bind (k_X10_readBoth v1 μ) fun μ3 =>
  f_X10_readTest_L5 k_X10_readBoth k_X10_readPlain k_X10_readTest v1 (fun μz8 => some μz8) hm_fu μ3
set_option maxRecDepth 100000 in
theorem ok_X10_readTest {fr : Nat} (hfr : 3 ≤ fr) {ν : hm_N} {μR : hm_M} (k_X10_readBoth : Int32 → hm_M → Option hm_M) (hk_X10_readBoth : ∀ {μR : hm_M} (v1 : Int32)  (μ : hm_M), hm_LL ν μ → k_X10_readBoth v1 μ = some μR → hm_CC (hm_LL ν) m_X10_readBoth (fr - 1) 0 0 [.ref 179, .int v1] μ none μR) (k_X10_readPlain : Int32 → hm_M → Option hm_M) (hk_X10_readPlain : ∀ {μR : hm_M} (v1 : Int32)  (μ : hm_M), hm_LL ν μ → k_X10_readPlain v1 μ = some μR → hm_CC (hm_LL ν) m_X10_readPlain (fr - 1) 0 0 [.ref 179, .int v1] μ none μR) (k_X10_readTest : Int32 → hm_M → Option hm_M) (hk_X10_readTest : ∀ {μR : hm_M} (v1 : Int32)  (μ : hm_M), hm_LL ν μ → k_X10_readTest v1 μ = some μR → hm_CC (hm_LL ν) m_X10_readTest (fr - 1) 0 0 [.ref 179, .int v1] μ none μR) (v1 : Int32)  (μ : hm_M) (hL : hm_LL ν μ) (h : f_X10_readTest k_X10_readBoth k_X10_readPlain k_X10_readTest v1 μ = some μR) : hm_CC (hm_LL ν) m_X10_readTest fr 0 0 [.ref 179, .int v1] μ none μR := by
  refine hm_enter (lv := [some (.ref 179), some (.int v1)]) (by decide) rfl (Nat.le_of_ble_eq_true rfl) ?_
  unfold f_X10_readTest at h
  refine tr_aload_n (pc' := 1) (show decode cX10_readTest 0 = .ok (.aload_n 0, 1) by decide +kernel) rfl rfl rfl ?_
  refine tr_iload_n (pc' := 2) (show decode cX10_readTest 1 = .ok (.iload_n 1, 1) by decide +kernel) rfl rfl rfl ?_
  obtain ⟨μ3, ex2, h⟩ := hm_bs h
  have cx2 := hk_X10_readBoth v1 μ hL ex2
  refine tp_callV (pc' := 5) (As := [.int v1]) (fr1 := fr - 1) (ci := 10) okm_X10_readBoth lk_HandRingModel_227 (show decode cX10_readTest 2 = .ok (.invokevirtual 227, 3) by decide +kernel) rfl rfl rfl (by decide) (la_o hL (by decide) rfl) rfl rfl (Nat.le_of_ble_eq_true rfl) (by omega) cx2 (st' := []) rfl ?_
  replace hL := cx2.1
  refine ok_X10_readTest_L5 hfr k_X10_readBoth hk_X10_readBoth k_X10_readPlain hk_X10_readPlain k_X10_readTest hk_X10_readTest _ _ ?_ _ μ3 hL h
  · intro μz8 hL h
    cases h
    exact tr_vret rfl (show decode cX10_readTest 21 = .ok (.return_, 1) by decide +kernel) hL
def K_X10_readBoth : Nat → (Int32 → hm_M → Option hm_M) × (Int32 → hm_M → Option hm_M) × (Int32 → hm_M → Option hm_M)
  | 0 => (fun _ _ => none, fun _ _ => none, fun _ _ => none)
  | n + 1 => (f_X10_readBoth (K_X10_readBoth n).1 (K_X10_readBoth n).2.1 (K_X10_readBoth n).2.2, f_X10_readPlain (K_X10_readBoth n).1 (K_X10_readBoth n).2.1 (K_X10_readBoth n).2.2, f_X10_readTest (K_X10_readBoth n).1 (K_X10_readBoth n).2.1 (K_X10_readBoth n).2.2)
theorem KK_X10_readBoth {ν : hm_N} : ∀ (n fr : Nat), n + 46 ≤ fr → (∀ {μR : hm_M} (v1 : Int32)  (μ : hm_M), hm_LL ν μ → (K_X10_readBoth n).1 v1 μ = some μR → hm_CC (hm_LL ν) m_X10_readBoth (fr) 0 0 [.ref 179, .int v1] μ none μR) ∧ (∀ {μR : hm_M} (v1 : Int32)  (μ : hm_M), hm_LL ν μ → (K_X10_readBoth n).2.1 v1 μ = some μR → hm_CC (hm_LL ν) m_X10_readPlain (fr) 0 0 [.ref 179, .int v1] μ none μR) ∧ (∀ {μR : hm_M} (v1 : Int32)  (μ : hm_M), hm_LL ν μ → (K_X10_readBoth n).2.2 v1 μ = some μR → hm_CC (hm_LL ν) m_X10_readTest (fr) 0 0 [.ref 179, .int v1] μ none μR) := by
  intro n
  induction n with
  | zero =>
    intro fr _
    exact ⟨by intros; rename_i h; exact absurd (show none = some _ from h) (fun z => by cases z), by intros; rename_i h; exact absurd (show none = some _ from h) (fun z => by cases z), by intros; rename_i h; exact absurd (show none = some _ from h) (fun z => by cases z)⟩
  | succ n ih =>
    intro fr hf
    have I := @ih (fr - 1) (by omega)
    exact ⟨(fun {_} v1  μ hL h => ok_X10_readBoth (by omega) (K_X10_readBoth n).1 I.1 (K_X10_readBoth n).2.1 I.2.1 (K_X10_readBoth n).2.2 I.2.2 v1  μ hL h),
      (fun {_} v1  μ hL h => ok_X10_readPlain (by omega) (K_X10_readBoth n).1 I.1 (K_X10_readBoth n).2.1 I.2.1 (K_X10_readBoth n).2.2 I.2.2 v1  μ hL h),
      (fun {_} v1  μ hL h => ok_X10_readTest (by omega) (K_X10_readBoth n).1 I.1 (K_X10_readBoth n).2.1 I.2.1 (K_X10_readBoth n).2.2 I.2.2 v1  μ hL h)⟩
def F_X10_readBoth (v1 : Int32) (μ : hm_M) : Option hm_M := (K_X10_readBoth 40).1 v1 μ
theorem OK_X10_readBoth {fr : Nat} (hfr : 86 ≤ fr) {ν : hm_N} {μR : hm_M} (v1 : Int32)  (μ : hm_M) (hL : hm_LL ν μ) (h : F_X10_readBoth v1 μ = some μR) : hm_CC (hm_LL ν) m_X10_readBoth fr 0 0 [.ref 179, .int v1] μ none μR := (KK_X10_readBoth 40 fr (by omega)).1 v1  μ hL h
def F_X10_readPlain (v1 : Int32) (μ : hm_M) : Option hm_M := (K_X10_readBoth 40).2.1 v1 μ
theorem OK_X10_readPlain {fr : Nat} (hfr : 86 ≤ fr) {ν : hm_N} {μR : hm_M} (v1 : Int32)  (μ : hm_M) (hL : hm_LL ν μ) (h : F_X10_readPlain v1 μ = some μR) : hm_CC (hm_LL ν) m_X10_readPlain fr 0 0 [.ref 179, .int v1] μ none μR := (KK_X10_readBoth 40 fr (by omega)).2.1 v1  μ hL h
def F_X10_readTest (v1 : Int32) (μ : hm_M) : Option hm_M := (K_X10_readBoth 40).2.2 v1 μ
theorem OK_X10_readTest {fr : Nat} (hfr : 86 ≤ fr) {ν : hm_N} {μR : hm_M} (v1 : Int32)  (μ : hm_M) (hL : hm_LL ν μ) (h : F_X10_readTest v1 μ = some μR) : hm_CC (hm_LL ν) m_X10_readTest fr 0 0 [.ref 179, .int v1] μ none μR := (KK_X10_readBoth 40 fr (by omega)).2.2 v1  μ hL h
def f_X10_readClause_J29 (μ1 : hm_M) : Option hm_M :=
  hm_b2 (f_X10_takes0 (4 : Int32) μ1) fun x6 μ7 =>
  (if x6 = 0 then
  some μ7
  else
  Option.bind (F_X10_readTest (0 : Int32) μ7) fun μ9 =>
  some μ9)
theorem ok_X10_readClause_J29 {fr : Nat} (hfr : 87 ≤ fr) {ν : hm_N} {μR : hm_M}       (μ1 : hm_M) (hL : hm_LL ν μ1) (h : f_X10_readClause_J29 μ1 = some μR) : hm_T (hm_LL ν) m_X10_readClause fr 0 0 none μR 29 [some (.ref 179)] [] μ1 := by
  unfold f_X10_readClause_J29 at h
  refine tr_aload_n (pc' := 30) (show decode cX10_readClause 29 = .ok (.aload_n 0, 1) by decide +kernel) rfl rfl rfl ?_
  refine tr_iconst (pc' := 31) (v := (4 : Int32)) (show decode cX10_readClause 30 = .ok (.iconst 4, 1) by decide +kernel) rfl (by decide) ?_
  obtain ⟨x6, μ7, ex6, h⟩ := hm_b2s h
  have cx6 := ok_X10_takes0 (fr := fr - 1) (ν := ν) (by omega) (4 : Int32) μ1 hL ex6
  refine tp_callV (pc' := 34) (As := [.int (4 : Int32)]) (fr1 := fr - 1) (ci := 10) okm_X10_takes0 lk_HandRingModel_191 (show decode cX10_readClause 31 = .ok (.invokevirtual 191, 3) by decide +kernel) rfl rfl rfl (by decide) (la_o hL (by decide) rfl) rfl rfl (Nat.le_of_ble_eq_true rfl) (by omega) cx6 (st' := [.int x6]) rfl ?_
  replace hL := cx6.1
  rcases hm_is h with ⟨hc, h⟩ | ⟨hc, h⟩
  · refine tr_if_eq_t (tgt := 42) hc (show decode cX10_readClause 34 = .ok (.ifCond .eq 8, 3) by decide +kernel) (by decide) ?_
    cases h
    exact tr_vret rfl (show decode cX10_readClause 42 = .ok (.return_, 1) by decide +kernel) hL
  · refine tr_if_eq_f (tgt := 42) (pc' := 37) hc (show decode cX10_readClause 34 = .ok (.ifCond .eq 8, 3) by decide +kernel) (by decide) rfl ?_
    refine tr_aload_n (pc' := 38) (show decode cX10_readClause 37 = .ok (.aload_n 0, 1) by decide +kernel) rfl rfl rfl ?_
    refine tr_iconst (pc' := 39) (v := (0 : Int32)) (show decode cX10_readClause 38 = .ok (.iconst 0, 1) by decide +kernel) rfl (by decide) ?_
    obtain ⟨μ9, ex8, h⟩ := hm_bs h
    have cx8 := OK_X10_readTest (fr := fr - 1) (ν := ν) (by omega) (0 : Int32) μ7 hL ex8
    refine tp_callV (pc' := 42) (As := [.int (0 : Int32)]) (fr1 := fr - 1) (ci := 10) okm_X10_readTest lk_HandRingModel_207 (show decode cX10_readClause 39 = .ok (.invokevirtual 207, 3) by decide +kernel) rfl rfl rfl (by decide) (la_o hL (by decide) rfl) rfl rfl (Nat.le_of_ble_eq_true rfl) (by omega) cx8 (st' := []) rfl ?_
    replace hL := cx8.1
    cases h
    exact tr_vret rfl (show decode cX10_readClause 42 = .ok (.return_, 1) by decide +kernel) hL
def f_X10_readClause_J16 (μ1 : hm_M) : Option hm_M :=
  Option.bind (F_X10_readSum (0 : Int32) μ1) fun μ5 =>
  f_X10_readClause_J29 μ5
theorem ok_X10_readClause_J16 {fr : Nat} (hfr : 87 ≤ fr) {ν : hm_N} {μR : hm_M}       (μ1 : hm_M) (hL : hm_LL ν μ1) (h : f_X10_readClause_J16 μ1 = some μR) : hm_T (hm_LL ν) m_X10_readClause fr 0 0 none μR 16 [some (.ref 179)] [] μ1 := by
  unfold f_X10_readClause_J16 at h
  refine tr_aload_n (pc' := 17) (show decode cX10_readClause 16 = .ok (.aload_n 0, 1) by decide +kernel) rfl rfl rfl ?_
  refine tr_iconst (pc' := 18) (v := (0 : Int32)) (show decode cX10_readClause 17 = .ok (.iconst 0, 1) by decide +kernel) rfl (by decide) ?_
  obtain ⟨μ5, ex4, h⟩ := hm_bs h
  have cx4 := OK_X10_readSum (fr := fr - 1) (ν := ν) (by omega) (0 : Int32) μ1 hL ex4
  refine tp_callV (pc' := 21) (As := [.int (0 : Int32)]) (fr1 := fr - 1) (ci := 10) okm_X10_readSum lk_HandRingModel_200 (show decode cX10_readClause 18 = .ok (.invokevirtual 200, 3) by decide +kernel) rfl rfl rfl (by decide) (la_o hL (by decide) rfl) rfl rfl (Nat.le_of_ble_eq_true rfl) (by omega) cx4 (st' := []) rfl ?_
  replace hL := cx4.1
  refine tr_goto (tgt := 29) (show decode cX10_readClause 21 = .ok (.goto 8, 3) by decide +kernel) rfl ?_
  exact ok_X10_readClause_J29 hfr μ5 hL h
def f_X10_readClause (μ : hm_M) : Option hm_M :=
  hm_b2 (f_X10_takes0 (1 : Int32) μ) fun x2 μ3 =>
  (if x2 = 0 then
  hm_b2 (f_X10_takes0 (2 : Int32) μ3) fun x10 μ11 =>
  (if x10 = 0 then
  Option.bind (f_X10_must (3 : Int32) μ11) fun μ13 =>
  f_X10_readClause_J29 μ13
  else
  f_X10_readClause_J16 μ11)
  else
  f_X10_readClause_J16 μ3)
set_option maxRecDepth 100000 in
theorem ok_X10_readClause {fr : Nat} (hfr : 87 ≤ fr) {ν : hm_N} {μR : hm_M}    (μ : hm_M) (hL : hm_LL ν μ) (h : f_X10_readClause μ = some μR) : hm_CC (hm_LL ν) m_X10_readClause fr 0 0 [.ref 179] μ none μR := by
  refine hm_enter (lv := [some (.ref 179)]) (by decide) rfl (Nat.le_of_ble_eq_true rfl) ?_
  unfold f_X10_readClause at h
  refine tr_aload_n (pc' := 1) (show decode cX10_readClause 0 = .ok (.aload_n 0, 1) by decide +kernel) rfl rfl rfl ?_
  refine tr_iconst (pc' := 2) (v := (1 : Int32)) (show decode cX10_readClause 1 = .ok (.iconst 1, 1) by decide +kernel) rfl (by decide) ?_
  obtain ⟨x2, μ3, ex2, h⟩ := hm_b2s h
  have cx2 := ok_X10_takes0 (fr := fr - 1) (ν := ν) (by omega) (1 : Int32) μ hL ex2
  refine tp_callV (pc' := 5) (As := [.int (1 : Int32)]) (fr1 := fr - 1) (ci := 10) okm_X10_takes0 lk_HandRingModel_191 (show decode cX10_readClause 2 = .ok (.invokevirtual 191, 3) by decide +kernel) rfl rfl rfl (by decide) (la_o hL (by decide) rfl) rfl rfl (Nat.le_of_ble_eq_true rfl) (by omega) cx2 (st' := [.int x2]) rfl ?_
  replace hL := cx2.1
  rcases hm_is h with ⟨hc, h⟩ | ⟨hc, h⟩
  · refine tr_if_ne_f (tgt := 16) (pc' := 8) hc (show decode cX10_readClause 5 = .ok (.ifCond .ne 11, 3) by decide +kernel) (by decide) rfl ?_
    refine tr_aload_n (pc' := 9) (show decode cX10_readClause 8 = .ok (.aload_n 0, 1) by decide +kernel) rfl rfl rfl ?_
    refine tr_iconst (pc' := 10) (v := (2 : Int32)) (show decode cX10_readClause 9 = .ok (.iconst 2, 1) by decide +kernel) rfl (by decide) ?_
    obtain ⟨x10, μ11, ex10, h⟩ := hm_b2s h
    have cx10 := ok_X10_takes0 (fr := fr - 1) (ν := ν) (by omega) (2 : Int32) μ3 hL ex10
    refine tp_callV (pc' := 13) (As := [.int (2 : Int32)]) (fr1 := fr - 1) (ci := 10) okm_X10_takes0 lk_HandRingModel_191 (show decode cX10_readClause 10 = .ok (.invokevirtual 191, 3) by decide +kernel) rfl rfl rfl (by decide) (la_o hL (by decide) rfl) rfl rfl (Nat.le_of_ble_eq_true rfl) (by omega) cx10 (st' := [.int x10]) rfl ?_
    replace hL := cx10.1
    rcases hm_is h with ⟨hc, h⟩ | ⟨hc, h⟩
    · refine tr_if_eq_t (tgt := 24) hc (show decode cX10_readClause 13 = .ok (.ifCond .eq 11, 3) by decide +kernel) (by decide) ?_
      refine tr_aload_n (pc' := 25) (show decode cX10_readClause 24 = .ok (.aload_n 0, 1) by decide +kernel) rfl rfl rfl ?_
      refine tr_iconst (pc' := 26) (v := (3 : Int32)) (show decode cX10_readClause 25 = .ok (.iconst 3, 1) by decide +kernel) rfl (by decide) ?_
      obtain ⟨μ13, ex12, h⟩ := hm_bs h
      have cx12 := ok_X10_must (fr := fr - 1) (ν := ν) (by omega) (3 : Int32) μ11 hL ex12
      refine tp_callV (pc' := 29) (As := [.int (3 : Int32)]) (fr1 := fr - 1) (ci := 10) okm_X10_must lk_HandRingModel_204 (show decode cX10_readClause 26 = .ok (.invokevirtual 204, 3) by decide +kernel) rfl rfl rfl (by decide) (la_o hL (by decide) rfl) rfl rfl (Nat.le_of_ble_eq_true rfl) (by omega) cx12 (st' := []) rfl ?_
      replace hL := cx12.1
      exact ok_X10_readClause_J29 hfr μ13 hL h
    · refine tr_if_eq_f (tgt := 24) (pc' := 16) hc (show decode cX10_readClause 13 = .ok (.ifCond .eq 11, 3) by decide +kernel) (by decide) rfl ?_
      exact ok_X10_readClause_J16 hfr μ11 hL h
  · refine tr_if_ne_t (tgt := 16) hc (show decode cX10_readClause 5 = .ok (.ifCond .ne 11, 3) by decide +kernel) (by decide) ?_
    exact ok_X10_readClause_J16 hfr μ3 hL h
def f_X10_readTwo (v1 : Int32) (μ : hm_M) : Option hm_M :=
  Option.bind (F_X10_readSum (0 : Int32) μ) fun μ3 =>
  Option.bind (f_X10_must v1 μ3) fun μ5 =>
  Option.bind (F_X10_readSum (0 : Int32) μ5) fun μ7 =>
  some μ7
set_option maxRecDepth 100000 in
theorem ok_X10_readTwo {fr : Nat} (hfr : 45 ≤ fr) {ν : hm_N} {μR : hm_M}  (v1 : Int32)  (μ : hm_M) (hL : hm_LL ν μ) (h : f_X10_readTwo v1 μ = some μR) : hm_CC (hm_LL ν) m_X10_readTwo fr 0 0 [.ref 179, .int v1] μ none μR := by
  refine hm_enter (lv := [some (.ref 179), some (.int v1)]) (by decide) rfl (Nat.le_of_ble_eq_true rfl) ?_
  unfold f_X10_readTwo at h
  refine tr_aload_n (pc' := 1) (show decode cX10_readTwo 0 = .ok (.aload_n 0, 1) by decide +kernel) rfl rfl rfl ?_
  refine tr_iconst (pc' := 2) (v := (0 : Int32)) (show decode cX10_readTwo 1 = .ok (.iconst 0, 1) by decide +kernel) rfl (by decide) ?_
  obtain ⟨μ3, ex2, h⟩ := hm_bs h
  have cx2 := OK_X10_readSum (fr := fr - 1) (ν := ν) (by omega) (0 : Int32) μ hL ex2
  refine tp_callV (pc' := 5) (As := [.int (0 : Int32)]) (fr1 := fr - 1) (ci := 10) okm_X10_readSum lk_HandRingModel_200 (show decode cX10_readTwo 2 = .ok (.invokevirtual 200, 3) by decide +kernel) rfl rfl rfl (by decide) (la_o hL (by decide) rfl) rfl rfl (Nat.le_of_ble_eq_true rfl) (by omega) cx2 (st' := []) rfl ?_
  replace hL := cx2.1
  refine tr_aload_n (pc' := 6) (show decode cX10_readTwo 5 = .ok (.aload_n 0, 1) by decide +kernel) rfl rfl rfl ?_
  refine tr_iload_n (pc' := 7) (show decode cX10_readTwo 6 = .ok (.iload_n 1, 1) by decide +kernel) rfl rfl rfl ?_
  obtain ⟨μ5, ex4, h⟩ := hm_bs h
  have cx4 := ok_X10_must (fr := fr - 1) (ν := ν) (by omega) v1 μ3 hL ex4
  refine tp_callV (pc' := 10) (As := [.int v1]) (fr1 := fr - 1) (ci := 10) okm_X10_must lk_HandRingModel_204 (show decode cX10_readTwo 7 = .ok (.invokevirtual 204, 3) by decide +kernel) rfl rfl rfl (by decide) (la_o hL (by decide) rfl) rfl rfl (Nat.le_of_ble_eq_true rfl) (by omega) cx4 (st' := []) rfl ?_
  replace hL := cx4.1
  refine tr_aload_n (pc' := 11) (show decode cX10_readTwo 10 = .ok (.aload_n 0, 1) by decide +kernel) rfl rfl rfl ?_
  refine tr_iconst (pc' := 12) (v := (0 : Int32)) (show decode cX10_readTwo 11 = .ok (.iconst 0, 1) by decide +kernel) rfl (by decide) ?_
  obtain ⟨μ7, ex6, h⟩ := hm_bs h
  have cx6 := OK_X10_readSum (fr := fr - 1) (ν := ν) (by omega) (0 : Int32) μ5 hL ex6
  refine tp_callV (pc' := 15) (As := [.int (0 : Int32)]) (fr1 := fr - 1) (ci := 10) okm_X10_readSum lk_HandRingModel_200 (show decode cX10_readTwo 12 = .ok (.invokevirtual 200, 3) by decide +kernel) rfl rfl rfl (by decide) (la_o hL (by decide) rfl) rfl rfl (Nat.le_of_ble_eq_true rfl) (by omega) cx6 (st' := []) rfl ?_
  replace hL := cx6.1
  cases h
  exact tr_vret rfl (show decode cX10_readTwo 15 = .ok (.return_, 1) by decide +kernel) hL
def f_X10_readOrder_J76 (μ1 : hm_M) : Option hm_M :=
  hm_b2 (f_X10_takes0 (4 : Int32) μ1) fun x12 μ13 =>
  (if x12 = 0 then
  some μ13
  else
  Option.bind (F_X10_readTest (0 : Int32) μ13) fun μ15 =>
  some μ15)
theorem ok_X10_readOrder_J76 {fr : Nat} (hfr : 87 ≤ fr) {ν : hm_N} {μR : hm_M}       (μ1 : hm_M) (hL : hm_LL ν μ1) (h : f_X10_readOrder_J76 μ1 = some μR) : hm_T (hm_LL ν) m_X10_readOrder fr 0 0 none μR 76 [some (.ref 179)] [] μ1 := by
  unfold f_X10_readOrder_J76 at h
  refine tr_aload_n (pc' := 77) (show decode cX10_readOrder 76 = .ok (.aload_n 0, 1) by decide +kernel) rfl rfl rfl ?_
  refine tr_iconst (pc' := 78) (v := (4 : Int32)) (show decode cX10_readOrder 77 = .ok (.iconst 4, 1) by decide +kernel) rfl (by decide) ?_
  obtain ⟨x12, μ13, ex12, h⟩ := hm_b2s h
  have cx12 := ok_X10_takes0 (fr := fr - 1) (ν := ν) (by omega) (4 : Int32) μ1 hL ex12
  refine tp_callV (pc' := 81) (As := [.int (4 : Int32)]) (fr1 := fr - 1) (ci := 10) okm_X10_takes0 lk_HandRingModel_191 (show decode cX10_readOrder 78 = .ok (.invokevirtual 191, 3) by decide +kernel) rfl rfl rfl (by decide) (la_o hL (by decide) rfl) rfl rfl (Nat.le_of_ble_eq_true rfl) (by omega) cx12 (st' := [.int x12]) rfl ?_
  replace hL := cx12.1
  rcases hm_is h with ⟨hc, h⟩ | ⟨hc, h⟩
  · refine tr_if_eq_t (tgt := 89) hc (show decode cX10_readOrder 81 = .ok (.ifCond .eq 8, 3) by decide +kernel) (by decide) ?_
    cases h
    exact tr_vret rfl (show decode cX10_readOrder 89 = .ok (.return_, 1) by decide +kernel) hL
  · refine tr_if_eq_f (tgt := 89) (pc' := 84) hc (show decode cX10_readOrder 81 = .ok (.ifCond .eq 8, 3) by decide +kernel) (by decide) rfl ?_
    refine tr_aload_n (pc' := 85) (show decode cX10_readOrder 84 = .ok (.aload_n 0, 1) by decide +kernel) rfl rfl rfl ?_
    refine tr_iconst (pc' := 86) (v := (0 : Int32)) (show decode cX10_readOrder 85 = .ok (.iconst 0, 1) by decide +kernel) rfl (by decide) ?_
    obtain ⟨μ15, ex14, h⟩ := hm_bs h
    have cx14 := OK_X10_readTest (fr := fr - 1) (ν := ν) (by omega) (0 : Int32) μ13 hL ex14
    refine tp_callV (pc' := 89) (As := [.int (0 : Int32)]) (fr1 := fr - 1) (ci := 10) okm_X10_readTest lk_HandRingModel_207 (show decode cX10_readOrder 86 = .ok (.invokevirtual 207, 3) by decide +kernel) rfl rfl rfl (by decide) (la_o hL (by decide) rfl) rfl rfl (Nat.le_of_ble_eq_true rfl) (by omega) cx14 (st' := []) rfl ?_
    replace hL := cx14.1
    cases h
    exact tr_vret rfl (show decode cX10_readOrder 89 = .ok (.return_, 1) by decide +kernel) hL
def f_X10_readOrder_J60 (μ1 : hm_M) : Option hm_M :=
  hm_b2 (f_X10_takes0 (29 : Int32) μ1) fun x10 μ11 =>
  (if x10 = 0 then
  f_X10_readOrder_J76 μ11
  else
  Option.bind (f_X10_mustNumber (1 : Int32) (20 : Int32) μ11) fun μ17 =>
  f_X10_readOrder_J76 μ17)
theorem ok_X10_readOrder_J60 {fr : Nat} (hfr : 87 ≤ fr) {ν : hm_N} {μR : hm_M}       (μ1 : hm_M) (hL : hm_LL ν μ1) (h : f_X10_readOrder_J60 μ1 = some μR) : hm_T (hm_LL ν) m_X10_readOrder fr 0 0 none μR 60 [some (.ref 179)] [] μ1 := by
  unfold f_X10_readOrder_J60 at h
  refine tr_aload_n (pc' := 61) (show decode cX10_readOrder 60 = .ok (.aload_n 0, 1) by decide +kernel) rfl rfl rfl ?_
  refine tr_bipush (pc' := 63) (v := (29 : Int32)) (show decode cX10_readOrder 61 = .ok (.bipush 29, 2) by decide +kernel) rfl (by decide) ?_
  obtain ⟨x10, μ11, ex10, h⟩ := hm_b2s h
  have cx10 := ok_X10_takes0 (fr := fr - 1) (ν := ν) (by omega) (29 : Int32) μ1 hL ex10
  refine tp_callV (pc' := 66) (As := [.int (29 : Int32)]) (fr1 := fr - 1) (ci := 10) okm_X10_takes0 lk_HandRingModel_191 (show decode cX10_readOrder 63 = .ok (.invokevirtual 191, 3) by decide +kernel) rfl rfl rfl (by decide) (la_o hL (by decide) rfl) rfl rfl (Nat.le_of_ble_eq_true rfl) (by omega) cx10 (st' := [.int x10]) rfl ?_
  replace hL := cx10.1
  rcases hm_is h with ⟨hc, h⟩ | ⟨hc, h⟩
  · refine tr_if_eq_t (tgt := 76) hc (show decode cX10_readOrder 66 = .ok (.ifCond .eq 10, 3) by decide +kernel) (by decide) ?_
    exact ok_X10_readOrder_J76 hfr μ11 hL h
  · refine tr_if_eq_f (tgt := 76) (pc' := 69) hc (show decode cX10_readOrder 66 = .ok (.ifCond .eq 10, 3) by decide +kernel) (by decide) rfl ?_
    refine tr_aload_n (pc' := 70) (show decode cX10_readOrder 69 = .ok (.aload_n 0, 1) by decide +kernel) rfl rfl rfl ?_
    refine tr_iconst (pc' := 71) (v := (1 : Int32)) (show decode cX10_readOrder 70 = .ok (.iconst 1, 1) by decide +kernel) rfl (by decide) ?_
    refine tr_bipush (pc' := 73) (v := (20 : Int32)) (show decode cX10_readOrder 71 = .ok (.bipush 20, 2) by decide +kernel) rfl (by decide) ?_
    obtain ⟨μ17, ex16, h⟩ := hm_bs h
    have cx16 := ok_X10_mustNumber (fr := fr - 1) (ν := ν) (by omega) (1 : Int32) (20 : Int32) μ11 hL ex16
    refine tp_callV (pc' := 76) (As := [.int (1 : Int32), .int (20 : Int32)]) (fr1 := fr - 1) (ci := 10) okm_X10_mustNumber lk_HandRingModel_213 (show decode cX10_readOrder 73 = .ok (.invokevirtual 213, 3) by decide +kernel) rfl rfl rfl (by decide) (la_o hL (by decide) rfl) rfl rfl (Nat.le_of_ble_eq_true rfl) (by omega) cx16 (st' := []) rfl ?_
    replace hL := cx16.1
    exact ok_X10_readOrder_J76 hfr μ17 hL h
def f_X10_readOrder (μ : hm_M) : Option hm_M :=
  hm_b2 (f_X10_takes0 (22 : Int32) μ) fun x2 μ3 =>
  (if x2 = 0 then
  hm_b2 (f_X10_takes0 (24 : Int32) μ3) fun x4 μ5 =>
  (if x4 = 0 then
  hm_b2 (f_X10_takes0 (26 : Int32) μ5) fun x6 μ7 =>
  (if x6 = 0 then
  Option.bind (f_X10_must (28 : Int32) μ7) fun μ9 =>
  f_X10_readOrder_J60 μ9
  else
  Option.bind (f_X10_readTwo (27 : Int32) μ7) fun μ19 =>
  f_X10_readOrder_J60 μ19)
  else
  Option.bind (f_X10_readTwo (25 : Int32) μ5) fun μ21 =>
  f_X10_readOrder_J60 μ21)
  else
  Option.bind (f_X10_readTwo (23 : Int32) μ3) fun μ23 =>
  f_X10_readOrder_J60 μ23)
set_option maxRecDepth 100000 in
theorem ok_X10_readOrder {fr : Nat} (hfr : 87 ≤ fr) {ν : hm_N} {μR : hm_M}    (μ : hm_M) (hL : hm_LL ν μ) (h : f_X10_readOrder μ = some μR) : hm_CC (hm_LL ν) m_X10_readOrder fr 0 0 [.ref 179] μ none μR := by
  refine hm_enter (lv := [some (.ref 179)]) (by decide) rfl (Nat.le_of_ble_eq_true rfl) ?_
  unfold f_X10_readOrder at h
  refine tr_aload_n (pc' := 1) (show decode cX10_readOrder 0 = .ok (.aload_n 0, 1) by decide +kernel) rfl rfl rfl ?_
  refine tr_bipush (pc' := 3) (v := (22 : Int32)) (show decode cX10_readOrder 1 = .ok (.bipush 22, 2) by decide +kernel) rfl (by decide) ?_
  obtain ⟨x2, μ3, ex2, h⟩ := hm_b2s h
  have cx2 := ok_X10_takes0 (fr := fr - 1) (ν := ν) (by omega) (22 : Int32) μ hL ex2
  refine tp_callV (pc' := 6) (As := [.int (22 : Int32)]) (fr1 := fr - 1) (ci := 10) okm_X10_takes0 lk_HandRingModel_191 (show decode cX10_readOrder 3 = .ok (.invokevirtual 191, 3) by decide +kernel) rfl rfl rfl (by decide) (la_o hL (by decide) rfl) rfl rfl (Nat.le_of_ble_eq_true rfl) (by omega) cx2 (st' := [.int x2]) rfl ?_
  replace hL := cx2.1
  rcases hm_is h with ⟨hc, h⟩ | ⟨hc, h⟩
  · refine tr_if_eq_t (tgt := 18) hc (show decode cX10_readOrder 6 = .ok (.ifCond .eq 12, 3) by decide +kernel) (by decide) ?_
    refine tr_aload_n (pc' := 19) (show decode cX10_readOrder 18 = .ok (.aload_n 0, 1) by decide +kernel) rfl rfl rfl ?_
    refine tr_bipush (pc' := 21) (v := (24 : Int32)) (show decode cX10_readOrder 19 = .ok (.bipush 24, 2) by decide +kernel) rfl (by decide) ?_
    obtain ⟨x4, μ5, ex4, h⟩ := hm_b2s h
    have cx4 := ok_X10_takes0 (fr := fr - 1) (ν := ν) (by omega) (24 : Int32) μ3 hL ex4
    refine tp_callV (pc' := 24) (As := [.int (24 : Int32)]) (fr1 := fr - 1) (ci := 10) okm_X10_takes0 lk_HandRingModel_191 (show decode cX10_readOrder 21 = .ok (.invokevirtual 191, 3) by decide +kernel) rfl rfl rfl (by decide) (la_o hL (by decide) rfl) rfl rfl (Nat.le_of_ble_eq_true rfl) (by omega) cx4 (st' := [.int x4]) rfl ?_
    replace hL := cx4.1
    rcases hm_is h with ⟨hc, h⟩ | ⟨hc, h⟩
    · refine tr_if_eq_t (tgt := 36) hc (show decode cX10_readOrder 24 = .ok (.ifCond .eq 12, 3) by decide +kernel) (by decide) ?_
      refine tr_aload_n (pc' := 37) (show decode cX10_readOrder 36 = .ok (.aload_n 0, 1) by decide +kernel) rfl rfl rfl ?_
      refine tr_bipush (pc' := 39) (v := (26 : Int32)) (show decode cX10_readOrder 37 = .ok (.bipush 26, 2) by decide +kernel) rfl (by decide) ?_
      obtain ⟨x6, μ7, ex6, h⟩ := hm_b2s h
      have cx6 := ok_X10_takes0 (fr := fr - 1) (ν := ν) (by omega) (26 : Int32) μ5 hL ex6
      refine tp_callV (pc' := 42) (As := [.int (26 : Int32)]) (fr1 := fr - 1) (ci := 10) okm_X10_takes0 lk_HandRingModel_191 (show decode cX10_readOrder 39 = .ok (.invokevirtual 191, 3) by decide +kernel) rfl rfl rfl (by decide) (la_o hL (by decide) rfl) rfl rfl (Nat.le_of_ble_eq_true rfl) (by omega) cx6 (st' := [.int x6]) rfl ?_
      replace hL := cx6.1
      rcases hm_is h with ⟨hc, h⟩ | ⟨hc, h⟩
      · refine tr_if_eq_t (tgt := 54) hc (show decode cX10_readOrder 42 = .ok (.ifCond .eq 12, 3) by decide +kernel) (by decide) ?_
        refine tr_aload_n (pc' := 55) (show decode cX10_readOrder 54 = .ok (.aload_n 0, 1) by decide +kernel) rfl rfl rfl ?_
        refine tr_bipush (pc' := 57) (v := (28 : Int32)) (show decode cX10_readOrder 55 = .ok (.bipush 28, 2) by decide +kernel) rfl (by decide) ?_
        obtain ⟨μ9, ex8, h⟩ := hm_bs h
        have cx8 := ok_X10_must (fr := fr - 1) (ν := ν) (by omega) (28 : Int32) μ7 hL ex8
        refine tp_callV (pc' := 60) (As := [.int (28 : Int32)]) (fr1 := fr - 1) (ci := 10) okm_X10_must lk_HandRingModel_204 (show decode cX10_readOrder 57 = .ok (.invokevirtual 204, 3) by decide +kernel) rfl rfl rfl (by decide) (la_o hL (by decide) rfl) rfl rfl (Nat.le_of_ble_eq_true rfl) (by omega) cx8 (st' := []) rfl ?_
        replace hL := cx8.1
        exact ok_X10_readOrder_J60 hfr μ9 hL h
      · refine tr_if_eq_f (tgt := 54) (pc' := 45) hc (show decode cX10_readOrder 42 = .ok (.ifCond .eq 12, 3) by decide +kernel) (by decide) rfl ?_
        refine tr_aload_n (pc' := 46) (show decode cX10_readOrder 45 = .ok (.aload_n 0, 1) by decide +kernel) rfl rfl rfl ?_
        refine tr_bipush (pc' := 48) (v := (27 : Int32)) (show decode cX10_readOrder 46 = .ok (.bipush 27, 2) by decide +kernel) rfl (by decide) ?_
        obtain ⟨μ19, ex18, h⟩ := hm_bs h
        have cx18 := ok_X10_readTwo (fr := fr - 1) (ν := ν) (by omega) (27 : Int32) μ7 hL ex18
        refine tp_callV (pc' := 51) (As := [.int (27 : Int32)]) (fr1 := fr - 1) (ci := 10) okm_X10_readTwo lk_HandRingModel_210 (show decode cX10_readOrder 48 = .ok (.invokevirtual 210, 3) by decide +kernel) rfl rfl rfl (by decide) (la_o hL (by decide) rfl) rfl rfl (Nat.le_of_ble_eq_true rfl) (by omega) cx18 (st' := []) rfl ?_
        replace hL := cx18.1
        refine tr_goto (tgt := 60) (show decode cX10_readOrder 51 = .ok (.goto 9, 3) by decide +kernel) rfl ?_
        exact ok_X10_readOrder_J60 hfr μ19 hL h
    · refine tr_if_eq_f (tgt := 36) (pc' := 27) hc (show decode cX10_readOrder 24 = .ok (.ifCond .eq 12, 3) by decide +kernel) (by decide) rfl ?_
      refine tr_aload_n (pc' := 28) (show decode cX10_readOrder 27 = .ok (.aload_n 0, 1) by decide +kernel) rfl rfl rfl ?_
      refine tr_bipush (pc' := 30) (v := (25 : Int32)) (show decode cX10_readOrder 28 = .ok (.bipush 25, 2) by decide +kernel) rfl (by decide) ?_
      obtain ⟨μ21, ex20, h⟩ := hm_bs h
      have cx20 := ok_X10_readTwo (fr := fr - 1) (ν := ν) (by omega) (25 : Int32) μ5 hL ex20
      refine tp_callV (pc' := 33) (As := [.int (25 : Int32)]) (fr1 := fr - 1) (ci := 10) okm_X10_readTwo lk_HandRingModel_210 (show decode cX10_readOrder 30 = .ok (.invokevirtual 210, 3) by decide +kernel) rfl rfl rfl (by decide) (la_o hL (by decide) rfl) rfl rfl (Nat.le_of_ble_eq_true rfl) (by omega) cx20 (st' := []) rfl ?_
      replace hL := cx20.1
      refine tr_goto (tgt := 60) (show decode cX10_readOrder 33 = .ok (.goto 27, 3) by decide +kernel) rfl ?_
      exact ok_X10_readOrder_J60 hfr μ21 hL h
  · refine tr_if_eq_f (tgt := 18) (pc' := 9) hc (show decode cX10_readOrder 6 = .ok (.ifCond .eq 12, 3) by decide +kernel) (by decide) rfl ?_
    refine tr_aload_n (pc' := 10) (show decode cX10_readOrder 9 = .ok (.aload_n 0, 1) by decide +kernel) rfl rfl rfl ?_
    refine tr_bipush (pc' := 12) (v := (23 : Int32)) (show decode cX10_readOrder 10 = .ok (.bipush 23, 2) by decide +kernel) rfl (by decide) ?_
    obtain ⟨μ23, ex22, h⟩ := hm_bs h
    have cx22 := ok_X10_readTwo (fr := fr - 1) (ν := ν) (by omega) (23 : Int32) μ3 hL ex22
    refine tp_callV (pc' := 15) (As := [.int (23 : Int32)]) (fr1 := fr - 1) (ci := 10) okm_X10_readTwo lk_HandRingModel_210 (show decode cX10_readOrder 12 = .ok (.invokevirtual 210, 3) by decide +kernel) rfl rfl rfl (by decide) (la_o hL (by decide) rfl) rfl rfl (Nat.le_of_ble_eq_true rfl) (by omega) cx22 (st' := []) rfl ?_
    replace hL := cx22.1
    refine tr_goto (tgt := 60) (show decode cX10_readOrder 15 = .ok (.goto 45, 3) by decide +kernel) rfl ?_
    exact ok_X10_readOrder_J60 hfr μ23 hL h
def f_X10_readOne (μ : hm_M) : Option hm_M :=
  (if (μ.1 179 10) = 0 then
  Option.bind (f_X10_readClause μ) fun μ3 =>
  some μ3
  else
  Option.bind (f_X10_readOrder μ) fun μ5 =>
  some μ5)
set_option maxRecDepth 100000 in
theorem ok_X10_readOne {fr : Nat} (hfr : 88 ≤ fr) {ν : hm_N} {μR : hm_M}    (μ : hm_M) (hL : hm_LL ν μ) (h : f_X10_readOne μ = some μR) : hm_CC (hm_LL ν) m_X10_readOne fr 0 0 [.ref 179] μ none μR := by
  refine hm_enter (lv := [some (.ref 179)]) (by decide) rfl (Nat.le_of_ble_eq_true rfl) ?_
  unfold f_X10_readOne at h
  refine tr_aload_n (pc' := 1) (show decode cX10_readOne 0 = .ok (.aload_n 0, 1) by decide +kernel) rfl rfl rfl ?_
  refine tr_getI (pc' := 4) fl_HandRingModel_217 (show decode cX10_readOne 1 = .ok (.getfield 217, 3) by decide +kernel) rfl (la_o hL (by decide) rfl) ?_
  rcases hm_is h with ⟨hc, h⟩ | ⟨hc, h⟩
  · refine tr_if_eq_t (tgt := 14) hc (show decode cX10_readOne 4 = .ok (.ifCond .eq 10, 3) by decide +kernel) (by decide) ?_
    refine tr_aload_n (pc' := 15) (show decode cX10_readOne 14 = .ok (.aload_n 0, 1) by decide +kernel) rfl rfl rfl ?_
    obtain ⟨μ3, ex2, h⟩ := hm_bs h
    have cx2 := ok_X10_readClause (fr := fr - 1) (ν := ν) (by omega) μ hL ex2
    refine tp_callV (pc' := 18) (As := []) (fr1 := fr - 1) (ci := 10) okm_X10_readClause lk_HandRingModel_224 (show decode cX10_readOne 15 = .ok (.invokevirtual 224, 3) by decide +kernel) rfl rfl rfl (by decide) (la_o hL (by decide) rfl) rfl rfl (Nat.le_of_ble_eq_true rfl) (by omega) cx2 (st' := []) rfl ?_
    replace hL := cx2.1
    cases h
    exact tr_vret rfl (show decode cX10_readOne 18 = .ok (.return_, 1) by decide +kernel) hL
  · refine tr_if_eq_f (tgt := 14) (pc' := 7) hc (show decode cX10_readOne 4 = .ok (.ifCond .eq 10, 3) by decide +kernel) (by decide) rfl ?_
    refine tr_aload_n (pc' := 8) (show decode cX10_readOne 7 = .ok (.aload_n 0, 1) by decide +kernel) rfl rfl rfl ?_
    obtain ⟨μ5, ex4, h⟩ := hm_bs h
    have cx4 := ok_X10_readOrder (fr := fr - 1) (ν := ν) (by omega) μ hL ex4
    refine tp_callV (pc' := 11) (As := []) (fr1 := fr - 1) (ci := 10) okm_X10_readOrder lk_HandRingModel_221 (show decode cX10_readOne 8 = .ok (.invokevirtual 221, 3) by decide +kernel) rfl rfl rfl (by decide) (la_o hL (by decide) rfl) rfl rfl (Nat.le_of_ble_eq_true rfl) (by omega) cx4 (st' := []) rfl ?_
    replace hL := cx4.1
    refine tr_goto (tgt := 18) (show decode cX10_readOne 11 = .ok (.goto 7, 3) by decide +kernel) rfl ?_
    cases h
    exact tr_vret rfl (show decode cX10_readOne 18 = .ok (.return_, 1) by decide +kernel) hL
def f_X10_reads_J67 (c34 : Int32 → hm_M → Option (Int32 × hm_M)) (e73 : hm_M → Option (Int32 × hm_M)) (y1 : Int32) (μ1 : hm_M) : Option (Int32 × hm_M) :=
  c34 (y1 + (1 : Int32)) μ1
theorem ok_X10_reads_J67 {fr : Nat} (hfr : 89 ≤ fr) {ν : hm_N} {r : Int32} {μR : hm_M}   (c34 : Int32 → hm_M → Option (Int32 × hm_M)) (e73 : hm_M → Option (Int32 × hm_M)) (hc34 : ∀ (y1 : Int32)  (μ1 : hm_M), hm_LL ν μ1 → c34 y1 μ1 = some (r, μR) → hm_T (hm_LL ν) m_X10_reads fr 0 0 (some (.int r)) μR 34 [some (.ref 179), some (.int y1)] [] μ1) (he73 : ∀   (μ1 : hm_M), hm_LL ν μ1 → e73 μ1 = some (r, μR) → hm_T (hm_LL ν) m_X10_reads fr 0 0 (some (.int r)) μR 73 [some (.ref 179), none] [] μ1)  (y1 : Int32) (μ1 : hm_M) (hL : hm_LL ν μ1) (h : f_X10_reads_J67 c34 e73 y1 μ1 = some (r, μR)) : hm_T (hm_LL ν) m_X10_reads fr 0 0 (some (.int r)) μR 67 [some (.ref 179), some (.int y1)] [] μ1 := by
  unfold f_X10_reads_J67 at h
  refine tr_iinc (pc' := 70) (v := y1 + (1 : Int32)) (lv' := [some (.ref 179), some (.int (y1 + (1 : Int32)))]) (show decode cX10_reads 67 = .ok (.iinc 1 1, 3) by decide +kernel) rfl rfl rfl (Nat.le_of_ble_eq_true rfl) rfl rfl ?_
  refine tr_goto (tgt := 34) (show decode cX10_reads 70 = .ok (.goto (-36), 3) by decide +kernel) rfl ?_
  exact hc34 (y1 + (1 : Int32)) μ1 hL h
def f_X10_reads_J56 (c34 : Int32 → hm_M → Option (Int32 × hm_M)) (e73 : hm_M → Option (Int32 × hm_M)) (y1 : Int32) (μ1 : hm_M) : Option (Int32 × hm_M) :=
  Option.bind (f_X10_fine μ1) fun x13 =>
  (if x13 = 0 then
  f_X10_reads_J67 c34 e73 y1 μ1
  else
  Option.bind (f_X10_readOne μ1) fun μ15 =>
  f_X10_reads_J67 c34 e73 y1 μ15)
theorem ok_X10_reads_J56 {fr : Nat} (hfr : 89 ≤ fr) {ν : hm_N} {r : Int32} {μR : hm_M}   (c34 : Int32 → hm_M → Option (Int32 × hm_M)) (e73 : hm_M → Option (Int32 × hm_M)) (hc34 : ∀ (y1 : Int32)  (μ1 : hm_M), hm_LL ν μ1 → c34 y1 μ1 = some (r, μR) → hm_T (hm_LL ν) m_X10_reads fr 0 0 (some (.int r)) μR 34 [some (.ref 179), some (.int y1)] [] μ1) (he73 : ∀   (μ1 : hm_M), hm_LL ν μ1 → e73 μ1 = some (r, μR) → hm_T (hm_LL ν) m_X10_reads fr 0 0 (some (.int r)) μR 73 [some (.ref 179), none] [] μ1)  (y1 : Int32) (μ1 : hm_M) (hL : hm_LL ν μ1) (h : f_X10_reads_J56 c34 e73 y1 μ1 = some (r, μR)) : hm_T (hm_LL ν) m_X10_reads fr 0 0 (some (.int r)) μR 56 [some (.ref 179), some (.int y1)] [] μ1 := by
  unfold f_X10_reads_J56 at h
  refine tr_aload_n (pc' := 57) (show decode cX10_reads 56 = .ok (.aload_n 0, 1) by decide +kernel) rfl rfl rfl ?_
  obtain ⟨x13, ex13, h⟩ := hm_bs h
  have cx13 := ok_X10_fine (fr := fr - 1) (ν := ν) (by omega) μ1 hL ex13
  refine tp_callV (pc' := 60) (As := []) (fr1 := fr - 1) (ci := 10) okm_X10_fine lk_HandRingModel_184 (show decode cX10_reads 57 = .ok (.invokevirtual 184, 3) by decide +kernel) rfl rfl rfl (by decide) (la_o hL (by decide) rfl) rfl rfl (Nat.le_of_ble_eq_true rfl) (by omega) cx13 (st' := [.int x13]) rfl ?_
  rcases hm_is h with ⟨hc, h⟩ | ⟨hc, h⟩
  · refine tr_if_eq_t (tgt := 67) hc (show decode cX10_reads 60 = .ok (.ifCond .eq 7, 3) by decide +kernel) (by decide) ?_
    exact ok_X10_reads_J67 hfr c34 e73 hc34 he73 y1 μ1 hL h
  · refine tr_if_eq_f (tgt := 67) (pc' := 63) hc (show decode cX10_reads 60 = .ok (.ifCond .eq 7, 3) by decide +kernel) (by decide) rfl ?_
    refine tr_aload_n (pc' := 64) (show decode cX10_reads 63 = .ok (.aload_n 0, 1) by decide +kernel) rfl rfl rfl ?_
    obtain ⟨μ15, ex14, h⟩ := hm_bs h
    have cx14 := ok_X10_readOne (fr := fr - 1) (ν := ν) (by omega) μ1 hL ex14
    refine tp_callV (pc' := 67) (As := []) (fr1 := fr - 1) (ci := 10) okm_X10_readOne lk_HandRingModel_255 (show decode cX10_reads 64 = .ok (.invokevirtual 255, 3) by decide +kernel) rfl rfl rfl (by decide) (la_o hL (by decide) rfl) rfl rfl (Nat.le_of_ble_eq_true rfl) (by omega) cx14 (st' := []) rfl ?_
    replace hL := cx14.1
    exact ok_X10_reads_J67 hfr c34 e73 hc34 he73 y1 μ15 hL h
def f_X10_reads_L34 (e73 : hm_M → Option (Int32 × hm_M)) : Nat → Int32 → hm_M → Option (Int32 × hm_M)
  | 0, _, _ => none
  | n + 1, y1, μ1 => Option.bind (f_X10_sign (59 : Int32)) fun x10 =>
  hm_b2 (f_X10_takes0 x10 μ1) fun x11 μ12 =>
  (if x11 = 0 then
  e73 μ12
  else
  (if y1 = (12 : Int32) then
  Option.bind (f_X10_faults μ12) fun μ17 =>
  f_X10_reads_J56 (f_X10_reads_L34 e73 n) e73 y1 μ17
  else
  f_X10_reads_J56 (f_X10_reads_L34 e73 n) e73 y1 μ12))
theorem ok_X10_reads_L34 {fr : Nat} (hfr : 89 ≤ fr) {ν : hm_N} {r : Int32} {μR : hm_M}   (e73 : hm_M → Option (Int32 × hm_M))  (he73 : ∀   (μ1 : hm_M), hm_LL ν μ1 → e73 μ1 = some (r, μR) → hm_T (hm_LL ν) m_X10_reads fr 0 0 (some (.int r)) μR 73 [some (.ref 179), none] [] μ1)  : ∀ (n : Nat) (y1 : Int32)  (μ1 : hm_M), hm_LL ν μ1 → f_X10_reads_L34 e73 n y1 μ1 = some (r, μR) → hm_T (hm_LL ν) m_X10_reads fr 0 0 (some (.int r)) μR 34 [some (.ref 179), some (.int y1)] [] μ1 := by
  intro n
  induction n with
  | zero =>
    intro y1 μ1 hL h
    unfold f_X10_reads_L34 at h
    cases h
  | succ n ih =>
    intro y1 μ1 hL h
    unfold f_X10_reads_L34 at h
    refine tr_aload_n (pc' := 35) (show decode cX10_reads 34 = .ok (.aload_n 0, 1) by decide +kernel) rfl rfl rfl ?_
    refine tr_bipush (pc' := 37) (v := (59 : Int32)) (show decode cX10_reads 35 = .ok (.bipush 59, 2) by decide +kernel) rfl (by decide) ?_
    obtain ⟨x10, ex10, h⟩ := hm_bs h
    have cx10 := ok_X10_sign (fr := fr - 1) (ν := ν) (by omega) (59 : Int32) μ1 hL ex10
    refine tp_callS (pc' := 40) (As := [.int (59 : Int32)]) (fr1 := fr - 1) okm_X10_sign lk_HandRingModel_233 (show decode cX10_reads 37 = .ok (.invokestatic 233, 3) by decide +kernel) rfl rfl rfl (Nat.le_of_ble_eq_true rfl) (by omega) cx10 (st' := [.int x10, .ref 179]) rfl ?_
    obtain ⟨x11, μ12, ex11, h⟩ := hm_b2s h
    have cx11 := ok_X10_takes0 (fr := fr - 1) (ν := ν) (by omega) x10 μ1 hL ex11
    refine tp_callV (pc' := 43) (As := [.int x10]) (fr1 := fr - 1) (ci := 10) okm_X10_takes0 lk_HandRingModel_191 (show decode cX10_reads 40 = .ok (.invokevirtual 191, 3) by decide +kernel) rfl rfl rfl (by decide) (la_o hL (by decide) rfl) rfl rfl (Nat.le_of_ble_eq_true rfl) (by omega) cx11 (st' := [.int x11]) rfl ?_
    replace hL := cx11.1
    rcases hm_is h with ⟨hc, h⟩ | ⟨hc, h⟩
    · refine tr_if_eq_t (tgt := 73) hc (show decode cX10_reads 43 = .ok (.ifCond .eq 30, 3) by decide +kernel) (by decide) ?_
      refine hm_fgt [true, false] (lv' := [some (.ref 179), none]) rfl ?_
      exact he73 μ12 hL h
    · refine tr_if_eq_f (tgt := 73) (pc' := 46) hc (show decode cX10_reads 43 = .ok (.ifCond .eq 30, 3) by decide +kernel) (by decide) rfl ?_
      refine tr_iload_n (pc' := 47) (show decode cX10_reads 46 = .ok (.iload_n 1, 1) by decide +kernel) rfl rfl rfl ?_
      refine tr_bipush (pc' := 49) (v := (12 : Int32)) (show decode cX10_reads 47 = .ok (.bipush 12, 2) by decide +kernel) rfl (by decide) ?_
      rcases hm_is h with ⟨hc, h⟩ | ⟨hc, h⟩
      · refine tr_icmp_ne_f (tgt := 56) (pc' := 52) hc (show decode cX10_reads 49 = .ok (.if_icmp .ne 7, 3) by decide +kernel) (by decide) rfl ?_
        refine tr_aload_n (pc' := 53) (show decode cX10_reads 52 = .ok (.aload_n 0, 1) by decide +kernel) rfl rfl rfl ?_
        obtain ⟨μ17, ex16, h⟩ := hm_bs h
        have cx16 := ok_X10_faults (fr := fr - 1) (ν := ν) (by omega) μ12 hL ex16
        refine tp_callV (pc' := 56) (As := []) (fr1 := fr - 1) (ci := 10) okm_X10_faults lk_HandRingModel_194 (show decode cX10_reads 53 = .ok (.invokevirtual 194, 3) by decide +kernel) rfl rfl rfl (by decide) (la_o hL (by decide) rfl) rfl rfl (Nat.le_of_ble_eq_true rfl) (by omega) cx16 (st' := []) rfl ?_
        replace hL := cx16.1
        exact ok_X10_reads_J56 hfr (f_X10_reads_L34 e73 n) e73 ih he73 y1 μ17 hL h
      · refine tr_icmp_ne_t (tgt := 56) hc (show decode cX10_reads 49 = .ok (.if_icmp .ne 7, 3) by decide +kernel) (by decide) ?_
        exact ok_X10_reads_J56 hfr (f_X10_reads_L34 e73 n) e73 ih he73 y1 μ12 hL h
def f_X10_reads_J95 (μ1 : hm_M) : Option (Int32 × hm_M) :=
  Option.bind (hm_pI μ1 179 14 (μ1.1 179 21)) fun μ20 =>
  Option.bind (f_X10_fine μ20) fun x21 =>
  Option.bind (hm_rz x21) fun x22 => some (x22, μ20)
theorem ok_X10_reads_J95 {fr : Nat} (hfr : 89 ≤ fr) {ν : hm_N} {r : Int32} {μR : hm_M}       (μ1 : hm_M) (hL : hm_LL ν μ1) (h : f_X10_reads_J95 μ1 = some (r, μR)) : hm_T (hm_LL ν) m_X10_reads fr 0 0 (some (.int r)) μR 95 [some (.ref 179), none] [] μ1 := by
  unfold f_X10_reads_J95 at h
  refine tr_aload_n (pc' := 96) (show decode cX10_reads 95 = .ok (.aload_n 0, 1) by decide +kernel) rfl rfl rfl ?_
  refine tr_aload_n (pc' := 97) (show decode cX10_reads 96 = .ok (.aload_n 0, 1) by decide +kernel) rfl rfl rfl ?_
  refine tr_getI (pc' := 100) fl_HandRingModel_181 (show decode cX10_reads 97 = .ok (.getfield 181, 3) by decide +kernel) rfl (la_o hL (by decide) rfl) ?_
  obtain ⟨μ20, eμ20, h⟩ := hm_bs h
  refine tp_pI (pc' := 103) fl_HandRingModel_47 (show decode cX10_reads 100 = .ok (.putfield 47, 3) by decide +kernel) rfl (la_o hL (by decide) rfl) eμ20 ?_
  replace hL := hL.same (hm_pI_s eμ20)
  refine tr_aload_n (pc' := 104) (show decode cX10_reads 103 = .ok (.aload_n 0, 1) by decide +kernel) rfl rfl rfl ?_
  obtain ⟨x21, ex21, h⟩ := hm_bs h
  have cx21 := ok_X10_fine (fr := fr - 1) (ν := ν) (by omega) μ20 hL ex21
  refine tp_callV (pc' := 107) (As := []) (fr1 := fr - 1) (ci := 10) okm_X10_fine lk_HandRingModel_184 (show decode cX10_reads 104 = .ok (.invokevirtual 184, 3) by decide +kernel) rfl rfl rfl (by decide) (la_o hL (by decide) rfl) rfl rfl (Nat.le_of_ble_eq_true rfl) (by omega) cx21 (st' := [.int x21]) rfl ?_
  obtain ⟨x22, ex22, h⟩ := hm_bs h
  cases h
  exact tp_zret rfl (show decode cX10_reads 107 = .ok (.ireturn, 1) by decide +kernel) ex22 hL
def f_X10_reads (μ : hm_M) : Option (Int32 × hm_M) :=
  Option.bind (f_X10_splits (μ.1 179 13) μ) fun μ3 =>
  Option.bind (hm_pI μ3 179 13 (0 : Int32)) fun μ4 =>
  Option.bind (hm_pI μ4 179 19 (0 : Int32)) fun μ5 =>
  Option.bind (hm_pI μ5 179 20 (0 : Int32)) fun μ6 =>
  Option.bind (hm_pI μ6 179 21 (-1 : Int32)) fun μ7 =>
  Option.bind (f_X10_readOne μ7) fun μ9 =>
  f_X10_reads_L34 (fun μz18 => Option.bind (f_X10_fine μz18) fun x19 =>
  (if x19 = 0 then
  f_X10_reads_J95 μz18
  else
  (if (μz18.1 179 18) ≤ (μz18.1 179 19) then
  f_X10_reads_J95 μz18
  else
  Option.bind (f_X10_faults μz18) fun μ24 =>
  f_X10_reads_J95 μ24))) hm_fu (1 : Int32) μ9
set_option maxRecDepth 100000 in
theorem ok_X10_reads {fr : Nat} (hfr : 89 ≤ fr) {ν : hm_N} {r : Int32} {μR : hm_M}    (μ : hm_M) (hL : hm_LL ν μ) (h : f_X10_reads μ = some (r, μR)) : hm_CC (hm_LL ν) m_X10_reads fr 0 0 [.ref 179] μ (some (.int r)) μR := by
  refine hm_enter (lv := [some (.ref 179), none]) (by decide) rfl (Nat.le_of_ble_eq_true rfl) ?_
  unfold f_X10_reads at h
  refine tr_aload_n (pc' := 1) (show decode cX10_reads 0 = .ok (.aload_n 0, 1) by decide +kernel) rfl rfl rfl ?_
  refine tr_aload_n (pc' := 2) (show decode cX10_reads 1 = .ok (.aload_n 0, 1) by decide +kernel) rfl rfl rfl ?_
  refine tr_getI (pc' := 5) fl_HandRingModel_162 (show decode cX10_reads 2 = .ok (.getfield 162, 3) by decide +kernel) rfl (la_o hL (by decide) rfl) ?_
  obtain ⟨μ3, ex2, h⟩ := hm_bs h
  have cx2 := ok_X10_splits (fr := fr - 1) (ν := ν) (by omega) (μ.1 179 13) μ hL ex2
  refine tp_callV (pc' := 8) (As := [.int (μ.1 179 13)]) (fr1 := fr - 1) (ci := 10) okm_X10_splits lk_HandRingModel_252 (show decode cX10_reads 5 = .ok (.invokevirtual 252, 3) by decide +kernel) rfl rfl rfl (by decide) (la_o hL (by decide) rfl) rfl rfl (Nat.le_of_ble_eq_true rfl) (by omega) cx2 (st' := []) rfl ?_
  replace hL := cx2.1
  refine tr_aload_n (pc' := 9) (show decode cX10_reads 8 = .ok (.aload_n 0, 1) by decide +kernel) rfl rfl rfl ?_
  refine tr_iconst (pc' := 10) (v := (0 : Int32)) (show decode cX10_reads 9 = .ok (.iconst 0, 1) by decide +kernel) rfl (by decide) ?_
  obtain ⟨μ4, eμ4, h⟩ := hm_bs h
  refine tp_pI (pc' := 13) fl_HandRingModel_162 (show decode cX10_reads 10 = .ok (.putfield 162, 3) by decide +kernel) rfl (la_o hL (by decide) rfl) eμ4 ?_
  replace hL := hL.same (hm_pI_s eμ4)
  refine tr_aload_n (pc' := 14) (show decode cX10_reads 13 = .ok (.aload_n 0, 1) by decide +kernel) rfl rfl rfl ?_
  refine tr_iconst (pc' := 15) (v := (0 : Int32)) (show decode cX10_reads 14 = .ok (.iconst 0, 1) by decide +kernel) rfl (by decide) ?_
  obtain ⟨μ5, eμ5, h⟩ := hm_bs h
  refine tp_pI (pc' := 18) fl_HandRingModel_188 (show decode cX10_reads 15 = .ok (.putfield 188, 3) by decide +kernel) rfl (la_o hL (by decide) rfl) eμ5 ?_
  replace hL := hL.same (hm_pI_s eμ5)
  refine tr_aload_n (pc' := 19) (show decode cX10_reads 18 = .ok (.aload_n 0, 1) by decide +kernel) rfl rfl rfl ?_
  refine tr_iconst (pc' := 20) (v := (0 : Int32)) (show decode cX10_reads 19 = .ok (.iconst 0, 1) by decide +kernel) rfl (by decide) ?_
  obtain ⟨μ6, eμ6, h⟩ := hm_bs h
  refine tp_pI (pc' := 23) fl_HandRingModel_197 (show decode cX10_reads 20 = .ok (.putfield 197, 3) by decide +kernel) rfl (la_o hL (by decide) rfl) eμ6 ?_
  replace hL := hL.same (hm_pI_s eμ6)
  refine tr_aload_n (pc' := 24) (show decode cX10_reads 23 = .ok (.aload_n 0, 1) by decide +kernel) rfl rfl rfl ?_
  refine tr_iconst (pc' := 25) (v := (-1 : Int32)) (show decode cX10_reads 24 = .ok (.iconst (-1), 1) by decide +kernel) rfl (by decide) ?_
  obtain ⟨μ7, eμ7, h⟩ := hm_bs h
  refine tp_pI (pc' := 28) fl_HandRingModel_181 (show decode cX10_reads 25 = .ok (.putfield 181, 3) by decide +kernel) rfl (la_o hL (by decide) rfl) eμ7 ?_
  replace hL := hL.same (hm_pI_s eμ7)
  refine tr_aload_n (pc' := 29) (show decode cX10_reads 28 = .ok (.aload_n 0, 1) by decide +kernel) rfl rfl rfl ?_
  obtain ⟨μ9, ex8, h⟩ := hm_bs h
  have cx8 := ok_X10_readOne (fr := fr - 1) (ν := ν) (by omega) μ7 hL ex8
  refine tp_callV (pc' := 32) (As := []) (fr1 := fr - 1) (ci := 10) okm_X10_readOne lk_HandRingModel_255 (show decode cX10_reads 29 = .ok (.invokevirtual 255, 3) by decide +kernel) rfl rfl rfl (by decide) (la_o hL (by decide) rfl) rfl rfl (Nat.le_of_ble_eq_true rfl) (by omega) cx8 (st' := []) rfl ?_
  replace hL := cx8.1
  refine tr_iconst (pc' := 33) (v := (1 : Int32)) (show decode cX10_reads 32 = .ok (.iconst 1, 1) by decide +kernel) rfl (by decide) ?_
  refine tr_istore_n (pc' := 34) (lv' := [some (.ref 179), some (.int (1 : Int32))]) (show decode cX10_reads 33 = .ok (.istore_n 1, 1) by decide +kernel) rfl rfl (Nat.le_of_ble_eq_true rfl) rfl rfl ?_
  refine ok_X10_reads_L34 hfr _ ?_ _ (1 : Int32) μ9 hL h
  · intro μz18 hL h
    refine tr_aload_n (pc' := 74) (show decode cX10_reads 73 = .ok (.aload_n 0, 1) by decide +kernel) rfl rfl rfl ?_
    obtain ⟨x19, ex19, h⟩ := hm_bs h
    have cx19 := ok_X10_fine (fr := fr - 1) (ν := ν) (by omega) μz18 hL ex19
    refine tp_callV (pc' := 77) (As := []) (fr1 := fr - 1) (ci := 10) okm_X10_fine lk_HandRingModel_184 (show decode cX10_reads 74 = .ok (.invokevirtual 184, 3) by decide +kernel) rfl rfl rfl (by decide) (la_o hL (by decide) rfl) rfl rfl (Nat.le_of_ble_eq_true rfl) (by omega) cx19 (st' := [.int x19]) rfl ?_
    rcases hm_is h with ⟨hc, h⟩ | ⟨hc, h⟩
    · refine tr_if_eq_t (tgt := 95) hc (show decode cX10_reads 77 = .ok (.ifCond .eq 18, 3) by decide +kernel) (by decide) ?_
      exact ok_X10_reads_J95 hfr μz18 hL h
    · refine tr_if_eq_f (tgt := 95) (pc' := 80) hc (show decode cX10_reads 77 = .ok (.ifCond .eq 18, 3) by decide +kernel) (by decide) rfl ?_
      refine tr_aload_n (pc' := 81) (show decode cX10_reads 80 = .ok (.aload_n 0, 1) by decide +kernel) rfl rfl rfl ?_
      refine tr_getI (pc' := 84) fl_HandRingModel_188 (show decode cX10_reads 81 = .ok (.getfield 188, 3) by decide +kernel) rfl (la_o hL (by decide) rfl) ?_
      refine tr_aload_n (pc' := 85) (show decode cX10_reads 84 = .ok (.aload_n 0, 1) by decide +kernel) rfl rfl rfl ?_
      refine tr_getI (pc' := 88) fl_HandRingModel_168 (show decode cX10_reads 85 = .ok (.getfield 168, 3) by decide +kernel) rfl (la_o hL (by decide) rfl) ?_
      rcases hm_is h with ⟨hc, h⟩ | ⟨hc, h⟩
      · refine tr_icmp_ge_t (tgt := 95) hc (show decode cX10_reads 88 = .ok (.if_icmp .ge 7, 3) by decide +kernel) (by decide) ?_
        exact ok_X10_reads_J95 hfr μz18 hL h
      · refine tr_icmp_ge_f (tgt := 95) (pc' := 91) hc (show decode cX10_reads 88 = .ok (.if_icmp .ge 7, 3) by decide +kernel) (by decide) rfl ?_
        refine tr_aload_n (pc' := 92) (show decode cX10_reads 91 = .ok (.aload_n 0, 1) by decide +kernel) rfl rfl rfl ?_
        obtain ⟨μ24, ex23, h⟩ := hm_bs h
        have cx23 := ok_X10_faults (fr := fr - 1) (ν := ν) (by omega) μz18 hL ex23
        refine tp_callV (pc' := 95) (As := []) (fr1 := fr - 1) (ci := 10) okm_X10_faults lk_HandRingModel_194 (show decode cX10_reads 92 = .ok (.invokevirtual 194, 3) by decide +kernel) rfl rfl rfl (by decide) (la_o hL (by decide) rfl) rfl rfl (Nat.le_of_ble_eq_true rfl) (by omega) cx23 (st' := []) rfl ?_
        replace hL := cx23.1
        exact ok_X10_reads_J95 hfr μ24 hL h
def f_X10_readsAs_J32 (v1 : Int32) (s0 : Int32) (μ1 : hm_M) : Option (Int32 × hm_M) :=
  Option.bind (hm_pI μ1 179 9 s0) fun μ4 =>
  hm_b2 (f_X10_reads μ4) fun x5 μ6 =>
  Option.bind (hm_rz x5) fun x7 => some (x7, μ6)
theorem ok_X10_readsAs_J32 {fr : Nat} (hfr : 90 ≤ fr) {ν : hm_N} {r : Int32} {μR : hm_M}  (v1 : Int32)    (s0 : Int32) (μ1 : hm_M) (hL : hm_LL ν μ1) (h : f_X10_readsAs_J32 v1 s0 μ1 = some (r, μR)) : hm_T (hm_LL ν) m_X10_readsAs fr 0 0 (some (.int r)) μR 32 [some (.ref 179), none] [.int s0, .ref 179] μ1 := by
  unfold f_X10_readsAs_J32 at h
  obtain ⟨μ4, eμ4, h⟩ := hm_bs h
  refine tp_pI (pc' := 35) fl_HandRingModel_246 (show decode cX10_readsAs 32 = .ok (.putfield 246, 3) by decide +kernel) rfl (la_o hL (by decide) rfl) eμ4 ?_
  replace hL := hL.same (hm_pI_s eμ4)
  refine tr_aload_n (pc' := 36) (show decode cX10_readsAs 35 = .ok (.aload_n 0, 1) by decide +kernel) rfl rfl rfl ?_
  obtain ⟨x5, μ6, ex5, h⟩ := hm_b2s h
  have cx5 := ok_X10_reads (fr := fr - 1) (ν := ν) (by omega) μ4 hL ex5
  refine tp_callV (pc' := 39) (As := []) (fr1 := fr - 1) (ci := 10) okm_X10_reads lk_HandRingModel_258 (show decode cX10_readsAs 36 = .ok (.invokevirtual 258, 3) by decide +kernel) rfl rfl rfl (by decide) (la_o hL (by decide) rfl) rfl rfl (Nat.le_of_ble_eq_true rfl) (by omega) cx5 (st' := [.int x5]) rfl ?_
  replace hL := cx5.1
  obtain ⟨x7, ex7, h⟩ := hm_bs h
  cases h
  exact tp_zret rfl (show decode cX10_readsAs 39 = .ok (.ireturn, 1) by decide +kernel) ex7 hL
def f_X10_readsAs_J17 (v1 : Int32) (s0 : Int32) (μ1 : hm_M) : Option (Int32 × hm_M) :=
  Option.bind (hm_pI μ1 179 8 s0) fun μ3 =>
  (if v1 = 0 then
  f_X10_readsAs_J32 v1 (15 : Int32) μ3
  else
  f_X10_readsAs_J32 v1 (21 : Int32) μ3)
theorem ok_X10_readsAs_J17 {fr : Nat} (hfr : 90 ≤ fr) {ν : hm_N} {r : Int32} {μR : hm_M}  (v1 : Int32)    (s0 : Int32) (μ1 : hm_M) (hL : hm_LL ν μ1) (h : f_X10_readsAs_J17 v1 s0 μ1 = some (r, μR)) : hm_T (hm_LL ν) m_X10_readsAs fr 0 0 (some (.int r)) μR 17 [some (.ref 179), some (.int v1)] [.int s0, .ref 179] μ1 := by
  unfold f_X10_readsAs_J17 at h
  obtain ⟨μ3, eμ3, h⟩ := hm_bs h
  refine tp_pI (pc' := 20) fl_HandRingModel_243 (show decode cX10_readsAs 17 = .ok (.putfield 243, 3) by decide +kernel) rfl (la_o hL (by decide) rfl) eμ3 ?_
  replace hL := hL.same (hm_pI_s eμ3)
  refine tr_aload_n (pc' := 21) (show decode cX10_readsAs 20 = .ok (.aload_n 0, 1) by decide +kernel) rfl rfl rfl ?_
  refine tr_iload_n (pc' := 22) (show decode cX10_readsAs 21 = .ok (.iload_n 1, 1) by decide +kernel) rfl rfl rfl ?_
  rcases hm_is h with ⟨hc, h⟩ | ⟨hc, h⟩
  · refine tr_if_eq_t (tgt := 30) hc (show decode cX10_readsAs 22 = .ok (.ifCond .eq 8, 3) by decide +kernel) (by decide) ?_
    refine tr_bipush (pc' := 32) (v := (15 : Int32)) (show decode cX10_readsAs 30 = .ok (.bipush 15, 2) by decide +kernel) rfl (by decide) ?_
    refine hm_fgt [true, false] (lv' := [some (.ref 179), none]) rfl ?_
    exact ok_X10_readsAs_J32 hfr _ (15 : Int32) μ3 hL h
  · refine tr_if_eq_f (tgt := 30) (pc' := 25) hc (show decode cX10_readsAs 22 = .ok (.ifCond .eq 8, 3) by decide +kernel) (by decide) rfl ?_
    refine tr_bipush (pc' := 27) (v := (21 : Int32)) (show decode cX10_readsAs 25 = .ok (.bipush 21, 2) by decide +kernel) rfl (by decide) ?_
    refine tr_goto (tgt := 32) (show decode cX10_readsAs 27 = .ok (.goto 5, 3) by decide +kernel) rfl ?_
    refine hm_fgt [true, false] (lv' := [some (.ref 179), none]) rfl ?_
    exact ok_X10_readsAs_J32 hfr _ (21 : Int32) μ3 hL h
def f_X10_readsAs (v1 : Int32) (μ : hm_M) : Option (Int32 × hm_M) :=
  Option.bind (hm_pZ μ 179 10 v1) fun μ2 =>
  (if v1 = 0 then
  f_X10_readsAs_J17 v1 (8 : Int32) μ2
  else
  f_X10_readsAs_J17 v1 (15 : Int32) μ2)
set_option maxRecDepth 100000 in
theorem ok_X10_readsAs {fr : Nat} (hfr : 90 ≤ fr) {ν : hm_N} {r : Int32} {μR : hm_M}  (v1 : Int32)  (μ : hm_M) (hL : hm_LL ν μ) (h : f_X10_readsAs v1 μ = some (r, μR)) : hm_CC (hm_LL ν) m_X10_readsAs fr 0 0 [.ref 179, .int v1] μ (some (.int r)) μR := by
  refine hm_enter (lv := [some (.ref 179), some (.int v1)]) (by decide) rfl (Nat.le_of_ble_eq_true rfl) ?_
  unfold f_X10_readsAs at h
  refine tr_aload_n (pc' := 1) (show decode cX10_readsAs 0 = .ok (.aload_n 0, 1) by decide +kernel) rfl rfl rfl ?_
  refine tr_iload_n (pc' := 2) (show decode cX10_readsAs 1 = .ok (.iload_n 1, 1) by decide +kernel) rfl rfl rfl ?_
  obtain ⟨μ2, eμ2, h⟩ := hm_bs h
  refine tp_pZ (pc' := 5) fl_HandRingModel_217 (show decode cX10_readsAs 2 = .ok (.putfield 217, 3) by decide +kernel) rfl (la_o hL (by decide) rfl) eμ2 ?_
  replace hL := hL.same (hm_pZ_s eμ2)
  refine tr_aload_n (pc' := 6) (show decode cX10_readsAs 5 = .ok (.aload_n 0, 1) by decide +kernel) rfl rfl rfl ?_
  refine tr_iload_n (pc' := 7) (show decode cX10_readsAs 6 = .ok (.iload_n 1, 1) by decide +kernel) rfl rfl rfl ?_
  rcases hm_is h with ⟨hc, h⟩ | ⟨hc, h⟩
  · refine tr_if_eq_t (tgt := 15) hc (show decode cX10_readsAs 7 = .ok (.ifCond .eq 8, 3) by decide +kernel) (by decide) ?_
    refine tr_bipush (pc' := 17) (v := (8 : Int32)) (show decode cX10_readsAs 15 = .ok (.bipush 8, 2) by decide +kernel) rfl (by decide) ?_
    exact ok_X10_readsAs_J17 hfr _ (8 : Int32) μ2 hL h
  · refine tr_if_eq_f (tgt := 15) (pc' := 10) hc (show decode cX10_readsAs 7 = .ok (.ifCond .eq 8, 3) by decide +kernel) (by decide) rfl ?_
    refine tr_bipush (pc' := 12) (v := (15 : Int32)) (show decode cX10_readsAs 10 = .ok (.bipush 15, 2) by decide +kernel) rfl (by decide) ?_
    refine tr_goto (tgt := 17) (show decode cX10_readsAs 12 = .ok (.goto 5, 3) by decide +kernel) rfl ?_
    exact ok_X10_readsAs_J17 hfr _ (15 : Int32) μ2 hL h
def f_X10_lays_L15 (v1 : Int32) (e72 : hm_M → Option hm_M) : Nat → Int32 → hm_M → Option hm_M
  | 0, _, _ => none
  | n + 1, y2, μ1 => (if (μ1.1 179 18) ≤ y2 then
  e72 μ1
  else
  Option.bind (hm_ld μ1 188 401 y2) fun x3 =>
  Option.bind (hm_sd μ1 181 5665 (((65 : Int32) + ((400 : Int32) * v1)) + y2) x3) fun μ4 =>
  Option.bind (hm_ld μ4 189 401 y2) fun x5 =>
  Option.bind (hm_sd μ4 181 5665 (((2865 : Int32) + ((400 : Int32) * v1)) + y2) x5) fun μ6 =>
  (f_X10_lays_L15 v1 e72 n) (y2 + (1 : Int32)) μ6)
theorem ok_X10_lays_L15 {fr : Nat} (hfr : 0 ≤ fr) {ν : hm_N} {μR : hm_M}  (v1 : Int32) (e72 : hm_M → Option hm_M)  (he72 : ∀   (μ1 : hm_M), hm_LL ν μ1 → e72 μ1 = some μR → hm_T (hm_LL ν) m_X10_lays fr 0 0 none μR 72 [none, none, none] [] μ1)  : ∀ (n : Nat) (y2 : Int32)  (μ1 : hm_M), hm_LL ν μ1 → f_X10_lays_L15 v1 e72 n y2 μ1 = some μR → hm_T (hm_LL ν) m_X10_lays fr 0 0 none μR 15 [some (.ref 179), some (.int v1), some (.int y2)] [] μ1 := by
  intro n
  induction n with
  | zero =>
    intro y2 μ1 hL h
    unfold f_X10_lays_L15 at h
    cases h
  | succ n ih =>
    intro y2 μ1 hL h
    unfold f_X10_lays_L15 at h
    refine tr_iload_n (pc' := 16) (show decode cX10_lays 15 = .ok (.iload_n 2, 1) by decide +kernel) rfl rfl rfl ?_
    refine tr_aload_n (pc' := 17) (show decode cX10_lays 16 = .ok (.aload_n 0, 1) by decide +kernel) rfl rfl rfl ?_
    refine tr_getI (pc' := 20) fl_HandRingModel_168 (show decode cX10_lays 17 = .ok (.getfield 168, 3) by decide +kernel) rfl (la_o hL (by decide) rfl) ?_
    rcases hm_is h with ⟨hc, h⟩ | ⟨hc, h⟩
    · refine tr_icmp_ge_t (tgt := 72) hc (show decode cX10_lays 20 = .ok (.if_icmp .ge 52, 3) by decide +kernel) (by decide) ?_
      refine hm_fgt [false, false, false] (lv' := [none, none, none]) rfl ?_
      exact he72 μ1 hL h
    · refine tr_icmp_ge_f (tgt := 72) (pc' := 23) hc (show decode cX10_lays 20 = .ok (.if_icmp .ge 52, 3) by decide +kernel) (by decide) rfl ?_
      refine tr_aload_n (pc' := 24) (show decode cX10_lays 23 = .ok (.aload_n 0, 1) by decide +kernel) rfl rfl rfl ?_
      refine tr_getR (pc' := 27) fl_HandRingModel_24 (show decode cX10_lays 24 = .ok (.getfield 24, 3) by decide +kernel) rfl (la_o hL (by decide) rfl) (la_r hL 118 rfl) ?_
      refine tr_bipush (pc' := 29) (v := (65 : Int32)) (show decode cX10_lays 27 = .ok (.bipush 65, 2) by decide +kernel) rfl (by decide) ?_
      refine tr_sipush (pc' := 32) (v := (400 : Int32)) (show decode cX10_lays 29 = .ok (.sipush 400, 3) by decide +kernel) rfl (by decide) ?_
      refine tr_iload_n (pc' := 33) (show decode cX10_lays 32 = .ok (.iload_n 1, 1) by decide +kernel) rfl rfl rfl ?_
      refine tr_imul (pc' := 34) (show decode cX10_lays 33 = .ok (.imul, 1) by decide +kernel) rfl ?_
      refine tr_iadd (pc' := 35) (show decode cX10_lays 34 = .ok (.iadd, 1) by decide +kernel) rfl ?_
      refine tr_iload_n (pc' := 36) (show decode cX10_lays 35 = .ok (.iload_n 2, 1) by decide +kernel) rfl rfl rfl ?_
      refine tr_iadd (pc' := 37) (show decode cX10_lays 36 = .ok (.iadd, 1) by decide +kernel) rfl ?_
      refine tr_aload_n (pc' := 38) (show decode cX10_lays 37 = .ok (.aload_n 0, 1) by decide +kernel) rfl rfl rfl ?_
      refine tr_getR (pc' := 41) fl_HandRingModel_50 (show decode cX10_lays 38 = .ok (.getfield 50, 3) by decide +kernel) rfl (la_o hL (by decide) rfl) (la_r hL 125 rfl) ?_
      refine tr_iload_n (pc' := 42) (show decode cX10_lays 41 = .ok (.iload_n 2, 1) by decide +kernel) rfl rfl rfl ?_
      obtain ⟨x3, ex3, h⟩ := hm_bs h
      refine tp_ldI (pc' := 43) (show decode cX10_lays 42 = .ok (.iaload, 1) by decide +kernel) rfl (la_a hL (by decide) rfl) ex3 ?_
      obtain ⟨μ4, eμ4, h⟩ := hm_bs h
      refine tp_sdI (pc' := 44) (show decode cX10_lays 43 = .ok (.iastore, 1) by decide +kernel) rfl (la_a hL (by decide) rfl) eμ4 ?_
      replace hL := hL.same (hm_sd_s eμ4)
      refine tr_aload_n (pc' := 45) (show decode cX10_lays 44 = .ok (.aload_n 0, 1) by decide +kernel) rfl rfl rfl ?_
      refine tr_getR (pc' := 48) fl_HandRingModel_24 (show decode cX10_lays 45 = .ok (.getfield 24, 3) by decide +kernel) rfl (la_o hL (by decide) rfl) (la_r hL 118 rfl) ?_
      refine tr_sipush (pc' := 51) (v := (2865 : Int32)) (show decode cX10_lays 48 = .ok (.sipush 2865, 3) by decide +kernel) rfl (by decide) ?_
      refine tr_sipush (pc' := 54) (v := (400 : Int32)) (show decode cX10_lays 51 = .ok (.sipush 400, 3) by decide +kernel) rfl (by decide) ?_
      refine tr_iload_n (pc' := 55) (show decode cX10_lays 54 = .ok (.iload_n 1, 1) by decide +kernel) rfl rfl rfl ?_
      refine tr_imul (pc' := 56) (show decode cX10_lays 55 = .ok (.imul, 1) by decide +kernel) rfl ?_
      refine tr_iadd (pc' := 57) (show decode cX10_lays 56 = .ok (.iadd, 1) by decide +kernel) rfl ?_
      refine tr_iload_n (pc' := 58) (show decode cX10_lays 57 = .ok (.iload_n 2, 1) by decide +kernel) rfl rfl rfl ?_
      refine tr_iadd (pc' := 59) (show decode cX10_lays 58 = .ok (.iadd, 1) by decide +kernel) rfl ?_
      refine tr_aload_n (pc' := 60) (show decode cX10_lays 59 = .ok (.aload_n 0, 1) by decide +kernel) rfl rfl rfl ?_
      refine tr_getR (pc' := 63) fl_HandRingModel_53 (show decode cX10_lays 60 = .ok (.getfield 53, 3) by decide +kernel) rfl (la_o hL (by decide) rfl) (la_r hL 126 rfl) ?_
      refine tr_iload_n (pc' := 64) (show decode cX10_lays 63 = .ok (.iload_n 2, 1) by decide +kernel) rfl rfl rfl ?_
      obtain ⟨x5, ex5, h⟩ := hm_bs h
      refine tp_ldI (pc' := 65) (show decode cX10_lays 64 = .ok (.iaload, 1) by decide +kernel) rfl (la_a hL (by decide) rfl) ex5 ?_
      obtain ⟨μ6, eμ6, h⟩ := hm_bs h
      refine tp_sdI (pc' := 66) (show decode cX10_lays 65 = .ok (.iastore, 1) by decide +kernel) rfl (la_a hL (by decide) rfl) eμ6 ?_
      replace hL := hL.same (hm_sd_s eμ6)
      refine tr_iinc (pc' := 69) (v := y2 + (1 : Int32)) (lv' := [some (.ref 179), some (.int v1), some (.int (y2 + (1 : Int32)))]) (show decode cX10_lays 66 = .ok (.iinc 2 1, 3) by decide +kernel) rfl rfl rfl (Nat.le_of_ble_eq_true rfl) rfl rfl ?_
      refine tr_goto (tgt := 15) (show decode cX10_lays 69 = .ok (.goto (-54), 3) by decide +kernel) rfl ?_
      exact ih (y2 + (1 : Int32)) μ6 hL h
def f_X10_lays (v1 : Int32) (μ : hm_M) : Option hm_M :=
  Option.bind (hm_sd μ 181 5665 ((58 : Int32) + v1) (μ.1 179 18)) fun μ2 =>
  f_X10_lays_L15 v1 (fun μz7 => some μz7) hm_fu (0 : Int32) μ2
set_option maxRecDepth 100000 in
theorem ok_X10_lays {fr : Nat} (hfr : 0 ≤ fr) {ν : hm_N} {μR : hm_M}  (v1 : Int32)  (μ : hm_M) (hL : hm_LL ν μ) (h : f_X10_lays v1 μ = some μR) : hm_CC (hm_LL ν) m_X10_lays fr 0 0 [.ref 179, .int v1] μ none μR := by
  refine hm_enter (lv := [some (.ref 179), some (.int v1), none]) (by decide) rfl (Nat.le_of_ble_eq_true rfl) ?_
  unfold f_X10_lays at h
  refine tr_aload_n (pc' := 1) (show decode cX10_lays 0 = .ok (.aload_n 0, 1) by decide +kernel) rfl rfl rfl ?_
  refine tr_getR (pc' := 4) fl_HandRingModel_24 (show decode cX10_lays 1 = .ok (.getfield 24, 3) by decide +kernel) rfl (la_o hL (by decide) rfl) (la_r hL 118 rfl) ?_
  refine tr_bipush (pc' := 6) (v := (58 : Int32)) (show decode cX10_lays 4 = .ok (.bipush 58, 2) by decide +kernel) rfl (by decide) ?_
  refine tr_iload_n (pc' := 7) (show decode cX10_lays 6 = .ok (.iload_n 1, 1) by decide +kernel) rfl rfl rfl ?_
  refine tr_iadd (pc' := 8) (show decode cX10_lays 7 = .ok (.iadd, 1) by decide +kernel) rfl ?_
  refine tr_aload_n (pc' := 9) (show decode cX10_lays 8 = .ok (.aload_n 0, 1) by decide +kernel) rfl rfl rfl ?_
  refine tr_getI (pc' := 12) fl_HandRingModel_168 (show decode cX10_lays 9 = .ok (.getfield 168, 3) by decide +kernel) rfl (la_o hL (by decide) rfl) ?_
  obtain ⟨μ2, eμ2, h⟩ := hm_bs h
  refine tp_sdI (pc' := 13) (show decode cX10_lays 12 = .ok (.iastore, 1) by decide +kernel) rfl (la_a hL (by decide) rfl) eμ2 ?_
  replace hL := hL.same (hm_sd_s eμ2)
  refine tr_iconst (pc' := 14) (v := (0 : Int32)) (show decode cX10_lays 13 = .ok (.iconst 0, 1) by decide +kernel) rfl (by decide) ?_
  refine tr_istore_n (pc' := 15) (lv' := [some (.ref 179), some (.int v1), some (.int (0 : Int32))]) (show decode cX10_lays 14 = .ok (.istore_n 2, 1) by decide +kernel) rfl rfl (Nat.le_of_ble_eq_true rfl) rfl rfl ?_
  refine ok_X10_lays_L15 hfr _ _ ?_ _ (0 : Int32) μ2 hL h
  · intro μz7 hL h
    cases h
    exact tr_vret rfl (show decode cX10_lays 72 = .ok (.return_, 1) by decide +kernel) hL
def f_X10_law (μ : hm_M) : Option (Int32 × hm_M) :=
  Option.bind (hm_ld μ 181 5665 (56 : Int32)) fun x2 =>
  (if x2 = (6 : Int32) then
  Option.bind (hm_pI μ 179 13 (0 : Int32)) fun μ15 =>
  hm_b2 (f_X10_refuses (-5 : Int32) μ15) fun x16 μ17 =>
  some (x16, μ17)
  else
  hm_b2 (f_X10_readsAs (0 : Int32) μ) fun x3 μ4 =>
  (if x3 = 0 then
  hm_b2 (f_X10_refuses (-6 : Int32) μ4) fun x13 μ14 =>
  some (x13, μ14)
  else
  Option.bind (hm_ld μ4 181 5665 (56 : Int32)) fun x5 =>
  Option.bind (f_X10_lays x5 μ4) fun μ7 =>
  Option.bind (hm_ld μ7 181 5665 (56 : Int32)) fun x8 =>
  Option.bind (hm_sd μ7 181 5665 (56 : Int32) (x8 + (1 : Int32))) fun μ9 =>
  Option.bind (hm_ld μ9 181 5665 (56 : Int32)) fun x10 =>
  hm_b2 (f_X10_good (x10 - (1 : Int32)) μ9) fun x11 μ12 =>
  some (x11, μ12)))
set_option maxRecDepth 100000 in
theorem ok_X10_law {fr : Nat} (hfr : 91 ≤ fr) {ν : hm_N} {r : Int32} {μR : hm_M}    (μ : hm_M) (hL : hm_LL ν μ) (h : f_X10_law μ = some (r, μR)) : hm_CC (hm_LL ν) m_X10_law fr 0 0 [.ref 179] μ (some (.int r)) μR := by
  refine hm_enter (lv := [some (.ref 179)]) (by decide) rfl (Nat.le_of_ble_eq_true rfl) ?_
  unfold f_X10_law at h
  refine tr_aload_n (pc' := 1) (show decode cX10_law 0 = .ok (.aload_n 0, 1) by decide +kernel) rfl rfl rfl ?_
  refine tr_getR (pc' := 4) fl_HandRingModel_24 (show decode cX10_law 1 = .ok (.getfield 24, 3) by decide +kernel) rfl (la_o hL (by decide) rfl) (la_r hL 118 rfl) ?_
  refine tr_bipush (pc' := 6) (v := (56 : Int32)) (show decode cX10_law 4 = .ok (.bipush 56, 2) by decide +kernel) rfl (by decide) ?_
  obtain ⟨x2, ex2, h⟩ := hm_bs h
  refine tp_ldI (pc' := 7) (show decode cX10_law 6 = .ok (.iaload, 1) by decide +kernel) rfl (la_a hL (by decide) rfl) ex2 ?_
  refine tr_bipush (pc' := 9) (v := (6 : Int32)) (show decode cX10_law 7 = .ok (.bipush 6, 2) by decide +kernel) rfl (by decide) ?_
  rcases hm_is h with ⟨hc, h⟩ | ⟨hc, h⟩
  · refine tr_icmp_ne_f (tgt := 24) (pc' := 12) hc (show decode cX10_law 9 = .ok (.if_icmp .ne 15, 3) by decide +kernel) (by decide) rfl ?_
    refine tr_aload_n (pc' := 13) (show decode cX10_law 12 = .ok (.aload_n 0, 1) by decide +kernel) rfl rfl rfl ?_
    refine tr_iconst (pc' := 14) (v := (0 : Int32)) (show decode cX10_law 13 = .ok (.iconst 0, 1) by decide +kernel) rfl (by decide) ?_
    obtain ⟨μ15, eμ15, h⟩ := hm_bs h
    refine tp_pI (pc' := 17) fl_HandRingModel_162 (show decode cX10_law 14 = .ok (.putfield 162, 3) by decide +kernel) rfl (la_o hL (by decide) rfl) eμ15 ?_
    replace hL := hL.same (hm_pI_s eμ15)
    refine tr_aload_n (pc' := 18) (show decode cX10_law 17 = .ok (.aload_n 0, 1) by decide +kernel) rfl rfl rfl ?_
    refine tr_bipush (pc' := 20) (v := (-5 : Int32)) (show decode cX10_law 18 = .ok (.bipush (-5), 2) by decide +kernel) rfl (by decide) ?_
    obtain ⟨x16, μ17, ex16, h⟩ := hm_b2s h
    have cx16 := ok_X10_refuses (fr := fr - 1) (ν := ν) (by omega) (-5 : Int32) μ15 hL ex16
    refine tp_callV (pc' := 23) (As := [.int (-5 : Int32)]) (fr1 := fr - 1) (ci := 10) okm_X10_refuses lk_HandRingModel_112 (show decode cX10_law 20 = .ok (.invokevirtual 112, 3) by decide +kernel) rfl rfl rfl (by decide) (la_o hL (by decide) rfl) rfl rfl (Nat.le_of_ble_eq_true rfl) (by omega) cx16 (st' := [.int x16]) rfl ?_
    replace hL := cx16.1
    cases h
    exact tr_iret rfl (show decode cX10_law 23 = .ok (.ireturn, 1) by decide +kernel) hL
  · refine tr_icmp_ne_t (tgt := 24) hc (show decode cX10_law 9 = .ok (.if_icmp .ne 15, 3) by decide +kernel) (by decide) ?_
    refine tr_aload_n (pc' := 25) (show decode cX10_law 24 = .ok (.aload_n 0, 1) by decide +kernel) rfl rfl rfl ?_
    refine tr_iconst (pc' := 26) (v := (0 : Int32)) (show decode cX10_law 25 = .ok (.iconst 0, 1) by decide +kernel) rfl (by decide) ?_
    obtain ⟨x3, μ4, ex3, h⟩ := hm_b2s h
    have cx3 := ok_X10_readsAs (fr := fr - 1) (ν := ν) (by omega) (0 : Int32) μ hL ex3
    refine tp_callV (pc' := 29) (As := [.int (0 : Int32)]) (fr1 := fr - 1) (ci := 10) okm_X10_readsAs lk_HandRingModel_261 (show decode cX10_law 26 = .ok (.invokevirtual 261, 3) by decide +kernel) rfl rfl rfl (by decide) (la_o hL (by decide) rfl) rfl rfl (Nat.le_of_ble_eq_true rfl) (by omega) cx3 (st' := [.int x3]) rfl ?_
    replace hL := cx3.1
    rcases hm_is h with ⟨hc, h⟩ | ⟨hc, h⟩
    · refine tr_if_ne_f (tgt := 39) (pc' := 32) hc (show decode cX10_law 29 = .ok (.ifCond .ne 10, 3) by decide +kernel) (by decide) rfl ?_
      refine tr_aload_n (pc' := 33) (show decode cX10_law 32 = .ok (.aload_n 0, 1) by decide +kernel) rfl rfl rfl ?_
      refine tr_bipush (pc' := 35) (v := (-6 : Int32)) (show decode cX10_law 33 = .ok (.bipush (-6), 2) by decide +kernel) rfl (by decide) ?_
      obtain ⟨x13, μ14, ex13, h⟩ := hm_b2s h
      have cx13 := ok_X10_refuses (fr := fr - 1) (ν := ν) (by omega) (-6 : Int32) μ4 hL ex13
      refine tp_callV (pc' := 38) (As := [.int (-6 : Int32)]) (fr1 := fr - 1) (ci := 10) okm_X10_refuses lk_HandRingModel_112 (show decode cX10_law 35 = .ok (.invokevirtual 112, 3) by decide +kernel) rfl rfl rfl (by decide) (la_o hL (by decide) rfl) rfl rfl (Nat.le_of_ble_eq_true rfl) (by omega) cx13 (st' := [.int x13]) rfl ?_
      replace hL := cx13.1
      cases h
      exact tr_iret rfl (show decode cX10_law 38 = .ok (.ireturn, 1) by decide +kernel) hL
    · refine tr_if_ne_t (tgt := 39) hc (show decode cX10_law 29 = .ok (.ifCond .ne 10, 3) by decide +kernel) (by decide) ?_
      refine tr_aload_n (pc' := 40) (show decode cX10_law 39 = .ok (.aload_n 0, 1) by decide +kernel) rfl rfl rfl ?_
      refine tr_aload_n (pc' := 41) (show decode cX10_law 40 = .ok (.aload_n 0, 1) by decide +kernel) rfl rfl rfl ?_
      refine tr_getR (pc' := 44) fl_HandRingModel_24 (show decode cX10_law 41 = .ok (.getfield 24, 3) by decide +kernel) rfl (la_o hL (by decide) rfl) (la_r hL 118 rfl) ?_
      refine tr_bipush (pc' := 46) (v := (56 : Int32)) (show decode cX10_law 44 = .ok (.bipush 56, 2) by decide +kernel) rfl (by decide) ?_
      obtain ⟨x5, ex5, h⟩ := hm_bs h
      refine tp_ldI (pc' := 47) (show decode cX10_law 46 = .ok (.iaload, 1) by decide +kernel) rfl (la_a hL (by decide) rfl) ex5 ?_
      obtain ⟨μ7, ex6, h⟩ := hm_bs h
      have cx6 := ok_X10_lays (fr := fr - 1) (ν := ν) (by omega) x5 μ4 hL ex6
      refine tp_callV (pc' := 50) (As := [.int x5]) (fr1 := fr - 1) (ci := 10) okm_X10_lays lk_HandRingModel_265 (show decode cX10_law 47 = .ok (.invokevirtual 265, 3) by decide +kernel) rfl rfl rfl (by decide) (la_o hL (by decide) rfl) rfl rfl (Nat.le_of_ble_eq_true rfl) (by omega) cx6 (st' := []) rfl ?_
      replace hL := cx6.1
      refine tr_aload_n (pc' := 51) (show decode cX10_law 50 = .ok (.aload_n 0, 1) by decide +kernel) rfl rfl rfl ?_
      refine tr_getR (pc' := 54) fl_HandRingModel_24 (show decode cX10_law 51 = .ok (.getfield 24, 3) by decide +kernel) rfl (la_o hL (by decide) rfl) (la_r hL 118 rfl) ?_
      refine tr_bipush (pc' := 56) (v := (56 : Int32)) (show decode cX10_law 54 = .ok (.bipush 56, 2) by decide +kernel) rfl (by decide) ?_
      refine tr_dup2 (pc' := 57) (show decode cX10_law 56 = .ok (.dup2, 1) by decide +kernel) rfl rfl rfl ?_
      obtain ⟨x8, ex8, h⟩ := hm_bs h
      refine tp_ldI (pc' := 58) (show decode cX10_law 57 = .ok (.iaload, 1) by decide +kernel) rfl (la_a hL (by decide) rfl) ex8 ?_
      refine tr_iconst (pc' := 59) (v := (1 : Int32)) (show decode cX10_law 58 = .ok (.iconst 1, 1) by decide +kernel) rfl (by decide) ?_
      refine tr_iadd (pc' := 60) (show decode cX10_law 59 = .ok (.iadd, 1) by decide +kernel) rfl ?_
      obtain ⟨μ9, eμ9, h⟩ := hm_bs h
      refine tp_sdI (pc' := 61) (show decode cX10_law 60 = .ok (.iastore, 1) by decide +kernel) rfl (la_a hL (by decide) rfl) eμ9 ?_
      replace hL := hL.same (hm_sd_s eμ9)
      refine tr_aload_n (pc' := 62) (show decode cX10_law 61 = .ok (.aload_n 0, 1) by decide +kernel) rfl rfl rfl ?_
      refine tr_aload_n (pc' := 63) (show decode cX10_law 62 = .ok (.aload_n 0, 1) by decide +kernel) rfl rfl rfl ?_
      refine tr_getR (pc' := 66) fl_HandRingModel_24 (show decode cX10_law 63 = .ok (.getfield 24, 3) by decide +kernel) rfl (la_o hL (by decide) rfl) (la_r hL 118 rfl) ?_
      refine tr_bipush (pc' := 68) (v := (56 : Int32)) (show decode cX10_law 66 = .ok (.bipush 56, 2) by decide +kernel) rfl (by decide) ?_
      obtain ⟨x10, ex10, h⟩ := hm_bs h
      refine tp_ldI (pc' := 69) (show decode cX10_law 68 = .ok (.iaload, 1) by decide +kernel) rfl (la_a hL (by decide) rfl) ex10 ?_
      refine tr_iconst (pc' := 70) (v := (1 : Int32)) (show decode cX10_law 69 = .ok (.iconst 1, 1) by decide +kernel) rfl (by decide) ?_
      refine tr_isub (pc' := 71) (show decode cX10_law 70 = .ok (.isub, 1) by decide +kernel) rfl ?_
      obtain ⟨x11, μ12, ex11, h⟩ := hm_b2s h
      have cx11 := ok_X10_good (fr := fr - 1) (ν := ν) (by omega) (x10 - (1 : Int32)) μ9 hL ex11
      refine tp_callV (pc' := 74) (As := [.int (x10 - (1 : Int32))]) (fr1 := fr - 1) (ci := 10) okm_X10_good lk_HandRingModel_14 (show decode cX10_law 71 = .ok (.invokevirtual 14, 3) by decide +kernel) rfl rfl rfl (by decide) (la_o hL (by decide) rfl) rfl rfl (Nat.le_of_ble_eq_true rfl) (by omega) cx11 (st' := [.int x11]) rfl ?_
      replace hL := cx11.1
      cases h
      exact tr_iret rfl (show decode cX10_law 74 = .ok (.ireturn, 1) by decide +kernel) hL
def f_X10_fault (μ : hm_M) : Option Int32 :=
  some (μ.1 179 14)
set_option maxRecDepth 100000 in
theorem ok_X10_fault {fr : Nat} (hfr : 0 ≤ fr) {ν : hm_N} {r : Int32}    (μ : hm_M) (hL : hm_LL ν μ) (h : f_X10_fault μ = some r) : hm_CC (hm_LL ν) m_X10_fault fr 0 0 [.ref 179] μ (some (.int r)) μ := by
  refine hm_enter (lv := [some (.ref 179)]) (by decide) rfl (Nat.le_of_ble_eq_true rfl) ?_
  unfold f_X10_fault at h
  refine tr_aload_n (pc' := 1) (show decode cX10_fault 0 = .ok (.aload_n 0, 1) by decide +kernel) rfl rfl rfl ?_
  refine tr_getI (pc' := 4) fl_HandRingModel_47 (show decode cX10_fault 1 = .ok (.getfield 47, 3) by decide +kernel) rfl (la_o hL (by decide) rfl) ?_
  cases h
  exact tr_iret rfl (show decode cX10_fault 4 = .ok (.ireturn, 1) by decide +kernel) hL
def f_X10_isLaw (v1 : Int32) (μ : hm_M) : Option Int32 :=
  Option.bind (hm_ld μ 181 5665 (56 : Int32)) fun x2 =>
  Option.bind (f_X10_lies v1 (-1 : Int32) (x2 - (1 : Int32))) fun x3 =>
  hm_rz x3
set_option maxRecDepth 100000 in
theorem ok_X10_isLaw {fr : Nat} (hfr : 1 ≤ fr) {ν : hm_N} {r : Int32}  (v1 : Int32)  (μ : hm_M) (hL : hm_LL ν μ) (h : f_X10_isLaw v1 μ = some r) : hm_CC (hm_LL ν) m_X10_isLaw fr 0 0 [.ref 179, .int v1] μ (some (.int r)) μ := by
  refine hm_enter (lv := [some (.ref 179), some (.int v1)]) (by decide) rfl (Nat.le_of_ble_eq_true rfl) ?_
  unfold f_X10_isLaw at h
  refine tr_iload_n (pc' := 1) (show decode cX10_isLaw 0 = .ok (.iload_n 1, 1) by decide +kernel) rfl rfl rfl ?_
  refine tr_iconst (pc' := 2) (v := (-1 : Int32)) (show decode cX10_isLaw 1 = .ok (.iconst (-1), 1) by decide +kernel) rfl (by decide) ?_
  refine tr_aload_n (pc' := 3) (show decode cX10_isLaw 2 = .ok (.aload_n 0, 1) by decide +kernel) rfl rfl rfl ?_
  refine tr_getR (pc' := 6) fl_HandRingModel_24 (show decode cX10_isLaw 3 = .ok (.getfield 24, 3) by decide +kernel) rfl (la_o hL (by decide) rfl) (la_r hL 118 rfl) ?_
  refine tr_bipush (pc' := 8) (v := (56 : Int32)) (show decode cX10_isLaw 6 = .ok (.bipush 56, 2) by decide +kernel) rfl (by decide) ?_
  obtain ⟨x2, ex2, h⟩ := hm_bs h
  refine tp_ldI (pc' := 9) (show decode cX10_isLaw 8 = .ok (.iaload, 1) by decide +kernel) rfl (la_a hL (by decide) rfl) ex2 ?_
  refine tr_iconst (pc' := 10) (v := (1 : Int32)) (show decode cX10_isLaw 9 = .ok (.iconst 1, 1) by decide +kernel) rfl (by decide) ?_
  refine tr_isub (pc' := 11) (show decode cX10_isLaw 10 = .ok (.isub, 1) by decide +kernel) rfl ?_
  obtain ⟨x3, ex3, h⟩ := hm_bs h
  have cx3 := ok_X10_lies (fr := fr - 1) (ν := ν) (by omega) v1 (-1 : Int32) (x2 - (1 : Int32)) μ hL ex3
  refine tp_callS (pc' := 14) (As := [.int v1, .int (-1 : Int32), .int (x2 - (1 : Int32))]) (fr1 := fr - 1) okm_X10_lies lk_HandRingModel_108 (show decode cX10_isLaw 11 = .ok (.invokestatic 108, 3) by decide +kernel) rfl rfl rfl (Nat.le_of_ble_eq_true rfl) (by omega) cx3 (st' := [.int x3]) rfl ?_
  exact tp_zret rfl (show decode cX10_isLaw 14 = .ok (.ireturn, 1) by decide +kernel) h hL
def f_X10_force (v1 : Int32) (μ : hm_M) : Option (Int32 × hm_M) :=
  Option.bind (f_X10_isLaw v1 μ) fun x2 =>
  (if x2 = 0 then
  hm_b2 (f_X10_refuses (-2 : Int32) μ) fun x7 μ8 =>
  some (x7, μ8)
  else
  Option.bind (hm_ld μ 181 5665 (57 : Int32)) fun x3 =>
  Option.bind (hm_sd μ 181 5665 (57 : Int32) v1) fun μ4 =>
  hm_b2 (f_X10_good x3 μ4) fun x5 μ6 =>
  some (x5, μ6))
set_option maxRecDepth 100000 in
theorem ok_X10_force {fr : Nat} (hfr : 2 ≤ fr) {ν : hm_N} {r : Int32} {μR : hm_M}  (v1 : Int32)  (μ : hm_M) (hL : hm_LL ν μ) (h : f_X10_force v1 μ = some (r, μR)) : hm_CC (hm_LL ν) m_X10_force fr 0 0 [.ref 179, .int v1] μ (some (.int r)) μR := by
  refine hm_enter (lv := [some (.ref 179), some (.int v1), none]) (by decide) rfl (Nat.le_of_ble_eq_true rfl) ?_
  unfold f_X10_force at h
  refine tr_aload_n (pc' := 1) (show decode cX10_force 0 = .ok (.aload_n 0, 1) by decide +kernel) rfl rfl rfl ?_
  refine tr_iload_n (pc' := 2) (show decode cX10_force 1 = .ok (.iload_n 1, 1) by decide +kernel) rfl rfl rfl ?_
  obtain ⟨x2, ex2, h⟩ := hm_bs h
  have cx2 := ok_X10_isLaw (fr := fr - 1) (ν := ν) (by omega) v1 μ hL ex2
  refine tp_callV (pc' := 5) (As := [.int v1]) (fr1 := fr - 1) (ci := 10) okm_X10_isLaw lk_HandRingModel_268 (show decode cX10_force 2 = .ok (.invokevirtual 268, 3) by decide +kernel) rfl rfl rfl (by decide) (la_o hL (by decide) rfl) rfl rfl (Nat.le_of_ble_eq_true rfl) (by omega) cx2 (st' := [.int x2]) rfl ?_
  rcases hm_is h with ⟨hc, h⟩ | ⟨hc, h⟩
  · refine tr_if_ne_f (tgt := 15) (pc' := 8) hc (show decode cX10_force 5 = .ok (.ifCond .ne 10, 3) by decide +kernel) (by decide) rfl ?_
    refine tr_aload_n (pc' := 9) (show decode cX10_force 8 = .ok (.aload_n 0, 1) by decide +kernel) rfl rfl rfl ?_
    refine tr_bipush (pc' := 11) (v := (-2 : Int32)) (show decode cX10_force 9 = .ok (.bipush (-2), 2) by decide +kernel) rfl (by decide) ?_
    obtain ⟨x7, μ8, ex7, h⟩ := hm_b2s h
    have cx7 := ok_X10_refuses (fr := fr - 1) (ν := ν) (by omega) (-2 : Int32) μ hL ex7
    refine tp_callV (pc' := 14) (As := [.int (-2 : Int32)]) (fr1 := fr - 1) (ci := 10) okm_X10_refuses lk_HandRingModel_112 (show decode cX10_force 11 = .ok (.invokevirtual 112, 3) by decide +kernel) rfl rfl rfl (by decide) (la_o hL (by decide) rfl) rfl rfl (Nat.le_of_ble_eq_true rfl) (by omega) cx7 (st' := [.int x7]) rfl ?_
    replace hL := cx7.1
    cases h
    exact tr_iret rfl (show decode cX10_force 14 = .ok (.ireturn, 1) by decide +kernel) hL
  · refine tr_if_ne_t (tgt := 15) hc (show decode cX10_force 5 = .ok (.ifCond .ne 10, 3) by decide +kernel) (by decide) ?_
    refine tr_aload_n (pc' := 16) (show decode cX10_force 15 = .ok (.aload_n 0, 1) by decide +kernel) rfl rfl rfl ?_
    refine tr_getR (pc' := 19) fl_HandRingModel_24 (show decode cX10_force 16 = .ok (.getfield 24, 3) by decide +kernel) rfl (la_o hL (by decide) rfl) (la_r hL 118 rfl) ?_
    refine tr_bipush (pc' := 21) (v := (57 : Int32)) (show decode cX10_force 19 = .ok (.bipush 57, 2) by decide +kernel) rfl (by decide) ?_
    obtain ⟨x3, ex3, h⟩ := hm_bs h
    refine tp_ldI (pc' := 22) (show decode cX10_force 21 = .ok (.iaload, 1) by decide +kernel) rfl (la_a hL (by decide) rfl) ex3 ?_
    refine tr_istore_n (pc' := 23) (lv' := [some (.ref 179), some (.int v1), some (.int x3)]) (show decode cX10_force 22 = .ok (.istore_n 2, 1) by decide +kernel) rfl rfl (Nat.le_of_ble_eq_true rfl) rfl rfl ?_
    refine tr_aload_n (pc' := 24) (show decode cX10_force 23 = .ok (.aload_n 0, 1) by decide +kernel) rfl rfl rfl ?_
    refine tr_getR (pc' := 27) fl_HandRingModel_24 (show decode cX10_force 24 = .ok (.getfield 24, 3) by decide +kernel) rfl (la_o hL (by decide) rfl) (la_r hL 118 rfl) ?_
    refine tr_bipush (pc' := 29) (v := (57 : Int32)) (show decode cX10_force 27 = .ok (.bipush 57, 2) by decide +kernel) rfl (by decide) ?_
    refine tr_iload_n (pc' := 30) (show decode cX10_force 29 = .ok (.iload_n 1, 1) by decide +kernel) rfl rfl rfl ?_
    obtain ⟨μ4, eμ4, h⟩ := hm_bs h
    refine tp_sdI (pc' := 31) (show decode cX10_force 30 = .ok (.iastore, 1) by decide +kernel) rfl (la_a hL (by decide) rfl) eμ4 ?_
    replace hL := hL.same (hm_sd_s eμ4)
    refine tr_aload_n (pc' := 32) (show decode cX10_force 31 = .ok (.aload_n 0, 1) by decide +kernel) rfl rfl rfl ?_
    refine tr_iload_n (pc' := 33) (show decode cX10_force 32 = .ok (.iload_n 2, 1) by decide +kernel) rfl rfl rfl ?_
    obtain ⟨x5, μ6, ex5, h⟩ := hm_b2s h
    have cx5 := ok_X10_good (fr := fr - 1) (ν := ν) (by omega) x3 μ4 hL ex5
    refine tp_callV (pc' := 36) (As := [.int x3]) (fr1 := fr - 1) (ci := 10) okm_X10_good lk_HandRingModel_14 (show decode cX10_force 33 = .ok (.invokevirtual 14, 3) by decide +kernel) rfl rfl rfl (by decide) (la_o hL (by decide) rfl) rfl rfl (Nat.le_of_ble_eq_true rfl) (by omega) cx5 (st' := [.int x5]) rfl ?_
    replace hL := cx5.1
    cases h
    exact tr_iret rfl (show decode cX10_force 36 = .ok (.ireturn, 1) by decide +kernel) hL
def f_X10_lostInAll_J51 (w16_2 : Int32) (c4 : Int32 → Int32 → hm_M → Option (Int32 × hm_M)) (e65 : Int32 → hm_M → Option (Int32 × hm_M)) (c16 : Int32 → Int32 → hm_M → Option (Int32 × hm_M)) (e59 : Int32 → hm_M → Option (Int32 × hm_M)) (s0 : Int32) (s1 : Int32) (y3 : Int32) (μ1 : hm_M) : Option (Int32 × hm_M) :=
  c16 (s1 + s0) (y3 + (1 : Int32)) μ1
theorem ok_X10_lostInAll_J51 {fr : Nat} (hfr : 89 ≤ fr) {ν : hm_N} {r : Int32} {μR : hm_M}  (w16_2 : Int32) (c4 : Int32 → Int32 → hm_M → Option (Int32 × hm_M)) (e65 : Int32 → hm_M → Option (Int32 × hm_M)) (c16 : Int32 → Int32 → hm_M → Option (Int32 × hm_M)) (e59 : Int32 → hm_M → Option (Int32 × hm_M)) (hc4 : ∀ (y1 : Int32) (y2 : Int32)  (μ1 : hm_M), hm_LL ν μ1 → c4 y1 y2 μ1 = some (r, μR) → hm_T (hm_LL ν) m_X10_lostInAll fr 0 0 (some (.int r)) μR 4 [some (.ref 179), some (.int y1), some (.int y2), none] [] μ1) (he65 : ∀ (y1 : Int32)  (μ1 : hm_M), hm_LL ν μ1 → e65 y1 μ1 = some (r, μR) → hm_T (hm_LL ν) m_X10_lostInAll fr 0 0 (some (.int r)) μR 65 [none, some (.int y1), none, none] [] μ1) (hc16 : ∀ (y1 : Int32) (y3 : Int32)  (μ1 : hm_M), hm_LL ν μ1 → c16 y1 y3 μ1 = some (r, μR) → hm_T (hm_LL ν) m_X10_lostInAll fr 0 0 (some (.int r)) μR 16 [some (.ref 179), some (.int y1), some (.int w16_2), some (.int y3)] [] μ1) (he59 : ∀ (y1 : Int32)  (μ1 : hm_M), hm_LL ν μ1 → e59 y1 μ1 = some (r, μR) → hm_T (hm_LL ν) m_X10_lostInAll fr 0 0 (some (.int r)) μR 59 [some (.ref 179), some (.int y1), some (.int w16_2), none] [] μ1)  (s0 : Int32) (s1 : Int32) (y3 : Int32) (μ1 : hm_M) (hL : hm_LL ν μ1) (h : f_X10_lostInAll_J51 w16_2 c4 e65 c16 e59 s0 s1 y3 μ1 = some (r, μR)) : hm_T (hm_LL ν) m_X10_lostInAll fr 0 0 (some (.int r)) μR 51 [some (.ref 179), none, some (.int w16_2), some (.int y3)] [.int s0, .int s1] μ1 := by
  unfold f_X10_lostInAll_J51 at h
  refine tr_iadd (pc' := 52) (show decode cX10_lostInAll 51 = .ok (.iadd, 1) by decide +kernel) rfl ?_
  refine tr_istore_n (pc' := 53) (lv' := [some (.ref 179), some (.int (s1 + s0)), some (.int w16_2), some (.int y3)]) (show decode cX10_lostInAll 52 = .ok (.istore_n 1, 1) by decide +kernel) rfl rfl (Nat.le_of_ble_eq_true rfl) rfl rfl ?_
  refine tr_iinc (pc' := 56) (v := y3 + (1 : Int32)) (lv' := [some (.ref 179), some (.int (s1 + s0)), some (.int w16_2), some (.int (y3 + (1 : Int32)))]) (show decode cX10_lostInAll 53 = .ok (.iinc 3 1, 3) by decide +kernel) rfl rfl rfl (Nat.le_of_ble_eq_true rfl) rfl rfl ?_
  refine tr_goto (tgt := 16) (show decode cX10_lostInAll 56 = .ok (.goto (-40), 3) by decide +kernel) rfl ?_
  exact hc16 (s1 + s0) (y3 + (1 : Int32)) μ1 hL h
def f_X10_lostInAll_L16 (w16_2 : Int32) (c4 : Int32 → Int32 → hm_M → Option (Int32 × hm_M)) (e65 : Int32 → hm_M → Option (Int32 × hm_M)) (e59 : Int32 → hm_M → Option (Int32 × hm_M)) : Nat → Int32 → Int32 → hm_M → Option (Int32 × hm_M)
  | 0, _, _, _ => none
  | n + 1, y1, y3, μ1 => Option.bind (f_X10_many μ1) fun x3 =>
  (if x3 ≤ y3 then
  e59 y1 μ1
  else
  Option.bind (hm_ld μ1 181 5665 ((16 : Int32) + w16_2)) fun x4 =>
  Option.bind (f_X10_isIn x4 y3) fun x5 =>
  (if x5 = 0 then
  f_X10_lostInAll_J51 w16_2 c4 e65 (f_X10_lostInAll_L16 w16_2 c4 e65 e59 n) e59 (0 : Int32) y1 y3 μ1
  else
  hm_b2 (f_X10_lostOf w16_2 y3 μ1) fun x6 μ7 =>
  f_X10_lostInAll_J51 w16_2 c4 e65 (f_X10_lostInAll_L16 w16_2 c4 e65 e59 n) e59 x6 y1 y3 μ7))
theorem ok_X10_lostInAll_L16 {fr : Nat} (hfr : 89 ≤ fr) {ν : hm_N} {r : Int32} {μR : hm_M}  (w16_2 : Int32) (c4 : Int32 → Int32 → hm_M → Option (Int32 × hm_M)) (e65 : Int32 → hm_M → Option (Int32 × hm_M)) (e59 : Int32 → hm_M → Option (Int32 × hm_M)) (hc4 : ∀ (y1 : Int32) (y2 : Int32)  (μ1 : hm_M), hm_LL ν μ1 → c4 y1 y2 μ1 = some (r, μR) → hm_T (hm_LL ν) m_X10_lostInAll fr 0 0 (some (.int r)) μR 4 [some (.ref 179), some (.int y1), some (.int y2), none] [] μ1) (he65 : ∀ (y1 : Int32)  (μ1 : hm_M), hm_LL ν μ1 → e65 y1 μ1 = some (r, μR) → hm_T (hm_LL ν) m_X10_lostInAll fr 0 0 (some (.int r)) μR 65 [none, some (.int y1), none, none] [] μ1) (he59 : ∀ (y1 : Int32)  (μ1 : hm_M), hm_LL ν μ1 → e59 y1 μ1 = some (r, μR) → hm_T (hm_LL ν) m_X10_lostInAll fr 0 0 (some (.int r)) μR 59 [some (.ref 179), some (.int y1), some (.int w16_2), none] [] μ1)  : ∀ (n : Nat) (y1 : Int32) (y3 : Int32)  (μ1 : hm_M), hm_LL ν μ1 → f_X10_lostInAll_L16 w16_2 c4 e65 e59 n y1 y3 μ1 = some (r, μR) → hm_T (hm_LL ν) m_X10_lostInAll fr 0 0 (some (.int r)) μR 16 [some (.ref 179), some (.int y1), some (.int w16_2), some (.int y3)] [] μ1 := by
  intro n
  induction n with
  | zero =>
    intro y1 y3 μ1 hL h
    unfold f_X10_lostInAll_L16 at h
    cases h
  | succ n ih =>
    intro y1 y3 μ1 hL h
    unfold f_X10_lostInAll_L16 at h
    refine tr_iload_n (pc' := 17) (show decode cX10_lostInAll 16 = .ok (.iload_n 3, 1) by decide +kernel) rfl rfl rfl ?_
    refine tr_aload_n (pc' := 18) (show decode cX10_lostInAll 17 = .ok (.aload_n 0, 1) by decide +kernel) rfl rfl rfl ?_
    obtain ⟨x3, ex3, h⟩ := hm_bs h
    have cx3 := ok_X10_many (fr := fr - 1) (ν := ν) (by omega) μ1 hL ex3
    refine tp_callV (pc' := 21) (As := []) (fr1 := fr - 1) (ci := 10) okm_X10_many lk_HandRingModel_118 (show decode cX10_lostInAll 18 = .ok (.invokevirtual 118, 3) by decide +kernel) rfl rfl rfl (by decide) (la_o hL (by decide) rfl) rfl rfl (Nat.le_of_ble_eq_true rfl) (by omega) cx3 (st' := [.int x3, .int y3]) rfl ?_
    rcases hm_is h with ⟨hc, h⟩ | ⟨hc, h⟩
    · refine tr_icmp_ge_t (tgt := 59) hc (show decode cX10_lostInAll 21 = .ok (.if_icmp .ge 38, 3) by decide +kernel) (by decide) ?_
      refine hm_fgt [true, true, true, false] (lv' := [some (.ref 179), some (.int y1), some (.int w16_2), none]) rfl ?_
      exact he59 y1 μ1 hL h
    · refine tr_icmp_ge_f (tgt := 59) (pc' := 24) hc (show decode cX10_lostInAll 21 = .ok (.if_icmp .ge 38, 3) by decide +kernel) (by decide) rfl ?_
      refine tr_iload_n (pc' := 25) (show decode cX10_lostInAll 24 = .ok (.iload_n 1, 1) by decide +kernel) rfl rfl rfl ?_
      refine tr_aload_n (pc' := 26) (show decode cX10_lostInAll 25 = .ok (.aload_n 0, 1) by decide +kernel) rfl rfl rfl ?_
      refine tr_getR (pc' := 29) fl_HandRingModel_24 (show decode cX10_lostInAll 26 = .ok (.getfield 24, 3) by decide +kernel) rfl (la_o hL (by decide) rfl) (la_r hL 118 rfl) ?_
      refine tr_bipush (pc' := 31) (v := (16 : Int32)) (show decode cX10_lostInAll 29 = .ok (.bipush 16, 2) by decide +kernel) rfl (by decide) ?_
      refine tr_iload_n (pc' := 32) (show decode cX10_lostInAll 31 = .ok (.iload_n 2, 1) by decide +kernel) rfl rfl rfl ?_
      refine tr_iadd (pc' := 33) (show decode cX10_lostInAll 32 = .ok (.iadd, 1) by decide +kernel) rfl ?_
      obtain ⟨x4, ex4, h⟩ := hm_bs h
      refine tp_ldI (pc' := 34) (show decode cX10_lostInAll 33 = .ok (.iaload, 1) by decide +kernel) rfl (la_a hL (by decide) rfl) ex4 ?_
      refine tr_iload_n (pc' := 35) (show decode cX10_lostInAll 34 = .ok (.iload_n 3, 1) by decide +kernel) rfl rfl rfl ?_
      obtain ⟨x5, ex5, h⟩ := hm_bs h
      have cx5 := ok_X10_isIn (fr := fr - 1) (ν := ν) (by omega) x4 y3 μ1 hL ex5
      refine tp_callS (pc' := 38) (As := [.int x4, .int y3]) (fr1 := fr - 1) okm_X10_isIn lk_HandRingModel_356 (show decode cX10_lostInAll 35 = .ok (.invokestatic 356, 3) by decide +kernel) rfl rfl rfl (Nat.le_of_ble_eq_true rfl) (by omega) cx5 (st' := [.int x5, .int y1]) rfl ?_
      rcases hm_is h with ⟨hc, h⟩ | ⟨hc, h⟩
      · refine tr_if_eq_t (tgt := 50) hc (show decode cX10_lostInAll 38 = .ok (.ifCond .eq 12, 3) by decide +kernel) (by decide) ?_
        refine tr_iconst (pc' := 51) (v := (0 : Int32)) (show decode cX10_lostInAll 50 = .ok (.iconst 0, 1) by decide +kernel) rfl (by decide) ?_
        refine hm_fgt [true, false, true, true] (lv' := [some (.ref 179), none, some (.int w16_2), some (.int y3)]) rfl ?_
        exact ok_X10_lostInAll_J51 hfr w16_2 c4 e65 (f_X10_lostInAll_L16 w16_2 c4 e65 e59 n) e59 hc4 he65 ih he59 (0 : Int32) y1 y3 μ1 hL h
      · refine tr_if_eq_f (tgt := 50) (pc' := 41) hc (show decode cX10_lostInAll 38 = .ok (.ifCond .eq 12, 3) by decide +kernel) (by decide) rfl ?_
        refine tr_aload_n (pc' := 42) (show decode cX10_lostInAll 41 = .ok (.aload_n 0, 1) by decide +kernel) rfl rfl rfl ?_
        refine tr_iload_n (pc' := 43) (show decode cX10_lostInAll 42 = .ok (.iload_n 2, 1) by decide +kernel) rfl rfl rfl ?_
        refine tr_iload_n (pc' := 44) (show decode cX10_lostInAll 43 = .ok (.iload_n 3, 1) by decide +kernel) rfl rfl rfl ?_
        obtain ⟨x6, μ7, ex6, h⟩ := hm_b2s h
        have cx6 := ok_X10_lostOf (fr := fr - 1) (ν := ν) (by omega) w16_2 y3 μ1 hL ex6
        refine tp_callV (pc' := 47) (As := [.int w16_2, .int y3]) (fr1 := fr - 1) (ci := 10) okm_X10_lostOf lk_HandRingModel_150 (show decode cX10_lostInAll 44 = .ok (.invokevirtual 150, 3) by decide +kernel) rfl rfl rfl (by decide) (la_o hL (by decide) rfl) rfl rfl (Nat.le_of_ble_eq_true rfl) (by omega) cx6 (st' := [.int x6, .int y1]) rfl ?_
        replace hL := cx6.1
        refine tr_goto (tgt := 51) (show decode cX10_lostInAll 47 = .ok (.goto 4, 3) by decide +kernel) rfl ?_
        refine hm_fgt [true, false, true, true] (lv' := [some (.ref 179), none, some (.int w16_2), some (.int y3)]) rfl ?_
        exact ok_X10_lostInAll_J51 hfr w16_2 c4 e65 (f_X10_lostInAll_L16 w16_2 c4 e65 e59 n) e59 hc4 he65 ih he59 x6 y1 y3 μ7 hL h
def f_X10_lostInAll_L4 (e65 : Int32 → hm_M → Option (Int32 × hm_M)) : Nat → Int32 → Int32 → hm_M → Option (Int32 × hm_M)
  | 0, _, _, _ => none
  | n + 1, y1, y2, μ1 => Option.bind (f_X10_many μ1) fun x2 =>
  (if x2 ≤ y2 then
  e65 y1 μ1
  else
  f_X10_lostInAll_L16 y2 (f_X10_lostInAll_L4 e65 n) e65 (fun z8_1 μz8 => (f_X10_lostInAll_L4 e65 n) z8_1 (y2 + (1 : Int32)) μz8) hm_fu y1 (y2 + (1 : Int32)) μ1)
theorem ok_X10_lostInAll_L4 {fr : Nat} (hfr : 89 ≤ fr) {ν : hm_N} {r : Int32} {μR : hm_M}   (e65 : Int32 → hm_M → Option (Int32 × hm_M))  (he65 : ∀ (y1 : Int32)  (μ1 : hm_M), hm_LL ν μ1 → e65 y1 μ1 = some (r, μR) → hm_T (hm_LL ν) m_X10_lostInAll fr 0 0 (some (.int r)) μR 65 [none, some (.int y1), none, none] [] μ1)  : ∀ (n : Nat) (y1 : Int32) (y2 : Int32)  (μ1 : hm_M), hm_LL ν μ1 → f_X10_lostInAll_L4 e65 n y1 y2 μ1 = some (r, μR) → hm_T (hm_LL ν) m_X10_lostInAll fr 0 0 (some (.int r)) μR 4 [some (.ref 179), some (.int y1), some (.int y2), none] [] μ1 := by
  intro n
  induction n with
  | zero =>
    intro y1 y2 μ1 hL h
    unfold f_X10_lostInAll_L4 at h
    cases h
  | succ n ih =>
    intro y1 y2 μ1 hL h
    unfold f_X10_lostInAll_L4 at h
    refine tr_iload_n (pc' := 5) (show decode cX10_lostInAll 4 = .ok (.iload_n 2, 1) by decide +kernel) rfl rfl rfl ?_
    refine tr_aload_n (pc' := 6) (show decode cX10_lostInAll 5 = .ok (.aload_n 0, 1) by decide +kernel) rfl rfl rfl ?_
    obtain ⟨x2, ex2, h⟩ := hm_bs h
    have cx2 := ok_X10_many (fr := fr - 1) (ν := ν) (by omega) μ1 hL ex2
    refine tp_callV (pc' := 9) (As := []) (fr1 := fr - 1) (ci := 10) okm_X10_many lk_HandRingModel_118 (show decode cX10_lostInAll 6 = .ok (.invokevirtual 118, 3) by decide +kernel) rfl rfl rfl (by decide) (la_o hL (by decide) rfl) rfl rfl (Nat.le_of_ble_eq_true rfl) (by omega) cx2 (st' := [.int x2, .int y2]) rfl ?_
    rcases hm_is h with ⟨hc, h⟩ | ⟨hc, h⟩
    · refine tr_icmp_ge_t (tgt := 65) hc (show decode cX10_lostInAll 9 = .ok (.if_icmp .ge 56, 3) by decide +kernel) (by decide) ?_
      refine hm_fgt [false, true, false, false] (lv' := [none, some (.int y1), none, none]) rfl ?_
      exact he65 y1 μ1 hL h
    · refine tr_icmp_ge_f (tgt := 65) (pc' := 12) hc (show decode cX10_lostInAll 9 = .ok (.if_icmp .ge 56, 3) by decide +kernel) (by decide) rfl ?_
      refine tr_iload_n (pc' := 13) (show decode cX10_lostInAll 12 = .ok (.iload_n 2, 1) by decide +kernel) rfl rfl rfl ?_
      refine tr_iconst (pc' := 14) (v := (1 : Int32)) (show decode cX10_lostInAll 13 = .ok (.iconst 1, 1) by decide +kernel) rfl (by decide) ?_
      refine tr_iadd (pc' := 15) (show decode cX10_lostInAll 14 = .ok (.iadd, 1) by decide +kernel) rfl ?_
      refine tr_istore_n (pc' := 16) (lv' := [some (.ref 179), some (.int y1), some (.int y2), some (.int (y2 + (1 : Int32)))]) (show decode cX10_lostInAll 15 = .ok (.istore_n 3, 1) by decide +kernel) rfl rfl (Nat.le_of_ble_eq_true rfl) rfl rfl ?_
      refine ok_X10_lostInAll_L16 hfr y2 (f_X10_lostInAll_L4 e65 n) e65 _ ih he65 ?_ _ y1 (y2 + (1 : Int32)) μ1 hL h
      · intro z8_1 μz8 hL h
        refine tr_iinc (pc' := 62) (v := y2 + (1 : Int32)) (lv' := [some (.ref 179), some (.int z8_1), some (.int (y2 + (1 : Int32))), none]) (show decode cX10_lostInAll 59 = .ok (.iinc 2 1, 3) by decide +kernel) rfl rfl rfl (Nat.le_of_ble_eq_true rfl) rfl rfl ?_
        refine tr_goto (tgt := 4) (show decode cX10_lostInAll 62 = .ok (.goto (-58), 3) by decide +kernel) rfl ?_
        exact ih z8_1 (y2 + (1 : Int32)) μz8 hL h
def f_X10_lostInAll (μ : hm_M) : Option (Int32 × hm_M) :=
  f_X10_lostInAll_L4 (fun z9_1 μz9 => some (z9_1, μz9)) hm_fu (0 : Int32) (0 : Int32) μ
set_option maxRecDepth 100000 in
theorem ok_X10_lostInAll {fr : Nat} (hfr : 89 ≤ fr) {ν : hm_N} {r : Int32} {μR : hm_M}    (μ : hm_M) (hL : hm_LL ν μ) (h : f_X10_lostInAll μ = some (r, μR)) : hm_CC (hm_LL ν) m_X10_lostInAll fr 0 0 [.ref 179] μ (some (.int r)) μR := by
  refine hm_enter (lv := [some (.ref 179), none, none, none]) (by decide) rfl (Nat.le_of_ble_eq_true rfl) ?_
  unfold f_X10_lostInAll at h
  refine tr_iconst (pc' := 1) (v := (0 : Int32)) (show decode cX10_lostInAll 0 = .ok (.iconst 0, 1) by decide +kernel) rfl (by decide) ?_
  refine tr_istore_n (pc' := 2) (lv' := [some (.ref 179), some (.int (0 : Int32)), none, none]) (show decode cX10_lostInAll 1 = .ok (.istore_n 1, 1) by decide +kernel) rfl rfl (Nat.le_of_ble_eq_true rfl) rfl rfl ?_
  refine tr_iconst (pc' := 3) (v := (0 : Int32)) (show decode cX10_lostInAll 2 = .ok (.iconst 0, 1) by decide +kernel) rfl (by decide) ?_
  refine tr_istore_n (pc' := 4) (lv' := [some (.ref 179), some (.int (0 : Int32)), some (.int (0 : Int32)), none]) (show decode cX10_lostInAll 3 = .ok (.istore_n 2, 1) by decide +kernel) rfl rfl (Nat.le_of_ble_eq_true rfl) rfl rfl ?_
  refine ok_X10_lostInAll_L4 hfr _ ?_ _ (0 : Int32) (0 : Int32) μ hL h
  · intro z9_1 μz9 hL h
    refine tr_iload_n (pc' := 66) (show decode cX10_lostInAll 65 = .ok (.iload_n 1, 1) by decide +kernel) rfl rfl rfl ?_
    cases h
    exact tr_iret rfl (show decode cX10_lostInAll 66 = .ok (.ireturn, 1) by decide +kernel) hL
def f_X10_canTake (v1 : Int32) (v2 : Int32) (μ : hm_M) : Option (Int32 × hm_M) :=
  (if v1 = v2 then
  some ((0 : Int32), μ)
  else
  Option.bind (hm_ld μ 181 5665 ((16 : Int32) + v1)) fun x2 =>
  Option.bind (f_X10_isIn x2 v2) fun x3 =>
  (if x3 = 0 then
  Option.bind (hm_ld μ 181 5665 ((16 : Int32) + v1)) fun x4 =>
  Option.bind (f_X10_ones x4) fun x5 =>
  (if (2 : Int32) ≤ x5 then
  some ((0 : Int32), μ)
  else
  Option.bind (hm_ld μ 181 5665 ((16 : Int32) + v2)) fun x6 =>
  Option.bind (f_X10_ones x6) fun x7 =>
  (if (2 : Int32) ≤ x7 then
  some ((0 : Int32), μ)
  else
  hm_b2 (f_X10_canHold v1 v2 μ) fun x8 μ9 =>
  (if x8 = 0 then
  some ((0 : Int32), μ9)
  else
  some ((1 : Int32), μ9))))
  else
  some ((0 : Int32), μ)))
set_option maxRecDepth 100000 in
theorem ok_X10_canTake {fr : Nat} (hfr : 90 ≤ fr) {ν : hm_N} {r : Int32} {μR : hm_M}  (v1 : Int32) (v2 : Int32)  (μ : hm_M) (hL : hm_LL ν μ) (h : f_X10_canTake v1 v2 μ = some (r, μR)) : hm_CC (hm_LL ν) m_X10_canTake fr 0 0 [.ref 179, .int v1, .int v2] μ (some (.int r)) μR := by
  refine hm_enter (lv := [some (.ref 179), some (.int v1), some (.int v2)]) (by decide) rfl (Nat.le_of_ble_eq_true rfl) ?_
  unfold f_X10_canTake at h
  refine tr_iload_n (pc' := 1) (show decode cX10_canTake 0 = .ok (.iload_n 1, 1) by decide +kernel) rfl rfl rfl ?_
  refine tr_iload_n (pc' := 2) (show decode cX10_canTake 1 = .ok (.iload_n 2, 1) by decide +kernel) rfl rfl rfl ?_
  rcases hm_is h with ⟨hc, h⟩ | ⟨hc, h⟩
  · refine tr_icmp_eq_t (tgt := 66) hc (show decode cX10_canTake 2 = .ok (.if_icmp .eq 64, 3) by decide +kernel) (by decide) ?_
    refine tr_iconst (pc' := 67) (v := (0 : Int32)) (show decode cX10_canTake 66 = .ok (.iconst 0, 1) by decide +kernel) rfl (by decide) ?_
    cases h
    exact tr_zret rfl (by decide) (show decode cX10_canTake 67 = .ok (.ireturn, 1) by decide +kernel) hL
  · refine tr_icmp_eq_f (tgt := 66) (pc' := 5) hc (show decode cX10_canTake 2 = .ok (.if_icmp .eq 64, 3) by decide +kernel) (by decide) rfl ?_
    refine tr_aload_n (pc' := 6) (show decode cX10_canTake 5 = .ok (.aload_n 0, 1) by decide +kernel) rfl rfl rfl ?_
    refine tr_getR (pc' := 9) fl_HandRingModel_24 (show decode cX10_canTake 6 = .ok (.getfield 24, 3) by decide +kernel) rfl (la_o hL (by decide) rfl) (la_r hL 118 rfl) ?_
    refine tr_bipush (pc' := 11) (v := (16 : Int32)) (show decode cX10_canTake 9 = .ok (.bipush 16, 2) by decide +kernel) rfl (by decide) ?_
    refine tr_iload_n (pc' := 12) (show decode cX10_canTake 11 = .ok (.iload_n 1, 1) by decide +kernel) rfl rfl rfl ?_
    refine tr_iadd (pc' := 13) (show decode cX10_canTake 12 = .ok (.iadd, 1) by decide +kernel) rfl ?_
    obtain ⟨x2, ex2, h⟩ := hm_bs h
    refine tp_ldI (pc' := 14) (show decode cX10_canTake 13 = .ok (.iaload, 1) by decide +kernel) rfl (la_a hL (by decide) rfl) ex2 ?_
    refine tr_iload_n (pc' := 15) (show decode cX10_canTake 14 = .ok (.iload_n 2, 1) by decide +kernel) rfl rfl rfl ?_
    obtain ⟨x3, ex3, h⟩ := hm_bs h
    have cx3 := ok_X10_isIn (fr := fr - 1) (ν := ν) (by omega) x2 v2 μ hL ex3
    refine tp_callS (pc' := 18) (As := [.int x2, .int v2]) (fr1 := fr - 1) okm_X10_isIn lk_HandRingModel_356 (show decode cX10_canTake 15 = .ok (.invokestatic 356, 3) by decide +kernel) rfl rfl rfl (Nat.le_of_ble_eq_true rfl) (by omega) cx3 (st' := [.int x3]) rfl ?_
    rcases hm_is h with ⟨hc, h⟩ | ⟨hc, h⟩
    · refine tr_if_ne_f (tgt := 66) (pc' := 21) hc (show decode cX10_canTake 18 = .ok (.ifCond .ne 48, 3) by decide +kernel) (by decide) rfl ?_
      refine tr_aload_n (pc' := 22) (show decode cX10_canTake 21 = .ok (.aload_n 0, 1) by decide +kernel) rfl rfl rfl ?_
      refine tr_getR (pc' := 25) fl_HandRingModel_24 (show decode cX10_canTake 22 = .ok (.getfield 24, 3) by decide +kernel) rfl (la_o hL (by decide) rfl) (la_r hL 118 rfl) ?_
      refine tr_bipush (pc' := 27) (v := (16 : Int32)) (show decode cX10_canTake 25 = .ok (.bipush 16, 2) by decide +kernel) rfl (by decide) ?_
      refine tr_iload_n (pc' := 28) (show decode cX10_canTake 27 = .ok (.iload_n 1, 1) by decide +kernel) rfl rfl rfl ?_
      refine tr_iadd (pc' := 29) (show decode cX10_canTake 28 = .ok (.iadd, 1) by decide +kernel) rfl ?_
      obtain ⟨x4, ex4, h⟩ := hm_bs h
      refine tp_ldI (pc' := 30) (show decode cX10_canTake 29 = .ok (.iaload, 1) by decide +kernel) rfl (la_a hL (by decide) rfl) ex4 ?_
      obtain ⟨x5, ex5, h⟩ := hm_bs h
      have cx5 := ok_X10_ones (fr := fr - 1) (ν := ν) (by omega) x4 μ hL ex5
      refine tp_callS (pc' := 33) (As := [.int x4]) (fr1 := fr - 1) okm_X10_ones lk_HandRingModel_310 (show decode cX10_canTake 30 = .ok (.invokestatic 310, 3) by decide +kernel) rfl rfl rfl (Nat.le_of_ble_eq_true rfl) (by omega) cx5 (st' := [.int x5]) rfl ?_
      refine tr_iconst (pc' := 34) (v := (2 : Int32)) (show decode cX10_canTake 33 = .ok (.iconst 2, 1) by decide +kernel) rfl (by decide) ?_
      rcases hm_is h with ⟨hc, h⟩ | ⟨hc, h⟩
      · refine tr_icmp_ge_t (tgt := 66) hc (show decode cX10_canTake 34 = .ok (.if_icmp .ge 32, 3) by decide +kernel) (by decide) ?_
        refine tr_iconst (pc' := 67) (v := (0 : Int32)) (show decode cX10_canTake 66 = .ok (.iconst 0, 1) by decide +kernel) rfl (by decide) ?_
        cases h
        exact tr_zret rfl (by decide) (show decode cX10_canTake 67 = .ok (.ireturn, 1) by decide +kernel) hL
      · refine tr_icmp_ge_f (tgt := 66) (pc' := 37) hc (show decode cX10_canTake 34 = .ok (.if_icmp .ge 32, 3) by decide +kernel) (by decide) rfl ?_
        refine tr_aload_n (pc' := 38) (show decode cX10_canTake 37 = .ok (.aload_n 0, 1) by decide +kernel) rfl rfl rfl ?_
        refine tr_getR (pc' := 41) fl_HandRingModel_24 (show decode cX10_canTake 38 = .ok (.getfield 24, 3) by decide +kernel) rfl (la_o hL (by decide) rfl) (la_r hL 118 rfl) ?_
        refine tr_bipush (pc' := 43) (v := (16 : Int32)) (show decode cX10_canTake 41 = .ok (.bipush 16, 2) by decide +kernel) rfl (by decide) ?_
        refine tr_iload_n (pc' := 44) (show decode cX10_canTake 43 = .ok (.iload_n 2, 1) by decide +kernel) rfl rfl rfl ?_
        refine tr_iadd (pc' := 45) (show decode cX10_canTake 44 = .ok (.iadd, 1) by decide +kernel) rfl ?_
        obtain ⟨x6, ex6, h⟩ := hm_bs h
        refine tp_ldI (pc' := 46) (show decode cX10_canTake 45 = .ok (.iaload, 1) by decide +kernel) rfl (la_a hL (by decide) rfl) ex6 ?_
        obtain ⟨x7, ex7, h⟩ := hm_bs h
        have cx7 := ok_X10_ones (fr := fr - 1) (ν := ν) (by omega) x6 μ hL ex7
        refine tp_callS (pc' := 49) (As := [.int x6]) (fr1 := fr - 1) okm_X10_ones lk_HandRingModel_310 (show decode cX10_canTake 46 = .ok (.invokestatic 310, 3) by decide +kernel) rfl rfl rfl (Nat.le_of_ble_eq_true rfl) (by omega) cx7 (st' := [.int x7]) rfl ?_
        refine tr_iconst (pc' := 50) (v := (2 : Int32)) (show decode cX10_canTake 49 = .ok (.iconst 2, 1) by decide +kernel) rfl (by decide) ?_
        rcases hm_is h with ⟨hc, h⟩ | ⟨hc, h⟩
        · refine tr_icmp_ge_t (tgt := 66) hc (show decode cX10_canTake 50 = .ok (.if_icmp .ge 16, 3) by decide +kernel) (by decide) ?_
          refine tr_iconst (pc' := 67) (v := (0 : Int32)) (show decode cX10_canTake 66 = .ok (.iconst 0, 1) by decide +kernel) rfl (by decide) ?_
          cases h
          exact tr_zret rfl (by decide) (show decode cX10_canTake 67 = .ok (.ireturn, 1) by decide +kernel) hL
        · refine tr_icmp_ge_f (tgt := 66) (pc' := 53) hc (show decode cX10_canTake 50 = .ok (.if_icmp .ge 16, 3) by decide +kernel) (by decide) rfl ?_
          refine tr_aload_n (pc' := 54) (show decode cX10_canTake 53 = .ok (.aload_n 0, 1) by decide +kernel) rfl rfl rfl ?_
          refine tr_iload_n (pc' := 55) (show decode cX10_canTake 54 = .ok (.iload_n 1, 1) by decide +kernel) rfl rfl rfl ?_
          refine tr_iload_n (pc' := 56) (show decode cX10_canTake 55 = .ok (.iload_n 2, 1) by decide +kernel) rfl rfl rfl ?_
          obtain ⟨x8, μ9, ex8, h⟩ := hm_b2s h
          have cx8 := ok_X10_canHold (fr := fr - 1) (ν := ν) (by omega) v1 v2 μ hL ex8
          refine tp_callV (pc' := 59) (As := [.int v1, .int v2]) (fr1 := fr - 1) (ci := 10) okm_X10_canHold lk_HandRingModel_353 (show decode cX10_canTake 56 = .ok (.invokevirtual 353, 3) by decide +kernel) rfl rfl rfl (by decide) (la_o hL (by decide) rfl) rfl rfl (Nat.le_of_ble_eq_true rfl) (by omega) cx8 (st' := [.int x8]) rfl ?_
          replace hL := cx8.1
          rcases hm_is h with ⟨hc, h⟩ | ⟨hc, h⟩
          · refine tr_if_eq_t (tgt := 66) hc (show decode cX10_canTake 59 = .ok (.ifCond .eq 7, 3) by decide +kernel) (by decide) ?_
            refine tr_iconst (pc' := 67) (v := (0 : Int32)) (show decode cX10_canTake 66 = .ok (.iconst 0, 1) by decide +kernel) rfl (by decide) ?_
            cases h
            exact tr_zret rfl (by decide) (show decode cX10_canTake 67 = .ok (.ireturn, 1) by decide +kernel) hL
          · refine tr_if_eq_f (tgt := 66) (pc' := 62) hc (show decode cX10_canTake 59 = .ok (.ifCond .eq 7, 3) by decide +kernel) (by decide) rfl ?_
            refine tr_iconst (pc' := 63) (v := (1 : Int32)) (show decode cX10_canTake 62 = .ok (.iconst 1, 1) by decide +kernel) rfl (by decide) ?_
            refine tr_goto (tgt := 67) (show decode cX10_canTake 63 = .ok (.goto 4, 3) by decide +kernel) rfl ?_
            cases h
            exact tr_zret rfl (by decide) (show decode cX10_canTake 67 = .ok (.ireturn, 1) by decide +kernel) hL
    · refine tr_if_ne_t (tgt := 66) hc (show decode cX10_canTake 18 = .ok (.ifCond .ne 48, 3) by decide +kernel) (by decide) ?_
      refine tr_iconst (pc' := 67) (v := (0 : Int32)) (show decode cX10_canTake 66 = .ok (.iconst 0, 1) by decide +kernel) rfl (by decide) ?_
      cases h
      exact tr_zret rfl (by decide) (show decode cX10_canTake 67 = .ok (.ireturn, 1) by decide +kernel) hL
def f_X10_changesHold (v1 : Int32) (v2 : Int32) (μ : hm_M) : Option hm_M :=
  Option.bind (hm_ld μ 181 5665 ((16 : Int32) + v1)) fun x2 =>
  Option.bind (hm_sd μ 181 5665 ((16 : Int32) + v1) (x2 ^^^ ((1 : Int32) <<< (v2 &&& 31)))) fun μ3 =>
  Option.bind (hm_ld μ3 181 5665 ((16 : Int32) + v2)) fun x4 =>
  Option.bind (hm_sd μ3 181 5665 ((16 : Int32) + v2) (x4 ^^^ ((1 : Int32) <<< (v1 &&& 31)))) fun μ5 =>
  some μ5
set_option maxRecDepth 100000 in
theorem ok_X10_changesHold {fr : Nat} (hfr : 0 ≤ fr) {ν : hm_N} {μR : hm_M}  (v1 : Int32) (v2 : Int32)  (μ : hm_M) (hL : hm_LL ν μ) (h : f_X10_changesHold v1 v2 μ = some μR) : hm_CC (hm_LL ν) m_X10_changesHold fr 0 0 [.ref 179, .int v1, .int v2] μ none μR := by
  refine hm_enter (lv := [some (.ref 179), some (.int v1), some (.int v2)]) (by decide) rfl (Nat.le_of_ble_eq_true rfl) ?_
  unfold f_X10_changesHold at h
  refine tr_aload_n (pc' := 1) (show decode cX10_changesHold 0 = .ok (.aload_n 0, 1) by decide +kernel) rfl rfl rfl ?_
  refine tr_getR (pc' := 4) fl_HandRingModel_24 (show decode cX10_changesHold 1 = .ok (.getfield 24, 3) by decide +kernel) rfl (la_o hL (by decide) rfl) (la_r hL 118 rfl) ?_
  refine tr_bipush (pc' := 6) (v := (16 : Int32)) (show decode cX10_changesHold 4 = .ok (.bipush 16, 2) by decide +kernel) rfl (by decide) ?_
  refine tr_iload_n (pc' := 7) (show decode cX10_changesHold 6 = .ok (.iload_n 1, 1) by decide +kernel) rfl rfl rfl ?_
  refine tr_iadd (pc' := 8) (show decode cX10_changesHold 7 = .ok (.iadd, 1) by decide +kernel) rfl ?_
  refine tr_dup2 (pc' := 9) (show decode cX10_changesHold 8 = .ok (.dup2, 1) by decide +kernel) rfl rfl rfl ?_
  obtain ⟨x2, ex2, h⟩ := hm_bs h
  refine tp_ldI (pc' := 10) (show decode cX10_changesHold 9 = .ok (.iaload, 1) by decide +kernel) rfl (la_a hL (by decide) rfl) ex2 ?_
  refine tr_iconst (pc' := 11) (v := (1 : Int32)) (show decode cX10_changesHold 10 = .ok (.iconst 1, 1) by decide +kernel) rfl (by decide) ?_
  refine tr_iload_n (pc' := 12) (show decode cX10_changesHold 11 = .ok (.iload_n 2, 1) by decide +kernel) rfl rfl rfl ?_
  refine tr_ishl (pc' := 13) (show decode cX10_changesHold 12 = .ok (.ishl, 1) by decide +kernel) rfl ?_
  refine tr_ixor (pc' := 14) (show decode cX10_changesHold 13 = .ok (.ixor, 1) by decide +kernel) rfl ?_
  obtain ⟨μ3, eμ3, h⟩ := hm_bs h
  refine tp_sdI (pc' := 15) (show decode cX10_changesHold 14 = .ok (.iastore, 1) by decide +kernel) rfl (la_a hL (by decide) rfl) eμ3 ?_
  replace hL := hL.same (hm_sd_s eμ3)
  refine tr_aload_n (pc' := 16) (show decode cX10_changesHold 15 = .ok (.aload_n 0, 1) by decide +kernel) rfl rfl rfl ?_
  refine tr_getR (pc' := 19) fl_HandRingModel_24 (show decode cX10_changesHold 16 = .ok (.getfield 24, 3) by decide +kernel) rfl (la_o hL (by decide) rfl) (la_r hL 118 rfl) ?_
  refine tr_bipush (pc' := 21) (v := (16 : Int32)) (show decode cX10_changesHold 19 = .ok (.bipush 16, 2) by decide +kernel) rfl (by decide) ?_
  refine tr_iload_n (pc' := 22) (show decode cX10_changesHold 21 = .ok (.iload_n 2, 1) by decide +kernel) rfl rfl rfl ?_
  refine tr_iadd (pc' := 23) (show decode cX10_changesHold 22 = .ok (.iadd, 1) by decide +kernel) rfl ?_
  refine tr_dup2 (pc' := 24) (show decode cX10_changesHold 23 = .ok (.dup2, 1) by decide +kernel) rfl rfl rfl ?_
  obtain ⟨x4, ex4, h⟩ := hm_bs h
  refine tp_ldI (pc' := 25) (show decode cX10_changesHold 24 = .ok (.iaload, 1) by decide +kernel) rfl (la_a hL (by decide) rfl) ex4 ?_
  refine tr_iconst (pc' := 26) (v := (1 : Int32)) (show decode cX10_changesHold 25 = .ok (.iconst 1, 1) by decide +kernel) rfl (by decide) ?_
  refine tr_iload_n (pc' := 27) (show decode cX10_changesHold 26 = .ok (.iload_n 1, 1) by decide +kernel) rfl rfl rfl ?_
  refine tr_ishl (pc' := 28) (show decode cX10_changesHold 27 = .ok (.ishl, 1) by decide +kernel) rfl ?_
  refine tr_ixor (pc' := 29) (show decode cX10_changesHold 28 = .ok (.ixor, 1) by decide +kernel) rfl ?_
  obtain ⟨μ5, eμ5, h⟩ := hm_bs h
  refine tp_sdI (pc' := 30) (show decode cX10_changesHold 29 = .ok (.iastore, 1) by decide +kernel) rfl (la_a hL (by decide) rfl) eμ5 ?_
  replace hL := hL.same (hm_sd_s eμ5)
  cases h
  exact tr_vret rfl (show decode cX10_changesHold 30 = .ok (.return_, 1) by decide +kernel) hL
def f_X10_loosesAll_J61 (w16_2 : Int32) (c4 : Int32 → Int32 → hm_M → Option (Int32 × hm_M)) (e73 : Int32 → hm_M → Option (Int32 × hm_M)) (c16 : Int32 → Int32 → hm_M → Option (Int32 × hm_M)) (e67 : Int32 → hm_M → Option (Int32 × hm_M)) (y1 : Int32) (y3 : Int32) (μ1 : hm_M) : Option (Int32 × hm_M) :=
  c16 y1 (y3 + (1 : Int32)) μ1
theorem ok_X10_loosesAll_J61 {fr : Nat} (hfr : 90 ≤ fr) {ν : hm_N} {r : Int32} {μR : hm_M}  (w16_2 : Int32) (c4 : Int32 → Int32 → hm_M → Option (Int32 × hm_M)) (e73 : Int32 → hm_M → Option (Int32 × hm_M)) (c16 : Int32 → Int32 → hm_M → Option (Int32 × hm_M)) (e67 : Int32 → hm_M → Option (Int32 × hm_M)) (hc4 : ∀ (y1 : Int32) (y2 : Int32)  (μ1 : hm_M), hm_LL ν μ1 → c4 y1 y2 μ1 = some (r, μR) → hm_T (hm_LL ν) m_X10_loosesAll fr 0 0 (some (.int r)) μR 4 [some (.ref 179), some (.int y1), some (.int y2), none] [] μ1) (he73 : ∀ (y1 : Int32)  (μ1 : hm_M), hm_LL ν μ1 → e73 y1 μ1 = some (r, μR) → hm_T (hm_LL ν) m_X10_loosesAll fr 0 0 (some (.int r)) μR 73 [none, some (.int y1), none, none] [] μ1) (hc16 : ∀ (y1 : Int32) (y3 : Int32)  (μ1 : hm_M), hm_LL ν μ1 → c16 y1 y3 μ1 = some (r, μR) → hm_T (hm_LL ν) m_X10_loosesAll fr 0 0 (some (.int r)) μR 16 [some (.ref 179), some (.int y1), some (.int w16_2), some (.int y3)] [] μ1) (he67 : ∀ (y1 : Int32)  (μ1 : hm_M), hm_LL ν μ1 → e67 y1 μ1 = some (r, μR) → hm_T (hm_LL ν) m_X10_loosesAll fr 0 0 (some (.int r)) μR 67 [some (.ref 179), some (.int y1), some (.int w16_2), none] [] μ1)  (y1 : Int32) (y3 : Int32) (μ1 : hm_M) (hL : hm_LL ν μ1) (h : f_X10_loosesAll_J61 w16_2 c4 e73 c16 e67 y1 y3 μ1 = some (r, μR)) : hm_T (hm_LL ν) m_X10_loosesAll fr 0 0 (some (.int r)) μR 61 [some (.ref 179), some (.int y1), some (.int w16_2), some (.int y3)] [] μ1 := by
  unfold f_X10_loosesAll_J61 at h
  refine tr_iinc (pc' := 64) (v := y3 + (1 : Int32)) (lv' := [some (.ref 179), some (.int y1), some (.int w16_2), some (.int (y3 + (1 : Int32)))]) (show decode cX10_loosesAll 61 = .ok (.iinc 3 1, 3) by decide +kernel) rfl rfl rfl (Nat.le_of_ble_eq_true rfl) rfl rfl ?_
  refine tr_goto (tgt := 16) (show decode cX10_loosesAll 64 = .ok (.goto (-48), 3) by decide +kernel) rfl ?_
  exact hc16 y1 (y3 + (1 : Int32)) μ1 hL h
def f_X10_loosesAll_L16 (w16_2 : Int32) (c4 : Int32 → Int32 → hm_M → Option (Int32 × hm_M)) (e73 : Int32 → hm_M → Option (Int32 × hm_M)) (e67 : Int32 → hm_M → Option (Int32 × hm_M)) : Nat → Int32 → Int32 → hm_M → Option (Int32 × hm_M)
  | 0, _, _, _ => none
  | n + 1, y1, y3, μ1 => Option.bind (f_X10_many μ1) fun x3 =>
  (if x3 ≤ y3 then
  e67 y1 μ1
  else
  Option.bind (hm_ld μ1 181 5665 ((16 : Int32) + w16_2)) fun x4 =>
  Option.bind (f_X10_isIn x4 y3) fun x5 =>
  (if x5 = 0 then
  f_X10_loosesAll_J61 w16_2 c4 e73 (f_X10_loosesAll_L16 w16_2 c4 e73 e67 n) e67 y1 y3 μ1
  else
  hm_b2 (f_X10_canHold w16_2 y3 μ1) fun x6 μ7 =>
  (if x6 = 0 then
  Option.bind (f_X10_changesHold w16_2 y3 μ7) fun μ9 =>
  f_X10_loosesAll_J61 w16_2 c4 e73 (f_X10_loosesAll_L16 w16_2 c4 e73 e67 n) e67 (y1 + (1 : Int32)) y3 μ9
  else
  f_X10_loosesAll_J61 w16_2 c4 e73 (f_X10_loosesAll_L16 w16_2 c4 e73 e67 n) e67 y1 y3 μ7)))
theorem ok_X10_loosesAll_L16 {fr : Nat} (hfr : 90 ≤ fr) {ν : hm_N} {r : Int32} {μR : hm_M}  (w16_2 : Int32) (c4 : Int32 → Int32 → hm_M → Option (Int32 × hm_M)) (e73 : Int32 → hm_M → Option (Int32 × hm_M)) (e67 : Int32 → hm_M → Option (Int32 × hm_M)) (hc4 : ∀ (y1 : Int32) (y2 : Int32)  (μ1 : hm_M), hm_LL ν μ1 → c4 y1 y2 μ1 = some (r, μR) → hm_T (hm_LL ν) m_X10_loosesAll fr 0 0 (some (.int r)) μR 4 [some (.ref 179), some (.int y1), some (.int y2), none] [] μ1) (he73 : ∀ (y1 : Int32)  (μ1 : hm_M), hm_LL ν μ1 → e73 y1 μ1 = some (r, μR) → hm_T (hm_LL ν) m_X10_loosesAll fr 0 0 (some (.int r)) μR 73 [none, some (.int y1), none, none] [] μ1) (he67 : ∀ (y1 : Int32)  (μ1 : hm_M), hm_LL ν μ1 → e67 y1 μ1 = some (r, μR) → hm_T (hm_LL ν) m_X10_loosesAll fr 0 0 (some (.int r)) μR 67 [some (.ref 179), some (.int y1), some (.int w16_2), none] [] μ1)  : ∀ (n : Nat) (y1 : Int32) (y3 : Int32)  (μ1 : hm_M), hm_LL ν μ1 → f_X10_loosesAll_L16 w16_2 c4 e73 e67 n y1 y3 μ1 = some (r, μR) → hm_T (hm_LL ν) m_X10_loosesAll fr 0 0 (some (.int r)) μR 16 [some (.ref 179), some (.int y1), some (.int w16_2), some (.int y3)] [] μ1 := by
  intro n
  induction n with
  | zero =>
    intro y1 y3 μ1 hL h
    unfold f_X10_loosesAll_L16 at h
    cases h
  | succ n ih =>
    intro y1 y3 μ1 hL h
    unfold f_X10_loosesAll_L16 at h
    refine tr_iload_n (pc' := 17) (show decode cX10_loosesAll 16 = .ok (.iload_n 3, 1) by decide +kernel) rfl rfl rfl ?_
    refine tr_aload_n (pc' := 18) (show decode cX10_loosesAll 17 = .ok (.aload_n 0, 1) by decide +kernel) rfl rfl rfl ?_
    obtain ⟨x3, ex3, h⟩ := hm_bs h
    have cx3 := ok_X10_many (fr := fr - 1) (ν := ν) (by omega) μ1 hL ex3
    refine tp_callV (pc' := 21) (As := []) (fr1 := fr - 1) (ci := 10) okm_X10_many lk_HandRingModel_118 (show decode cX10_loosesAll 18 = .ok (.invokevirtual 118, 3) by decide +kernel) rfl rfl rfl (by decide) (la_o hL (by decide) rfl) rfl rfl (Nat.le_of_ble_eq_true rfl) (by omega) cx3 (st' := [.int x3, .int y3]) rfl ?_
    rcases hm_is h with ⟨hc, h⟩ | ⟨hc, h⟩
    · refine tr_icmp_ge_t (tgt := 67) hc (show decode cX10_loosesAll 21 = .ok (.if_icmp .ge 46, 3) by decide +kernel) (by decide) ?_
      refine hm_fgt [true, true, true, false] (lv' := [some (.ref 179), some (.int y1), some (.int w16_2), none]) rfl ?_
      exact he67 y1 μ1 hL h
    · refine tr_icmp_ge_f (tgt := 67) (pc' := 24) hc (show decode cX10_loosesAll 21 = .ok (.if_icmp .ge 46, 3) by decide +kernel) (by decide) rfl ?_
      refine tr_aload_n (pc' := 25) (show decode cX10_loosesAll 24 = .ok (.aload_n 0, 1) by decide +kernel) rfl rfl rfl ?_
      refine tr_getR (pc' := 28) fl_HandRingModel_24 (show decode cX10_loosesAll 25 = .ok (.getfield 24, 3) by decide +kernel) rfl (la_o hL (by decide) rfl) (la_r hL 118 rfl) ?_
      refine tr_bipush (pc' := 30) (v := (16 : Int32)) (show decode cX10_loosesAll 28 = .ok (.bipush 16, 2) by decide +kernel) rfl (by decide) ?_
      refine tr_iload_n (pc' := 31) (show decode cX10_loosesAll 30 = .ok (.iload_n 2, 1) by decide +kernel) rfl rfl rfl ?_
      refine tr_iadd (pc' := 32) (show decode cX10_loosesAll 31 = .ok (.iadd, 1) by decide +kernel) rfl ?_
      obtain ⟨x4, ex4, h⟩ := hm_bs h
      refine tp_ldI (pc' := 33) (show decode cX10_loosesAll 32 = .ok (.iaload, 1) by decide +kernel) rfl (la_a hL (by decide) rfl) ex4 ?_
      refine tr_iload_n (pc' := 34) (show decode cX10_loosesAll 33 = .ok (.iload_n 3, 1) by decide +kernel) rfl rfl rfl ?_
      obtain ⟨x5, ex5, h⟩ := hm_bs h
      have cx5 := ok_X10_isIn (fr := fr - 1) (ν := ν) (by omega) x4 y3 μ1 hL ex5
      refine tp_callS (pc' := 37) (As := [.int x4, .int y3]) (fr1 := fr - 1) okm_X10_isIn lk_HandRingModel_356 (show decode cX10_loosesAll 34 = .ok (.invokestatic 356, 3) by decide +kernel) rfl rfl rfl (Nat.le_of_ble_eq_true rfl) (by omega) cx5 (st' := [.int x5]) rfl ?_
      rcases hm_is h with ⟨hc, h⟩ | ⟨hc, h⟩
      · refine tr_if_eq_t (tgt := 61) hc (show decode cX10_loosesAll 37 = .ok (.ifCond .eq 24, 3) by decide +kernel) (by decide) ?_
        exact ok_X10_loosesAll_J61 hfr w16_2 c4 e73 (f_X10_loosesAll_L16 w16_2 c4 e73 e67 n) e67 hc4 he73 ih he67 y1 y3 μ1 hL h
      · refine tr_if_eq_f (tgt := 61) (pc' := 40) hc (show decode cX10_loosesAll 37 = .ok (.ifCond .eq 24, 3) by decide +kernel) (by decide) rfl ?_
        refine tr_aload_n (pc' := 41) (show decode cX10_loosesAll 40 = .ok (.aload_n 0, 1) by decide +kernel) rfl rfl rfl ?_
        refine tr_iload_n (pc' := 42) (show decode cX10_loosesAll 41 = .ok (.iload_n 2, 1) by decide +kernel) rfl rfl rfl ?_
        refine tr_iload_n (pc' := 43) (show decode cX10_loosesAll 42 = .ok (.iload_n 3, 1) by decide +kernel) rfl rfl rfl ?_
        obtain ⟨x6, μ7, ex6, h⟩ := hm_b2s h
        have cx6 := ok_X10_canHold (fr := fr - 1) (ν := ν) (by omega) w16_2 y3 μ1 hL ex6
        refine tp_callV (pc' := 46) (As := [.int w16_2, .int y3]) (fr1 := fr - 1) (ci := 10) okm_X10_canHold lk_HandRingModel_353 (show decode cX10_loosesAll 43 = .ok (.invokevirtual 353, 3) by decide +kernel) rfl rfl rfl (by decide) (la_o hL (by decide) rfl) rfl rfl (Nat.le_of_ble_eq_true rfl) (by omega) cx6 (st' := [.int x6]) rfl ?_
        replace hL := cx6.1
        rcases hm_is h with ⟨hc, h⟩ | ⟨hc, h⟩
        · refine tr_if_eq_t (tgt := 52) hc (show decode cX10_loosesAll 46 = .ok (.ifCond .eq 6, 3) by decide +kernel) (by decide) ?_
          refine tr_aload_n (pc' := 53) (show decode cX10_loosesAll 52 = .ok (.aload_n 0, 1) by decide +kernel) rfl rfl rfl ?_
          refine tr_iload_n (pc' := 54) (show decode cX10_loosesAll 53 = .ok (.iload_n 2, 1) by decide +kernel) rfl rfl rfl ?_
          refine tr_iload_n (pc' := 55) (show decode cX10_loosesAll 54 = .ok (.iload_n 3, 1) by decide +kernel) rfl rfl rfl ?_
          obtain ⟨μ9, ex8, h⟩ := hm_bs h
          have cx8 := ok_X10_changesHold (fr := fr - 1) (ν := ν) (by omega) w16_2 y3 μ7 hL ex8
          refine tp_callV (pc' := 58) (As := [.int w16_2, .int y3]) (fr1 := fr - 1) (ci := 10) okm_X10_changesHold lk_HandRingModel_359 (show decode cX10_loosesAll 55 = .ok (.invokevirtual 359, 3) by decide +kernel) rfl rfl rfl (by decide) (la_o hL (by decide) rfl) rfl rfl (Nat.le_of_ble_eq_true rfl) (by omega) cx8 (st' := []) rfl ?_
          replace hL := cx8.1
          refine tr_iinc (pc' := 61) (v := y1 + (1 : Int32)) (lv' := [some (.ref 179), some (.int (y1 + (1 : Int32))), some (.int w16_2), some (.int y3)]) (show decode cX10_loosesAll 58 = .ok (.iinc 1 1, 3) by decide +kernel) rfl rfl rfl (Nat.le_of_ble_eq_true rfl) rfl rfl ?_
          exact ok_X10_loosesAll_J61 hfr w16_2 c4 e73 (f_X10_loosesAll_L16 w16_2 c4 e73 e67 n) e67 hc4 he73 ih he67 (y1 + (1 : Int32)) y3 μ9 hL h
        · refine tr_if_eq_f (tgt := 52) (pc' := 49) hc (show decode cX10_loosesAll 46 = .ok (.ifCond .eq 6, 3) by decide +kernel) (by decide) rfl ?_
          refine tr_goto (tgt := 61) (show decode cX10_loosesAll 49 = .ok (.goto 12, 3) by decide +kernel) rfl ?_
          exact ok_X10_loosesAll_J61 hfr w16_2 c4 e73 (f_X10_loosesAll_L16 w16_2 c4 e73 e67 n) e67 hc4 he73 ih he67 y1 y3 μ7 hL h
def f_X10_loosesAll_L4 (e73 : Int32 → hm_M → Option (Int32 × hm_M)) : Nat → Int32 → Int32 → hm_M → Option (Int32 × hm_M)
  | 0, _, _, _ => none
  | n + 1, y1, y2, μ1 => Option.bind (f_X10_many μ1) fun x2 =>
  (if x2 ≤ y2 then
  e73 y1 μ1
  else
  f_X10_loosesAll_L16 y2 (f_X10_loosesAll_L4 e73 n) e73 (fun z10_1 μz10 => (f_X10_loosesAll_L4 e73 n) z10_1 (y2 + (1 : Int32)) μz10) hm_fu y1 (y2 + (1 : Int32)) μ1)
theorem ok_X10_loosesAll_L4 {fr : Nat} (hfr : 90 ≤ fr) {ν : hm_N} {r : Int32} {μR : hm_M}   (e73 : Int32 → hm_M → Option (Int32 × hm_M))  (he73 : ∀ (y1 : Int32)  (μ1 : hm_M), hm_LL ν μ1 → e73 y1 μ1 = some (r, μR) → hm_T (hm_LL ν) m_X10_loosesAll fr 0 0 (some (.int r)) μR 73 [none, some (.int y1), none, none] [] μ1)  : ∀ (n : Nat) (y1 : Int32) (y2 : Int32)  (μ1 : hm_M), hm_LL ν μ1 → f_X10_loosesAll_L4 e73 n y1 y2 μ1 = some (r, μR) → hm_T (hm_LL ν) m_X10_loosesAll fr 0 0 (some (.int r)) μR 4 [some (.ref 179), some (.int y1), some (.int y2), none] [] μ1 := by
  intro n
  induction n with
  | zero =>
    intro y1 y2 μ1 hL h
    unfold f_X10_loosesAll_L4 at h
    cases h
  | succ n ih =>
    intro y1 y2 μ1 hL h
    unfold f_X10_loosesAll_L4 at h
    refine tr_iload_n (pc' := 5) (show decode cX10_loosesAll 4 = .ok (.iload_n 2, 1) by decide +kernel) rfl rfl rfl ?_
    refine tr_aload_n (pc' := 6) (show decode cX10_loosesAll 5 = .ok (.aload_n 0, 1) by decide +kernel) rfl rfl rfl ?_
    obtain ⟨x2, ex2, h⟩ := hm_bs h
    have cx2 := ok_X10_many (fr := fr - 1) (ν := ν) (by omega) μ1 hL ex2
    refine tp_callV (pc' := 9) (As := []) (fr1 := fr - 1) (ci := 10) okm_X10_many lk_HandRingModel_118 (show decode cX10_loosesAll 6 = .ok (.invokevirtual 118, 3) by decide +kernel) rfl rfl rfl (by decide) (la_o hL (by decide) rfl) rfl rfl (Nat.le_of_ble_eq_true rfl) (by omega) cx2 (st' := [.int x2, .int y2]) rfl ?_
    rcases hm_is h with ⟨hc, h⟩ | ⟨hc, h⟩
    · refine tr_icmp_ge_t (tgt := 73) hc (show decode cX10_loosesAll 9 = .ok (.if_icmp .ge 64, 3) by decide +kernel) (by decide) ?_
      refine hm_fgt [false, true, false, false] (lv' := [none, some (.int y1), none, none]) rfl ?_
      exact he73 y1 μ1 hL h
    · refine tr_icmp_ge_f (tgt := 73) (pc' := 12) hc (show decode cX10_loosesAll 9 = .ok (.if_icmp .ge 64, 3) by decide +kernel) (by decide) rfl ?_
      refine tr_iload_n (pc' := 13) (show decode cX10_loosesAll 12 = .ok (.iload_n 2, 1) by decide +kernel) rfl rfl rfl ?_
      refine tr_iconst (pc' := 14) (v := (1 : Int32)) (show decode cX10_loosesAll 13 = .ok (.iconst 1, 1) by decide +kernel) rfl (by decide) ?_
      refine tr_iadd (pc' := 15) (show decode cX10_loosesAll 14 = .ok (.iadd, 1) by decide +kernel) rfl ?_
      refine tr_istore_n (pc' := 16) (lv' := [some (.ref 179), some (.int y1), some (.int y2), some (.int (y2 + (1 : Int32)))]) (show decode cX10_loosesAll 15 = .ok (.istore_n 3, 1) by decide +kernel) rfl rfl (Nat.le_of_ble_eq_true rfl) rfl rfl ?_
      refine ok_X10_loosesAll_L16 hfr y2 (f_X10_loosesAll_L4 e73 n) e73 _ ih he73 ?_ _ y1 (y2 + (1 : Int32)) μ1 hL h
      · intro z10_1 μz10 hL h
        refine tr_iinc (pc' := 70) (v := y2 + (1 : Int32)) (lv' := [some (.ref 179), some (.int z10_1), some (.int (y2 + (1 : Int32))), none]) (show decode cX10_loosesAll 67 = .ok (.iinc 2 1, 3) by decide +kernel) rfl rfl rfl (Nat.le_of_ble_eq_true rfl) rfl rfl ?_
        refine tr_goto (tgt := 4) (show decode cX10_loosesAll 70 = .ok (.goto (-66), 3) by decide +kernel) rfl ?_
        exact ih z10_1 (y2 + (1 : Int32)) μz10 hL h
def f_X10_loosesAll (μ : hm_M) : Option (Int32 × hm_M) :=
  f_X10_loosesAll_L4 (fun z11_1 μz11 => some (z11_1, μz11)) hm_fu (0 : Int32) (0 : Int32) μ
set_option maxRecDepth 100000 in
theorem ok_X10_loosesAll {fr : Nat} (hfr : 90 ≤ fr) {ν : hm_N} {r : Int32} {μR : hm_M}    (μ : hm_M) (hL : hm_LL ν μ) (h : f_X10_loosesAll μ = some (r, μR)) : hm_CC (hm_LL ν) m_X10_loosesAll fr 0 0 [.ref 179] μ (some (.int r)) μR := by
  refine hm_enter (lv := [some (.ref 179), none, none, none]) (by decide) rfl (Nat.le_of_ble_eq_true rfl) ?_
  unfold f_X10_loosesAll at h
  refine tr_iconst (pc' := 1) (v := (0 : Int32)) (show decode cX10_loosesAll 0 = .ok (.iconst 0, 1) by decide +kernel) rfl (by decide) ?_
  refine tr_istore_n (pc' := 2) (lv' := [some (.ref 179), some (.int (0 : Int32)), none, none]) (show decode cX10_loosesAll 1 = .ok (.istore_n 1, 1) by decide +kernel) rfl rfl (Nat.le_of_ble_eq_true rfl) rfl rfl ?_
  refine tr_iconst (pc' := 3) (v := (0 : Int32)) (show decode cX10_loosesAll 2 = .ok (.iconst 0, 1) by decide +kernel) rfl (by decide) ?_
  refine tr_istore_n (pc' := 4) (lv' := [some (.ref 179), some (.int (0 : Int32)), some (.int (0 : Int32)), none]) (show decode cX10_loosesAll 3 = .ok (.istore_n 2, 1) by decide +kernel) rfl rfl (Nat.le_of_ble_eq_true rfl) rfl rfl ?_
  refine ok_X10_loosesAll_L4 hfr _ ?_ _ (0 : Int32) (0 : Int32) μ hL h
  · intro z11_1 μz11 hL h
    refine tr_iload_n (pc' := 74) (show decode cX10_loosesAll 73 = .ok (.iload_n 1, 1) by decide +kernel) rfl rfl rfl ?_
    cases h
    exact tr_iret rfl (show decode cX10_loosesAll 74 = .ok (.ireturn, 1) by decide +kernel) hL
def f_X10_dayPasses_L2 (e27 : hm_M → Option hm_M) : Nat → Int32 → hm_M → Option hm_M
  | 0, _, _ => none
  | n + 1, y1, μ1 => Option.bind (f_X10_many μ1) fun x2 =>
  (if x2 ≤ y1 then
  e27 μ1
  else
  hm_b2 (f_X10_tiresBy y1 μ1) fun x3 μ4 =>
  Option.bind (hm_sd μ4 192 8 y1 x3) fun μ5 =>
  (f_X10_dayPasses_L2 e27 n) (y1 + (1 : Int32)) μ5)
theorem ok_X10_dayPasses_L2 {fr : Nat} (hfr : 91 ≤ fr) {ν : hm_N} {μR : hm_M}   (e27 : hm_M → Option hm_M)  (he27 : ∀   (μ1 : hm_M), hm_LL ν μ1 → e27 μ1 = some μR → hm_T (hm_LL ν) m_X10_dayPasses fr 0 0 none μR 27 [some (.ref 179), none] [] μ1)  : ∀ (n : Nat) (y1 : Int32)  (μ1 : hm_M), hm_LL ν μ1 → f_X10_dayPasses_L2 e27 n y1 μ1 = some μR → hm_T (hm_LL ν) m_X10_dayPasses fr 0 0 none μR 2 [some (.ref 179), some (.int y1)] [] μ1 := by
  intro n
  induction n with
  | zero =>
    intro y1 μ1 hL h
    unfold f_X10_dayPasses_L2 at h
    cases h
  | succ n ih =>
    intro y1 μ1 hL h
    unfold f_X10_dayPasses_L2 at h
    refine tr_iload_n (pc' := 3) (show decode cX10_dayPasses 2 = .ok (.iload_n 1, 1) by decide +kernel) rfl rfl rfl ?_
    refine tr_aload_n (pc' := 4) (show decode cX10_dayPasses 3 = .ok (.aload_n 0, 1) by decide +kernel) rfl rfl rfl ?_
    obtain ⟨x2, ex2, h⟩ := hm_bs h
    have cx2 := ok_X10_many (fr := fr - 1) (ν := ν) (by omega) μ1 hL ex2
    refine tp_callV (pc' := 7) (As := []) (fr1 := fr - 1) (ci := 10) okm_X10_many lk_HandRingModel_118 (show decode cX10_dayPasses 4 = .ok (.invokevirtual 118, 3) by decide +kernel) rfl rfl rfl (by decide) (la_o hL (by decide) rfl) rfl rfl (Nat.le_of_ble_eq_true rfl) (by omega) cx2 (st' := [.int x2, .int y1]) rfl ?_
    rcases hm_is h with ⟨hc, h⟩ | ⟨hc, h⟩
    · refine tr_icmp_ge_t (tgt := 27) hc (show decode cX10_dayPasses 7 = .ok (.if_icmp .ge 20, 3) by decide +kernel) (by decide) ?_
      refine hm_fgt [true, false] (lv' := [some (.ref 179), none]) rfl ?_
      exact he27 μ1 hL h
    · refine tr_icmp_ge_f (tgt := 27) (pc' := 10) hc (show decode cX10_dayPasses 7 = .ok (.if_icmp .ge 20, 3) by decide +kernel) (by decide) rfl ?_
      refine tr_aload_n (pc' := 11) (show decode cX10_dayPasses 10 = .ok (.aload_n 0, 1) by decide +kernel) rfl rfl rfl ?_
      refine tr_getR (pc' := 14) fl_HandRingModel_62 (show decode cX10_dayPasses 11 = .ok (.getfield 62, 3) by decide +kernel) rfl (la_o hL (by decide) rfl) (la_r hL 129 rfl) ?_
      refine tr_iload_n (pc' := 15) (show decode cX10_dayPasses 14 = .ok (.iload_n 1, 1) by decide +kernel) rfl rfl rfl ?_
      refine tr_aload_n (pc' := 16) (show decode cX10_dayPasses 15 = .ok (.aload_n 0, 1) by decide +kernel) rfl rfl rfl ?_
      refine tr_iload_n (pc' := 17) (show decode cX10_dayPasses 16 = .ok (.iload_n 1, 1) by decide +kernel) rfl rfl rfl ?_
      obtain ⟨x3, μ4, ex3, h⟩ := hm_b2s h
      have cx3 := ok_X10_tiresBy (fr := fr - 1) (ν := ν) (by omega) y1 μ1 hL ex3
      refine tp_callV (pc' := 20) (As := [.int y1]) (fr1 := fr - 1) (ci := 10) okm_X10_tiresBy lk_HandRingModel_136 (show decode cX10_dayPasses 17 = .ok (.invokevirtual 136, 3) by decide +kernel) rfl rfl rfl (by decide) (la_o hL (by decide) rfl) rfl rfl (Nat.le_of_ble_eq_true rfl) (by omega) cx3 (st' := [.int x3, .int y1, .ref 192]) rfl ?_
      replace hL := cx3.1
      obtain ⟨μ5, eμ5, h⟩ := hm_bs h
      refine tp_sdI (pc' := 21) (show decode cX10_dayPasses 20 = .ok (.iastore, 1) by decide +kernel) rfl (la_a hL (by decide) rfl) eμ5 ?_
      replace hL := hL.same (hm_sd_s eμ5)
      refine tr_iinc (pc' := 24) (v := y1 + (1 : Int32)) (lv' := [some (.ref 179), some (.int (y1 + (1 : Int32)))]) (show decode cX10_dayPasses 21 = .ok (.iinc 1 1, 3) by decide +kernel) rfl rfl rfl (Nat.le_of_ble_eq_true rfl) rfl rfl ?_
      refine tr_goto (tgt := 2) (show decode cX10_dayPasses 24 = .ok (.goto (-22), 3) by decide +kernel) rfl ?_
      exact ih (y1 + (1 : Int32)) μ5 hL h
def f_X10_dayPasses_L29 (e72 : hm_M → Option hm_M) : Nat → Int32 → hm_M → Option hm_M
  | 0, _, _ => none
  | n + 1, y1, μ1 => Option.bind (f_X10_many μ1) fun x7 =>
  (if x7 ≤ y1 then
  e72 μ1
  else
  Option.bind (hm_ld μ1 181 5665 ((8 : Int32) + y1)) fun x8 =>
  Option.bind (hm_ld μ1 192 8 y1) fun x9 =>
  Option.bind (f_X10_greater (0 : Int32) (x8 - x9)) fun x10 =>
  Option.bind (hm_sd μ1 181 5665 ((8 : Int32) + y1) x10) fun μ11 =>
  (f_X10_dayPasses_L29 e72 n) (y1 + (1 : Int32)) μ11)
theorem ok_X10_dayPasses_L29 {fr : Nat} (hfr : 91 ≤ fr) {ν : hm_N} {μR : hm_M}   (e72 : hm_M → Option hm_M)  (he72 : ∀   (μ1 : hm_M), hm_LL ν μ1 → e72 μ1 = some μR → hm_T (hm_LL ν) m_X10_dayPasses fr 0 0 none μR 72 [some (.ref 179), none] [] μ1)  : ∀ (n : Nat) (y1 : Int32)  (μ1 : hm_M), hm_LL ν μ1 → f_X10_dayPasses_L29 e72 n y1 μ1 = some μR → hm_T (hm_LL ν) m_X10_dayPasses fr 0 0 none μR 29 [some (.ref 179), some (.int y1)] [] μ1 := by
  intro n
  induction n with
  | zero =>
    intro y1 μ1 hL h
    unfold f_X10_dayPasses_L29 at h
    cases h
  | succ n ih =>
    intro y1 μ1 hL h
    unfold f_X10_dayPasses_L29 at h
    refine tr_iload_n (pc' := 30) (show decode cX10_dayPasses 29 = .ok (.iload_n 1, 1) by decide +kernel) rfl rfl rfl ?_
    refine tr_aload_n (pc' := 31) (show decode cX10_dayPasses 30 = .ok (.aload_n 0, 1) by decide +kernel) rfl rfl rfl ?_
    obtain ⟨x7, ex7, h⟩ := hm_bs h
    have cx7 := ok_X10_many (fr := fr - 1) (ν := ν) (by omega) μ1 hL ex7
    refine tp_callV (pc' := 34) (As := []) (fr1 := fr - 1) (ci := 10) okm_X10_many lk_HandRingModel_118 (show decode cX10_dayPasses 31 = .ok (.invokevirtual 118, 3) by decide +kernel) rfl rfl rfl (by decide) (la_o hL (by decide) rfl) rfl rfl (Nat.le_of_ble_eq_true rfl) (by omega) cx7 (st' := [.int x7, .int y1]) rfl ?_
    rcases hm_is h with ⟨hc, h⟩ | ⟨hc, h⟩
    · refine tr_icmp_ge_t (tgt := 72) hc (show decode cX10_dayPasses 34 = .ok (.if_icmp .ge 38, 3) by decide +kernel) (by decide) ?_
      refine hm_fgt [true, false] (lv' := [some (.ref 179), none]) rfl ?_
      exact he72 μ1 hL h
    · refine tr_icmp_ge_f (tgt := 72) (pc' := 37) hc (show decode cX10_dayPasses 34 = .ok (.if_icmp .ge 38, 3) by decide +kernel) (by decide) rfl ?_
      refine tr_aload_n (pc' := 38) (show decode cX10_dayPasses 37 = .ok (.aload_n 0, 1) by decide +kernel) rfl rfl rfl ?_
      refine tr_getR (pc' := 41) fl_HandRingModel_24 (show decode cX10_dayPasses 38 = .ok (.getfield 24, 3) by decide +kernel) rfl (la_o hL (by decide) rfl) (la_r hL 118 rfl) ?_
      refine tr_bipush (pc' := 43) (v := (8 : Int32)) (show decode cX10_dayPasses 41 = .ok (.bipush 8, 2) by decide +kernel) rfl (by decide) ?_
      refine tr_iload_n (pc' := 44) (show decode cX10_dayPasses 43 = .ok (.iload_n 1, 1) by decide +kernel) rfl rfl rfl ?_
      refine tr_iadd (pc' := 45) (show decode cX10_dayPasses 44 = .ok (.iadd, 1) by decide +kernel) rfl ?_
      refine tr_iconst (pc' := 46) (v := (0 : Int32)) (show decode cX10_dayPasses 45 = .ok (.iconst 0, 1) by decide +kernel) rfl (by decide) ?_
      refine tr_aload_n (pc' := 47) (show decode cX10_dayPasses 46 = .ok (.aload_n 0, 1) by decide +kernel) rfl rfl rfl ?_
      refine tr_getR (pc' := 50) fl_HandRingModel_24 (show decode cX10_dayPasses 47 = .ok (.getfield 24, 3) by decide +kernel) rfl (la_o hL (by decide) rfl) (la_r hL 118 rfl) ?_
      refine tr_bipush (pc' := 52) (v := (8 : Int32)) (show decode cX10_dayPasses 50 = .ok (.bipush 8, 2) by decide +kernel) rfl (by decide) ?_
      refine tr_iload_n (pc' := 53) (show decode cX10_dayPasses 52 = .ok (.iload_n 1, 1) by decide +kernel) rfl rfl rfl ?_
      refine tr_iadd (pc' := 54) (show decode cX10_dayPasses 53 = .ok (.iadd, 1) by decide +kernel) rfl ?_
      obtain ⟨x8, ex8, h⟩ := hm_bs h
      refine tp_ldI (pc' := 55) (show decode cX10_dayPasses 54 = .ok (.iaload, 1) by decide +kernel) rfl (la_a hL (by decide) rfl) ex8 ?_
      refine tr_aload_n (pc' := 56) (show decode cX10_dayPasses 55 = .ok (.aload_n 0, 1) by decide +kernel) rfl rfl rfl ?_
      refine tr_getR (pc' := 59) fl_HandRingModel_62 (show decode cX10_dayPasses 56 = .ok (.getfield 62, 3) by decide +kernel) rfl (la_o hL (by decide) rfl) (la_r hL 129 rfl) ?_
      refine tr_iload_n (pc' := 60) (show decode cX10_dayPasses 59 = .ok (.iload_n 1, 1) by decide +kernel) rfl rfl rfl ?_
      obtain ⟨x9, ex9, h⟩ := hm_bs h
      refine tp_ldI (pc' := 61) (show decode cX10_dayPasses 60 = .ok (.iaload, 1) by decide +kernel) rfl (la_a hL (by decide) rfl) ex9 ?_
      refine tr_isub (pc' := 62) (show decode cX10_dayPasses 61 = .ok (.isub, 1) by decide +kernel) rfl ?_
      obtain ⟨x10, ex10, h⟩ := hm_bs h
      have cx10 := ok_X10_greater (fr := fr - 1) (ν := ν) (by omega) (0 : Int32) (x8 - x9) μ1 hL ex10
      refine tp_callS (pc' := 65) (As := [.int (0 : Int32), .int (x8 - x9)]) (fr1 := fr - 1) okm_X10_greater lk_HandRingModel_343 (show decode cX10_dayPasses 62 = .ok (.invokestatic 343, 3) by decide +kernel) rfl rfl rfl (Nat.le_of_ble_eq_true rfl) (by omega) cx10 (st' := [.int x10, .int ((8 : Int32) + y1), .ref 181]) rfl ?_
      obtain ⟨μ11, eμ11, h⟩ := hm_bs h
      refine tp_sdI (pc' := 66) (show decode cX10_dayPasses 65 = .ok (.iastore, 1) by decide +kernel) rfl (la_a hL (by decide) rfl) eμ11 ?_
      replace hL := hL.same (hm_sd_s eμ11)
      refine tr_iinc (pc' := 69) (v := y1 + (1 : Int32)) (lv' := [some (.ref 179), some (.int (y1 + (1 : Int32)))]) (show decode cX10_dayPasses 66 = .ok (.iinc 1 1, 3) by decide +kernel) rfl rfl rfl (Nat.le_of_ble_eq_true rfl) rfl rfl ?_
      refine tr_goto (tgt := 29) (show decode cX10_dayPasses 69 = .ok (.goto (-40), 3) by decide +kernel) rfl ?_
      exact ih (y1 + (1 : Int32)) μ11 hL h
def f_X10_dayPasses (μ : hm_M) : Option hm_M :=
  f_X10_dayPasses_L2 (fun μz6 => f_X10_dayPasses_L29 (fun μz12 => Option.bind (hm_ld μz12 181 5665 (24 : Int32)) fun x13 =>
  Option.bind (hm_sd μz12 181 5665 (24 : Int32) (x13 + (1 : Int32))) fun μ14 =>
  hm_b2 (f_X10_loosesAll μ14) fun x15 μ16 =>
  some μ16) hm_fu (0 : Int32) μz6) hm_fu (0 : Int32) μ
set_option maxRecDepth 100000 in
theorem ok_X10_dayPasses {fr : Nat} (hfr : 91 ≤ fr) {ν : hm_N} {μR : hm_M}    (μ : hm_M) (hL : hm_LL ν μ) (h : f_X10_dayPasses μ = some μR) : hm_CC (hm_LL ν) m_X10_dayPasses fr 0 0 [.ref 179] μ none μR := by
  refine hm_enter (lv := [some (.ref 179), none]) (by decide) rfl (Nat.le_of_ble_eq_true rfl) ?_
  unfold f_X10_dayPasses at h
  refine tr_iconst (pc' := 1) (v := (0 : Int32)) (show decode cX10_dayPasses 0 = .ok (.iconst 0, 1) by decide +kernel) rfl (by decide) ?_
  refine tr_istore_n (pc' := 2) (lv' := [some (.ref 179), some (.int (0 : Int32))]) (show decode cX10_dayPasses 1 = .ok (.istore_n 1, 1) by decide +kernel) rfl rfl (Nat.le_of_ble_eq_true rfl) rfl rfl ?_
  refine ok_X10_dayPasses_L2 hfr _ ?_ _ (0 : Int32) μ hL h
  · intro μz6 hL h
    refine tr_iconst (pc' := 28) (v := (0 : Int32)) (show decode cX10_dayPasses 27 = .ok (.iconst 0, 1) by decide +kernel) rfl (by decide) ?_
    refine tr_istore_n (pc' := 29) (lv' := [some (.ref 179), some (.int (0 : Int32))]) (show decode cX10_dayPasses 28 = .ok (.istore_n 1, 1) by decide +kernel) rfl rfl (Nat.le_of_ble_eq_true rfl) rfl rfl ?_
    refine ok_X10_dayPasses_L29 hfr _ ?_ _ (0 : Int32) μz6 hL h
    · intro μz12 hL h
      refine tr_aload_n (pc' := 73) (show decode cX10_dayPasses 72 = .ok (.aload_n 0, 1) by decide +kernel) rfl rfl rfl ?_
      refine tr_getR (pc' := 76) fl_HandRingModel_24 (show decode cX10_dayPasses 73 = .ok (.getfield 24, 3) by decide +kernel) rfl (la_o hL (by decide) rfl) (la_r hL 118 rfl) ?_
      refine tr_bipush (pc' := 78) (v := (24 : Int32)) (show decode cX10_dayPasses 76 = .ok (.bipush 24, 2) by decide +kernel) rfl (by decide) ?_
      refine tr_dup2 (pc' := 79) (show decode cX10_dayPasses 78 = .ok (.dup2, 1) by decide +kernel) rfl rfl rfl ?_
      obtain ⟨x13, ex13, h⟩ := hm_bs h
      refine tp_ldI (pc' := 80) (show decode cX10_dayPasses 79 = .ok (.iaload, 1) by decide +kernel) rfl (la_a hL (by decide) rfl) ex13 ?_
      refine tr_iconst (pc' := 81) (v := (1 : Int32)) (show decode cX10_dayPasses 80 = .ok (.iconst 1, 1) by decide +kernel) rfl (by decide) ?_
      refine tr_iadd (pc' := 82) (show decode cX10_dayPasses 81 = .ok (.iadd, 1) by decide +kernel) rfl ?_
      obtain ⟨μ14, eμ14, h⟩ := hm_bs h
      refine tp_sdI (pc' := 83) (show decode cX10_dayPasses 82 = .ok (.iastore, 1) by decide +kernel) rfl (la_a hL (by decide) rfl) eμ14 ?_
      replace hL := hL.same (hm_sd_s eμ14)
      refine tr_aload_n (pc' := 84) (show decode cX10_dayPasses 83 = .ok (.aload_n 0, 1) by decide +kernel) rfl rfl rfl ?_
      obtain ⟨x15, μ16, ex15, h⟩ := hm_b2s h
      have cx15 := ok_X10_loosesAll (fr := fr - 1) (ν := ν) (by omega) μ14 hL ex15
      refine tp_callV (pc' := 87) (As := []) (fr1 := fr - 1) (ci := 10) okm_X10_loosesAll lk_HandRingModel_362 (show decode cX10_dayPasses 84 = .ok (.invokevirtual 362, 3) by decide +kernel) rfl rfl rfl (by decide) (la_o hL (by decide) rfl) rfl rfl (Nat.le_of_ble_eq_true rfl) (by omega) cx15 (st' := [.int x15]) rfl ?_
      replace hL := cx15.1
      refine tr_pop (pc' := 88) (show decode cX10_dayPasses 87 = .ok (.pop, 1) by decide +kernel) rfl rfl ?_
      cases h
      exact tr_vret rfl (show decode cX10_dayPasses 88 = .ok (.return_, 1) by decide +kernel) hL
def f_X10_keeps_L54 (v1 : Int32) (w54_2 : Int32) (e85 : hm_M → Option hm_M) : Nat → Int32 → hm_M → Option hm_M
  | 0, _, _ => none
  | n + 1, y3, μ1 => (if (25 : Int32) ≤ y3 then
  e85 μ1
  else
  Option.bind (hm_ld μ1 181 5665 y3) fun x2 =>
  Option.bind (hm_sd μ1 193 416 ((w54_2 * (μ1.1 179 33)) + y3) x2) fun μ3 =>
  (f_X10_keeps_L54 v1 w54_2 e85 n) (y3 + (1 : Int32)) μ3)
theorem ok_X10_keeps_L54 {fr : Nat} (hfr : 0 ≤ fr) {ν : hm_N} {μR : hm_M}  (v1 : Int32) (w54_2 : Int32) (e85 : hm_M → Option hm_M)  (he85 : ∀   (μ1 : hm_M), hm_LL ν μ1 → e85 μ1 = some μR → hm_T (hm_LL ν) m_X10_keeps fr 0 0 none μR 85 [some (.ref 179), some (.int v1), some (.int w54_2), none] [] μ1)  : ∀ (n : Nat) (y3 : Int32)  (μ1 : hm_M), hm_LL ν μ1 → f_X10_keeps_L54 v1 w54_2 e85 n y3 μ1 = some μR → hm_T (hm_LL ν) m_X10_keeps fr 0 0 none μR 54 [some (.ref 179), some (.int v1), some (.int w54_2), some (.int y3)] [] μ1 := by
  intro n
  induction n with
  | zero =>
    intro y3 μ1 hL h
    unfold f_X10_keeps_L54 at h
    cases h
  | succ n ih =>
    intro y3 μ1 hL h
    unfold f_X10_keeps_L54 at h
    refine tr_iload_n (pc' := 55) (show decode cX10_keeps 54 = .ok (.iload_n 3, 1) by decide +kernel) rfl rfl rfl ?_
    refine tr_bipush (pc' := 57) (v := (25 : Int32)) (show decode cX10_keeps 55 = .ok (.bipush 25, 2) by decide +kernel) rfl (by decide) ?_
    rcases hm_is h with ⟨hc, h⟩ | ⟨hc, h⟩
    · refine tr_icmp_ge_t (tgt := 85) hc (show decode cX10_keeps 57 = .ok (.if_icmp .ge 28, 3) by decide +kernel) (by decide) ?_
      refine hm_fgt [true, true, true, false] (lv' := [some (.ref 179), some (.int v1), some (.int w54_2), none]) rfl ?_
      exact he85 μ1 hL h
    · refine tr_icmp_ge_f (tgt := 85) (pc' := 60) hc (show decode cX10_keeps 57 = .ok (.if_icmp .ge 28, 3) by decide +kernel) (by decide) rfl ?_
      refine tr_aload_n (pc' := 61) (show decode cX10_keeps 60 = .ok (.aload_n 0, 1) by decide +kernel) rfl rfl rfl ?_
      refine tr_getR (pc' := 64) fl_HandRingModel_65 (show decode cX10_keeps 61 = .ok (.getfield 65, 3) by decide +kernel) rfl (la_o hL (by decide) rfl) (la_r hL 130 rfl) ?_
      refine tr_iload_n (pc' := 65) (show decode cX10_keeps 64 = .ok (.iload_n 2, 1) by decide +kernel) rfl rfl rfl ?_
      refine tr_aload_n (pc' := 66) (show decode cX10_keeps 65 = .ok (.aload_n 0, 1) by decide +kernel) rfl rfl rfl ?_
      refine tr_getI (pc' := 69) fl_HandRingModel_11 (show decode cX10_keeps 66 = .ok (.getfield 11, 3) by decide +kernel) rfl (la_o hL (by decide) rfl) ?_
      refine tr_imul (pc' := 70) (show decode cX10_keeps 69 = .ok (.imul, 1) by decide +kernel) rfl ?_
      refine tr_iload_n (pc' := 71) (show decode cX10_keeps 70 = .ok (.iload_n 3, 1) by decide +kernel) rfl rfl rfl ?_
      refine tr_iadd (pc' := 72) (show decode cX10_keeps 71 = .ok (.iadd, 1) by decide +kernel) rfl ?_
      refine tr_aload_n (pc' := 73) (show decode cX10_keeps 72 = .ok (.aload_n 0, 1) by decide +kernel) rfl rfl rfl ?_
      refine tr_getR (pc' := 76) fl_HandRingModel_24 (show decode cX10_keeps 73 = .ok (.getfield 24, 3) by decide +kernel) rfl (la_o hL (by decide) rfl) (la_r hL 118 rfl) ?_
      refine tr_iload_n (pc' := 77) (show decode cX10_keeps 76 = .ok (.iload_n 3, 1) by decide +kernel) rfl rfl rfl ?_
      obtain ⟨x2, ex2, h⟩ := hm_bs h
      refine tp_ldI (pc' := 78) (show decode cX10_keeps 77 = .ok (.iaload, 1) by decide +kernel) rfl (la_a hL (by decide) rfl) ex2 ?_
      obtain ⟨μ3, eμ3, h⟩ := hm_bs h
      refine tp_sdI (pc' := 79) (show decode cX10_keeps 78 = .ok (.iastore, 1) by decide +kernel) rfl (la_a hL (by decide) rfl) eμ3 ?_
      replace hL := hL.same (hm_sd_s eμ3)
      refine tr_iinc (pc' := 82) (v := y3 + (1 : Int32)) (lv' := [some (.ref 179), some (.int v1), some (.int w54_2), some (.int (y3 + (1 : Int32)))]) (show decode cX10_keeps 79 = .ok (.iinc 3 1, 3) by decide +kernel) rfl rfl rfl (Nat.le_of_ble_eq_true rfl) rfl rfl ?_
      refine tr_goto (tgt := 54) (show decode cX10_keeps 82 = .ok (.goto (-28), 3) by decide +kernel) rfl ?_
      exact ih (y3 + (1 : Int32)) μ3 hL h
def f_X10_keeps_J52 (v1 : Int32) (y2 : Int32) (μ1 : hm_M) : Option hm_M :=
  f_X10_keeps_L54 v1 y2 (fun μz4 => Option.bind (hm_sd μz4 193 416 ((y2 * (μz4.1 179 33)) + (25 : Int32)) v1) fun μ5 =>
  Option.bind (hm_pI μ5 179 33 ((μ5.1 179 33) + (1 : Int32))) fun μ6 =>
  some μ6) hm_fu (0 : Int32) μ1
theorem ok_X10_keeps_J52 {fr : Nat} (hfr : 0 ≤ fr) {ν : hm_N} {μR : hm_M}  (v1 : Int32)    (y2 : Int32) (μ1 : hm_M) (hL : hm_LL ν μ1) (h : f_X10_keeps_J52 v1 y2 μ1 = some μR) : hm_T (hm_LL ν) m_X10_keeps fr 0 0 none μR 52 [some (.ref 179), some (.int v1), some (.int y2), none] [] μ1 := by
  unfold f_X10_keeps_J52 at h
  refine tr_iconst (pc' := 53) (v := (0 : Int32)) (show decode cX10_keeps 52 = .ok (.iconst 0, 1) by decide +kernel) rfl (by decide) ?_
  refine tr_istore_n (pc' := 54) (lv' := [some (.ref 179), some (.int v1), some (.int y2), some (.int (0 : Int32))]) (show decode cX10_keeps 53 = .ok (.istore_n 3, 1) by decide +kernel) rfl rfl (Nat.le_of_ble_eq_true rfl) rfl rfl ?_
  refine ok_X10_keeps_L54 hfr _ y2 _ ?_ _ (0 : Int32) μ1 hL h
  · intro μz4 hL h
    refine tr_aload_n (pc' := 86) (show decode cX10_keeps 85 = .ok (.aload_n 0, 1) by decide +kernel) rfl rfl rfl ?_
    refine tr_getR (pc' := 89) fl_HandRingModel_65 (show decode cX10_keeps 86 = .ok (.getfield 65, 3) by decide +kernel) rfl (la_o hL (by decide) rfl) (la_r hL 130 rfl) ?_
    refine tr_iload_n (pc' := 90) (show decode cX10_keeps 89 = .ok (.iload_n 2, 1) by decide +kernel) rfl rfl rfl ?_
    refine tr_aload_n (pc' := 91) (show decode cX10_keeps 90 = .ok (.aload_n 0, 1) by decide +kernel) rfl rfl rfl ?_
    refine tr_getI (pc' := 94) fl_HandRingModel_11 (show decode cX10_keeps 91 = .ok (.getfield 11, 3) by decide +kernel) rfl (la_o hL (by decide) rfl) ?_
    refine tr_imul (pc' := 95) (show decode cX10_keeps 94 = .ok (.imul, 1) by decide +kernel) rfl ?_
    refine tr_bipush (pc' := 97) (v := (25 : Int32)) (show decode cX10_keeps 95 = .ok (.bipush 25, 2) by decide +kernel) rfl (by decide) ?_
    refine tr_iadd (pc' := 98) (show decode cX10_keeps 97 = .ok (.iadd, 1) by decide +kernel) rfl ?_
    refine tr_iload_n (pc' := 99) (show decode cX10_keeps 98 = .ok (.iload_n 1, 1) by decide +kernel) rfl rfl rfl ?_
    obtain ⟨μ5, eμ5, h⟩ := hm_bs h
    refine tp_sdI (pc' := 100) (show decode cX10_keeps 99 = .ok (.iastore, 1) by decide +kernel) rfl (la_a hL (by decide) rfl) eμ5 ?_
    replace hL := hL.same (hm_sd_s eμ5)
    refine tr_aload_n (pc' := 101) (show decode cX10_keeps 100 = .ok (.aload_n 0, 1) by decide +kernel) rfl rfl rfl ?_
    refine tr_dup (pc' := 102) (show decode cX10_keeps 101 = .ok (.dup, 1) by decide +kernel) rfl rfl ?_
    refine tr_getI (pc' := 105) fl_HandRingModel_11 (show decode cX10_keeps 102 = .ok (.getfield 11, 3) by decide +kernel) rfl (la_o hL (by decide) rfl) ?_
    refine tr_iconst (pc' := 106) (v := (1 : Int32)) (show decode cX10_keeps 105 = .ok (.iconst 1, 1) by decide +kernel) rfl (by decide) ?_
    refine tr_iadd (pc' := 107) (show decode cX10_keeps 106 = .ok (.iadd, 1) by decide +kernel) rfl ?_
    obtain ⟨μ6, eμ6, h⟩ := hm_bs h
    refine tp_pI (pc' := 110) fl_HandRingModel_11 (show decode cX10_keeps 107 = .ok (.putfield 11, 3) by decide +kernel) rfl (la_o hL (by decide) rfl) eμ6 ?_
    replace hL := hL.same (hm_pI_s eμ6)
    cases h
    exact tr_vret rfl (show decode cX10_keeps 110 = .ok (.return_, 1) by decide +kernel) hL
def f_X10_keeps_L14 (v1 : Int32) (w14_2 : Int32) (e42 : hm_M → Option hm_M) : Nat → Int32 → hm_M → Option hm_M
  | 0, _, _ => none
  | n + 1, y3, μ1 => (if ((15 : Int32) * w14_2) ≤ y3 then
  e42 μ1
  else
  Option.bind (hm_ld μ1 193 416 (y3 + w14_2)) fun x7 =>
  Option.bind (hm_sd μ1 193 416 y3 x7) fun μ8 =>
  (f_X10_keeps_L14 v1 w14_2 e42 n) (y3 + (1 : Int32)) μ8)
theorem ok_X10_keeps_L14 {fr : Nat} (hfr : 0 ≤ fr) {ν : hm_N} {μR : hm_M}  (v1 : Int32) (w14_2 : Int32) (e42 : hm_M → Option hm_M)  (he42 : ∀   (μ1 : hm_M), hm_LL ν μ1 → e42 μ1 = some μR → hm_T (hm_LL ν) m_X10_keeps fr 0 0 none μR 42 [some (.ref 179), some (.int v1), some (.int w14_2), none] [] μ1)  : ∀ (n : Nat) (y3 : Int32)  (μ1 : hm_M), hm_LL ν μ1 → f_X10_keeps_L14 v1 w14_2 e42 n y3 μ1 = some μR → hm_T (hm_LL ν) m_X10_keeps fr 0 0 none μR 14 [some (.ref 179), some (.int v1), some (.int w14_2), some (.int y3)] [] μ1 := by
  intro n
  induction n with
  | zero =>
    intro y3 μ1 hL h
    unfold f_X10_keeps_L14 at h
    cases h
  | succ n ih =>
    intro y3 μ1 hL h
    unfold f_X10_keeps_L14 at h
    refine tr_iload_n (pc' := 15) (show decode cX10_keeps 14 = .ok (.iload_n 3, 1) by decide +kernel) rfl rfl rfl ?_
    refine tr_bipush (pc' := 17) (v := (15 : Int32)) (show decode cX10_keeps 15 = .ok (.bipush 15, 2) by decide +kernel) rfl (by decide) ?_
    refine tr_iload_n (pc' := 18) (show decode cX10_keeps 17 = .ok (.iload_n 2, 1) by decide +kernel) rfl rfl rfl ?_
    refine tr_imul (pc' := 19) (show decode cX10_keeps 18 = .ok (.imul, 1) by decide +kernel) rfl ?_
    rcases hm_is h with ⟨hc, h⟩ | ⟨hc, h⟩
    · refine tr_icmp_ge_t (tgt := 42) hc (show decode cX10_keeps 19 = .ok (.if_icmp .ge 23, 3) by decide +kernel) (by decide) ?_
      refine hm_fgt [true, true, true, false] (lv' := [some (.ref 179), some (.int v1), some (.int w14_2), none]) rfl ?_
      exact he42 μ1 hL h
    · refine tr_icmp_ge_f (tgt := 42) (pc' := 22) hc (show decode cX10_keeps 19 = .ok (.if_icmp .ge 23, 3) by decide +kernel) (by decide) rfl ?_
      refine tr_aload_n (pc' := 23) (show decode cX10_keeps 22 = .ok (.aload_n 0, 1) by decide +kernel) rfl rfl rfl ?_
      refine tr_getR (pc' := 26) fl_HandRingModel_65 (show decode cX10_keeps 23 = .ok (.getfield 65, 3) by decide +kernel) rfl (la_o hL (by decide) rfl) (la_r hL 130 rfl) ?_
      refine tr_iload_n (pc' := 27) (show decode cX10_keeps 26 = .ok (.iload_n 3, 1) by decide +kernel) rfl rfl rfl ?_
      refine tr_aload_n (pc' := 28) (show decode cX10_keeps 27 = .ok (.aload_n 0, 1) by decide +kernel) rfl rfl rfl ?_
      refine tr_getR (pc' := 31) fl_HandRingModel_65 (show decode cX10_keeps 28 = .ok (.getfield 65, 3) by decide +kernel) rfl (la_o hL (by decide) rfl) (la_r hL 130 rfl) ?_
      refine tr_iload_n (pc' := 32) (show decode cX10_keeps 31 = .ok (.iload_n 3, 1) by decide +kernel) rfl rfl rfl ?_
      refine tr_iload_n (pc' := 33) (show decode cX10_keeps 32 = .ok (.iload_n 2, 1) by decide +kernel) rfl rfl rfl ?_
      refine tr_iadd (pc' := 34) (show decode cX10_keeps 33 = .ok (.iadd, 1) by decide +kernel) rfl ?_
      obtain ⟨x7, ex7, h⟩ := hm_bs h
      refine tp_ldI (pc' := 35) (show decode cX10_keeps 34 = .ok (.iaload, 1) by decide +kernel) rfl (la_a hL (by decide) rfl) ex7 ?_
      obtain ⟨μ8, eμ8, h⟩ := hm_bs h
      refine tp_sdI (pc' := 36) (show decode cX10_keeps 35 = .ok (.iastore, 1) by decide +kernel) rfl (la_a hL (by decide) rfl) eμ8 ?_
      replace hL := hL.same (hm_sd_s eμ8)
      refine tr_iinc (pc' := 39) (v := y3 + (1 : Int32)) (lv' := [some (.ref 179), some (.int v1), some (.int w14_2), some (.int (y3 + (1 : Int32)))]) (show decode cX10_keeps 36 = .ok (.iinc 3 1, 3) by decide +kernel) rfl rfl rfl (Nat.le_of_ble_eq_true rfl) rfl rfl ?_
      refine tr_goto (tgt := 14) (show decode cX10_keeps 39 = .ok (.goto (-25), 3) by decide +kernel) rfl ?_
      exact ih (y3 + (1 : Int32)) μ8 hL h
def f_X10_keeps (v1 : Int32) (μ : hm_M) : Option hm_M :=
  (if (μ.1 179 33) = (16 : Int32) then
  f_X10_keeps_L14 v1 (26 : Int32) (fun μz9 => Option.bind (hm_pI μz9 179 33 ((μz9.1 179 33) - (1 : Int32))) fun μ10 =>
  f_X10_keeps_J52 v1 (26 : Int32) μ10) hm_fu (0 : Int32) μ
  else
  f_X10_keeps_J52 v1 (26 : Int32) μ)
set_option maxRecDepth 100000 in
theorem ok_X10_keeps {fr : Nat} (hfr : 0 ≤ fr) {ν : hm_N} {μR : hm_M}  (v1 : Int32)  (μ : hm_M) (hL : hm_LL ν μ) (h : f_X10_keeps v1 μ = some μR) : hm_CC (hm_LL ν) m_X10_keeps fr 0 0 [.ref 179, .int v1] μ none μR := by
  refine hm_enter (lv := [some (.ref 179), some (.int v1), none, none]) (by decide) rfl (Nat.le_of_ble_eq_true rfl) ?_
  unfold f_X10_keeps at h
  refine tr_bipush (pc' := 2) (v := (26 : Int32)) (show decode cX10_keeps 0 = .ok (.bipush 26, 2) by decide +kernel) rfl (by decide) ?_
  refine tr_istore_n (pc' := 3) (lv' := [some (.ref 179), some (.int v1), some (.int (26 : Int32)), none]) (show decode cX10_keeps 2 = .ok (.istore_n 2, 1) by decide +kernel) rfl rfl (Nat.le_of_ble_eq_true rfl) rfl rfl ?_
  refine tr_aload_n (pc' := 4) (show decode cX10_keeps 3 = .ok (.aload_n 0, 1) by decide +kernel) rfl rfl rfl ?_
  refine tr_getI (pc' := 7) fl_HandRingModel_11 (show decode cX10_keeps 4 = .ok (.getfield 11, 3) by decide +kernel) rfl (la_o hL (by decide) rfl) ?_
  refine tr_bipush (pc' := 9) (v := (16 : Int32)) (show decode cX10_keeps 7 = .ok (.bipush 16, 2) by decide +kernel) rfl (by decide) ?_
  rcases hm_is h with ⟨hc, h⟩ | ⟨hc, h⟩
  · refine tr_icmp_ne_f (tgt := 52) (pc' := 12) hc (show decode cX10_keeps 9 = .ok (.if_icmp .ne 43, 3) by decide +kernel) (by decide) rfl ?_
    refine tr_iconst (pc' := 13) (v := (0 : Int32)) (show decode cX10_keeps 12 = .ok (.iconst 0, 1) by decide +kernel) rfl (by decide) ?_
    refine tr_istore_n (pc' := 14) (lv' := [some (.ref 179), some (.int v1), some (.int (26 : Int32)), some (.int (0 : Int32))]) (show decode cX10_keeps 13 = .ok (.istore_n 3, 1) by decide +kernel) rfl rfl (Nat.le_of_ble_eq_true rfl) rfl rfl ?_
    refine ok_X10_keeps_L14 hfr _ (26 : Int32) _ ?_ _ (0 : Int32) μ hL h
    · intro μz9 hL h
      refine tr_aload_n (pc' := 43) (show decode cX10_keeps 42 = .ok (.aload_n 0, 1) by decide +kernel) rfl rfl rfl ?_
      refine tr_dup (pc' := 44) (show decode cX10_keeps 43 = .ok (.dup, 1) by decide +kernel) rfl rfl ?_
      refine tr_getI (pc' := 47) fl_HandRingModel_11 (show decode cX10_keeps 44 = .ok (.getfield 11, 3) by decide +kernel) rfl (la_o hL (by decide) rfl) ?_
      refine tr_iconst (pc' := 48) (v := (1 : Int32)) (show decode cX10_keeps 47 = .ok (.iconst 1, 1) by decide +kernel) rfl (by decide) ?_
      refine tr_isub (pc' := 49) (show decode cX10_keeps 48 = .ok (.isub, 1) by decide +kernel) rfl ?_
      obtain ⟨μ10, eμ10, h⟩ := hm_bs h
      refine tp_pI (pc' := 52) fl_HandRingModel_11 (show decode cX10_keeps 49 = .ok (.putfield 11, 3) by decide +kernel) rfl (la_o hL (by decide) rfl) eμ10 ?_
      replace hL := hL.same (hm_pI_s eμ10)
      exact ok_X10_keeps_J52 hfr _ (26 : Int32) μ10 hL h
  · refine tr_icmp_ne_t (tgt := 52) hc (show decode cX10_keeps 9 = .ok (.if_icmp .ne 43, 3) by decide +kernel) (by decide) ?_
    exact ok_X10_keeps_J52 hfr _ (26 : Int32) μ hL h
