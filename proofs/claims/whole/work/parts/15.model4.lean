def f_X10_undo_L34 (w34_1 : Int32) (e60 : hm_M → Option (Int32 × hm_M)) : Nat → Int32 → hm_M → Option (Int32 × hm_M)
  | 0, _, _ => none
  | n + 1, y2, μ1 => (if (25 : Int32) ≤ y2 then
  e60 μ1
  else
  Option.bind (hm_ld μ1 193 416 (w34_1 + y2)) fun x4 =>
  Option.bind (hm_sd μ1 181 5665 y2 x4) fun μ5 =>
  (f_X10_undo_L34 w34_1 e60 n) (y2 + (1 : Int32)) μ5)
theorem ok_X10_undo_L34 {fr : Nat} (hfr : 1 ≤ fr) {ν : hm_N} {r : Int32} {μR : hm_M}  (w34_1 : Int32) (e60 : hm_M → Option (Int32 × hm_M))  (he60 : ∀   (μ1 : hm_M), hm_LL ν μ1 → e60 μ1 = some (r, μR) → hm_T (hm_LL ν) m_X10_undo fr 0 0 (some (.int r)) μR 60 [some (.ref 179), some (.int w34_1), none] [] μ1)  : ∀ (n : Nat) (y2 : Int32)  (μ1 : hm_M), hm_LL ν μ1 → f_X10_undo_L34 w34_1 e60 n y2 μ1 = some (r, μR) → hm_T (hm_LL ν) m_X10_undo fr 0 0 (some (.int r)) μR 34 [some (.ref 179), some (.int w34_1), some (.int y2)] [] μ1 := by
  intro n
  induction n with
  | zero =>
    intro y2 μ1 hL h
    unfold f_X10_undo_L34 at h
    cases h
  | succ n ih =>
    intro y2 μ1 hL h
    unfold f_X10_undo_L34 at h
    refine tr_iload_n (pc' := 35) (show decode cX10_undo 34 = .ok (.iload_n 2, 1) by decide +kernel) rfl rfl rfl ?_
    refine tr_bipush (pc' := 37) (v := (25 : Int32)) (show decode cX10_undo 35 = .ok (.bipush 25, 2) by decide +kernel) rfl (by decide) ?_
    rcases hm_is h with ⟨hc, h⟩ | ⟨hc, h⟩
    · refine tr_icmp_ge_t (tgt := 60) hc (show decode cX10_undo 37 = .ok (.if_icmp .ge 23, 3) by decide +kernel) (by decide) ?_
      refine hm_fgt [true, true, false] (lv' := [some (.ref 179), some (.int w34_1), none]) rfl ?_
      exact he60 μ1 hL h
    · refine tr_icmp_ge_f (tgt := 60) (pc' := 40) hc (show decode cX10_undo 37 = .ok (.if_icmp .ge 23, 3) by decide +kernel) (by decide) rfl ?_
      refine tr_aload_n (pc' := 41) (show decode cX10_undo 40 = .ok (.aload_n 0, 1) by decide +kernel) rfl rfl rfl ?_
      refine tr_getR (pc' := 44) fl_HandRingModel_24 (show decode cX10_undo 41 = .ok (.getfield 24, 3) by decide +kernel) rfl (la_o hL (by decide) rfl) (la_r hL 118 rfl) ?_
      refine tr_iload_n (pc' := 45) (show decode cX10_undo 44 = .ok (.iload_n 2, 1) by decide +kernel) rfl rfl rfl ?_
      refine tr_aload_n (pc' := 46) (show decode cX10_undo 45 = .ok (.aload_n 0, 1) by decide +kernel) rfl rfl rfl ?_
      refine tr_getR (pc' := 49) fl_HandRingModel_65 (show decode cX10_undo 46 = .ok (.getfield 65, 3) by decide +kernel) rfl (la_o hL (by decide) rfl) (la_r hL 130 rfl) ?_
      refine tr_iload_n (pc' := 50) (show decode cX10_undo 49 = .ok (.iload_n 1, 1) by decide +kernel) rfl rfl rfl ?_
      refine tr_iload_n (pc' := 51) (show decode cX10_undo 50 = .ok (.iload_n 2, 1) by decide +kernel) rfl rfl rfl ?_
      refine tr_iadd (pc' := 52) (show decode cX10_undo 51 = .ok (.iadd, 1) by decide +kernel) rfl ?_
      obtain ⟨x4, ex4, h⟩ := hm_bs h
      refine tp_ldI (pc' := 53) (show decode cX10_undo 52 = .ok (.iaload, 1) by decide +kernel) rfl (la_a hL (by decide) rfl) ex4 ?_
      obtain ⟨μ5, eμ5, h⟩ := hm_bs h
      refine tp_sdI (pc' := 54) (show decode cX10_undo 53 = .ok (.iastore, 1) by decide +kernel) rfl (la_a hL (by decide) rfl) eμ5 ?_
      replace hL := hL.same (hm_sd_s eμ5)
      refine tr_iinc (pc' := 57) (v := y2 + (1 : Int32)) (lv' := [some (.ref 179), some (.int w34_1), some (.int (y2 + (1 : Int32)))]) (show decode cX10_undo 54 = .ok (.iinc 2 1, 3) by decide +kernel) rfl rfl rfl (Nat.le_of_ble_eq_true rfl) rfl rfl ?_
      refine tr_goto (tgt := 34) (show decode cX10_undo 57 = .ok (.goto (-23), 3) by decide +kernel) rfl ?_
      exact ih (y2 + (1 : Int32)) μ5 hL h
def f_X10_undo (μ : hm_M) : Option (Int32 × hm_M) :=
  (if (μ.1 179 33) = 0 then
  hm_b2 (f_X10_refuses (-3 : Int32) μ) fun x10 μ11 =>
  some (x10, μ11)
  else
  Option.bind (hm_pI μ 179 33 ((μ.1 179 33) - (1 : Int32))) fun μ2 =>
  Option.bind (some ((26 : Int32) * (μ2.1 179 33))) fun x3 =>
  f_X10_undo_L34 x3 (fun μz6 => Option.bind (hm_ld μz6 193 416 (x3 + (25 : Int32))) fun x7 =>
  hm_b2 (f_X10_good x7 μz6) fun x8 μ9 =>
  some (x8, μ9)) hm_fu (0 : Int32) μ2)
set_option maxRecDepth 100000 in
theorem ok_X10_undo {fr : Nat} (hfr : 1 ≤ fr) {ν : hm_N} {r : Int32} {μR : hm_M}    (μ : hm_M) (hL : hm_LL ν μ) (h : f_X10_undo μ = some (r, μR)) : hm_CC (hm_LL ν) m_X10_undo fr 0 0 [.ref 179] μ (some (.int r)) μR := by
  refine hm_enter (lv := [some (.ref 179), none, none]) (by decide) rfl (Nat.le_of_ble_eq_true rfl) ?_
  unfold f_X10_undo at h
  refine tr_aload_n (pc' := 1) (show decode cX10_undo 0 = .ok (.aload_n 0, 1) by decide +kernel) rfl rfl rfl ?_
  refine tr_getI (pc' := 4) fl_HandRingModel_11 (show decode cX10_undo 1 = .ok (.getfield 11, 3) by decide +kernel) rfl (la_o hL (by decide) rfl) ?_
  rcases hm_is h with ⟨hc, h⟩ | ⟨hc, h⟩
  · refine tr_if_ne_f (tgt := 14) (pc' := 7) hc (show decode cX10_undo 4 = .ok (.ifCond .ne 10, 3) by decide +kernel) (by decide) rfl ?_
    refine tr_aload_n (pc' := 8) (show decode cX10_undo 7 = .ok (.aload_n 0, 1) by decide +kernel) rfl rfl rfl ?_
    refine tr_bipush (pc' := 10) (v := (-3 : Int32)) (show decode cX10_undo 8 = .ok (.bipush (-3), 2) by decide +kernel) rfl (by decide) ?_
    obtain ⟨x10, μ11, ex10, h⟩ := hm_b2s h
    have cx10 := ok_X10_refuses (fr := fr - 1) (ν := ν) (by omega) (-3 : Int32) μ hL ex10
    refine tp_callV (pc' := 13) (As := [.int (-3 : Int32)]) (fr1 := fr - 1) (ci := 10) okm_X10_refuses lk_HandRingModel_112 (show decode cX10_undo 10 = .ok (.invokevirtual 112, 3) by decide +kernel) rfl rfl rfl (by decide) (la_o hL (by decide) rfl) rfl rfl (Nat.le_of_ble_eq_true rfl) (by omega) cx10 (st' := [.int x10]) rfl ?_
    replace hL := cx10.1
    cases h
    exact tr_iret rfl (show decode cX10_undo 13 = .ok (.ireturn, 1) by decide +kernel) hL
  · refine tr_if_ne_t (tgt := 14) hc (show decode cX10_undo 4 = .ok (.ifCond .ne 10, 3) by decide +kernel) (by decide) ?_
    refine tr_aload_n (pc' := 15) (show decode cX10_undo 14 = .ok (.aload_n 0, 1) by decide +kernel) rfl rfl rfl ?_
    refine tr_dup (pc' := 16) (show decode cX10_undo 15 = .ok (.dup, 1) by decide +kernel) rfl rfl ?_
    refine tr_getI (pc' := 19) fl_HandRingModel_11 (show decode cX10_undo 16 = .ok (.getfield 11, 3) by decide +kernel) rfl (la_o hL (by decide) rfl) ?_
    refine tr_iconst (pc' := 20) (v := (1 : Int32)) (show decode cX10_undo 19 = .ok (.iconst 1, 1) by decide +kernel) rfl (by decide) ?_
    refine tr_isub (pc' := 21) (show decode cX10_undo 20 = .ok (.isub, 1) by decide +kernel) rfl ?_
    obtain ⟨μ2, eμ2, h⟩ := hm_bs h
    refine tp_pI (pc' := 24) fl_HandRingModel_11 (show decode cX10_undo 21 = .ok (.putfield 11, 3) by decide +kernel) rfl (la_o hL (by decide) rfl) eμ2 ?_
    replace hL := hL.same (hm_pI_s eμ2)
    refine tr_bipush (pc' := 26) (v := (26 : Int32)) (show decode cX10_undo 24 = .ok (.bipush 26, 2) by decide +kernel) rfl (by decide) ?_
    refine tr_aload_n (pc' := 27) (show decode cX10_undo 26 = .ok (.aload_n 0, 1) by decide +kernel) rfl rfl rfl ?_
    refine tr_getI (pc' := 30) fl_HandRingModel_11 (show decode cX10_undo 27 = .ok (.getfield 11, 3) by decide +kernel) rfl (la_o hL (by decide) rfl) ?_
    refine tr_imul (pc' := 31) (show decode cX10_undo 30 = .ok (.imul, 1) by decide +kernel) rfl ?_
    obtain ⟨x3, ex3, h⟩ := hm_bs h
    have ex3 := Option.some.inj ex3
    rw [ex3]
    refine tr_istore_n (pc' := 32) (lv' := [some (.ref 179), some (.int x3), none]) (show decode cX10_undo 31 = .ok (.istore_n 1, 1) by decide +kernel) rfl rfl (Nat.le_of_ble_eq_true rfl) rfl rfl ?_
    refine tr_iconst (pc' := 33) (v := (0 : Int32)) (show decode cX10_undo 32 = .ok (.iconst 0, 1) by decide +kernel) rfl (by decide) ?_
    refine tr_istore_n (pc' := 34) (lv' := [some (.ref 179), some (.int x3), some (.int (0 : Int32))]) (show decode cX10_undo 33 = .ok (.istore_n 2, 1) by decide +kernel) rfl rfl (Nat.le_of_ble_eq_true rfl) rfl rfl ?_
    refine ok_X10_undo_L34 hfr x3 _ ?_ _ (0 : Int32) μ2 hL h
    · intro μz6 hL h
      refine tr_aload_n (pc' := 61) (show decode cX10_undo 60 = .ok (.aload_n 0, 1) by decide +kernel) rfl rfl rfl ?_
      refine tr_aload_n (pc' := 62) (show decode cX10_undo 61 = .ok (.aload_n 0, 1) by decide +kernel) rfl rfl rfl ?_
      refine tr_getR (pc' := 65) fl_HandRingModel_65 (show decode cX10_undo 62 = .ok (.getfield 65, 3) by decide +kernel) rfl (la_o hL (by decide) rfl) (la_r hL 130 rfl) ?_
      refine tr_iload_n (pc' := 66) (show decode cX10_undo 65 = .ok (.iload_n 1, 1) by decide +kernel) rfl rfl rfl ?_
      refine tr_bipush (pc' := 68) (v := (25 : Int32)) (show decode cX10_undo 66 = .ok (.bipush 25, 2) by decide +kernel) rfl (by decide) ?_
      refine tr_iadd (pc' := 69) (show decode cX10_undo 68 = .ok (.iadd, 1) by decide +kernel) rfl ?_
      obtain ⟨x7, ex7, h⟩ := hm_bs h
      refine tp_ldI (pc' := 70) (show decode cX10_undo 69 = .ok (.iaload, 1) by decide +kernel) rfl (la_a hL (by decide) rfl) ex7 ?_
      obtain ⟨x8, μ9, ex8, h⟩ := hm_b2s h
      have cx8 := ok_X10_good (fr := fr - 1) (ν := ν) (by omega) x7 μz6 hL ex8
      refine tp_callV (pc' := 73) (As := [.int x7]) (fr1 := fr - 1) (ci := 10) okm_X10_good lk_HandRingModel_14 (show decode cX10_undo 70 = .ok (.invokevirtual 14, 3) by decide +kernel) rfl rfl rfl (by decide) (la_o hL (by decide) rfl) rfl rfl (Nat.le_of_ble_eq_true rfl) (by omega) cx8 (st' := [.int x8]) rfl ?_
      replace hL := cx8.1
      cases h
      exact tr_iret rfl (show decode cX10_undo 73 = .ok (.ireturn, 1) by decide +kernel) hL
def f_X10_goodOr (v1 : Int32) (μ : hm_M) : Option (Int32 × hm_M) :=
  (if 0 ≤ v1 then
  hm_b2 (f_X10_good v1 μ) fun x2 μ3 =>
  some (x2, μ3)
  else
  hm_b2 (f_X10_refuses v1 μ) fun x4 μ5 =>
  some (x4, μ5))
set_option maxRecDepth 100000 in
theorem ok_X10_goodOr {fr : Nat} (hfr : 1 ≤ fr) {ν : hm_N} {r : Int32} {μR : hm_M}  (v1 : Int32)  (μ : hm_M) (hL : hm_LL ν μ) (h : f_X10_goodOr v1 μ = some (r, μR)) : hm_CC (hm_LL ν) m_X10_goodOr fr 0 0 [.ref 179, .int v1] μ (some (.int r)) μR := by
  refine hm_enter (lv := [some (.ref 179), some (.int v1)]) (by decide) rfl (Nat.le_of_ble_eq_true rfl) ?_
  unfold f_X10_goodOr at h
  refine tr_iload_n (pc' := 1) (show decode cX10_goodOr 0 = .ok (.iload_n 1, 1) by decide +kernel) rfl rfl rfl ?_
  rcases hm_is h with ⟨hc, h⟩ | ⟨hc, h⟩
  · refine tr_if_ge_t (tgt := 12) hc (show decode cX10_goodOr 1 = .ok (.ifCond .ge 11, 3) by decide +kernel) (by decide) ?_
    refine tr_aload_n (pc' := 13) (show decode cX10_goodOr 12 = .ok (.aload_n 0, 1) by decide +kernel) rfl rfl rfl ?_
    refine tr_iload_n (pc' := 14) (show decode cX10_goodOr 13 = .ok (.iload_n 1, 1) by decide +kernel) rfl rfl rfl ?_
    obtain ⟨x2, μ3, ex2, h⟩ := hm_b2s h
    have cx2 := ok_X10_good (fr := fr - 1) (ν := ν) (by omega) v1 μ hL ex2
    refine tp_callV (pc' := 17) (As := [.int v1]) (fr1 := fr - 1) (ci := 10) okm_X10_good lk_HandRingModel_14 (show decode cX10_goodOr 14 = .ok (.invokevirtual 14, 3) by decide +kernel) rfl rfl rfl (by decide) (la_o hL (by decide) rfl) rfl rfl (Nat.le_of_ble_eq_true rfl) (by omega) cx2 (st' := [.int x2]) rfl ?_
    replace hL := cx2.1
    cases h
    exact tr_iret rfl (show decode cX10_goodOr 17 = .ok (.ireturn, 1) by decide +kernel) hL
  · refine tr_if_ge_f (tgt := 12) (pc' := 4) hc (show decode cX10_goodOr 1 = .ok (.ifCond .ge 11, 3) by decide +kernel) (by decide) rfl ?_
    refine tr_aload_n (pc' := 5) (show decode cX10_goodOr 4 = .ok (.aload_n 0, 1) by decide +kernel) rfl rfl rfl ?_
    refine tr_iload_n (pc' := 6) (show decode cX10_goodOr 5 = .ok (.iload_n 1, 1) by decide +kernel) rfl rfl rfl ?_
    obtain ⟨x4, μ5, ex4, h⟩ := hm_b2s h
    have cx4 := ok_X10_refuses (fr := fr - 1) (ν := ν) (by omega) v1 μ hL ex4
    refine tp_callV (pc' := 9) (As := [.int v1]) (fr1 := fr - 1) (ci := 10) okm_X10_refuses lk_HandRingModel_112 (show decode cX10_goodOr 6 = .ok (.invokevirtual 112, 3) by decide +kernel) rfl rfl rfl (by decide) (la_o hL (by decide) rfl) rfl rfl (Nat.le_of_ble_eq_true rfl) (by omega) cx4 (st' := [.int x4]) rfl ?_
    replace hL := cx4.1
    refine tr_goto (tgt := 17) (show decode cX10_goodOr 9 = .ok (.goto 8, 3) by decide +kernel) rfl ?_
    cases h
    exact tr_iret rfl (show decode cX10_goodOr 17 = .ok (.ireturn, 1) by decide +kernel) hL
def f_X10_takesKept (v1 : Int32) (v2 : Int32) (μ : hm_M) : Option (Int32 × hm_M) :=
  (if v1 = v2 then
  some ((-1 : Int32), μ)
  else
  Option.bind (f_X10_isPerson v1 μ) fun x2 =>
  (if x2 = 0 then
  some ((-2 : Int32), μ)
  else
  Option.bind (f_X10_isPerson v2 μ) fun x3 =>
  (if x3 = 0 then
  some ((-2 : Int32), μ)
  else
  hm_b2 (f_X10_canTake v1 v2 μ) fun x4 μ5 =>
  (if x4 = 0 then
  some ((-3 : Int32), μ5)
  else
  Option.bind (f_X10_keeps (0 : Int32) μ5) fun μ7 =>
  Option.bind (f_X10_changesHold v1 v2 μ7) fun μ9 =>
  hm_b2 (f_X10_lostOf v1 v2 μ9) fun x10 μ11 =>
  some (x10, μ11)))))
set_option maxRecDepth 100000 in
theorem ok_X10_takesKept {fr : Nat} (hfr : 91 ≤ fr) {ν : hm_N} {r : Int32} {μR : hm_M}  (v1 : Int32) (v2 : Int32)  (μ : hm_M) (hL : hm_LL ν μ) (h : f_X10_takesKept v1 v2 μ = some (r, μR)) : hm_CC (hm_LL ν) m_X10_takesKept fr 0 0 [.ref 179, .int v1, .int v2] μ (some (.int r)) μR := by
  refine hm_enter (lv := [some (.ref 179), some (.int v1), some (.int v2)]) (by decide) rfl (Nat.le_of_ble_eq_true rfl) ?_
  unfold f_X10_takesKept at h
  refine tr_iload_n (pc' := 1) (show decode cX10_takesKept 0 = .ok (.iload_n 1, 1) by decide +kernel) rfl rfl rfl ?_
  refine tr_iload_n (pc' := 2) (show decode cX10_takesKept 1 = .ok (.iload_n 2, 1) by decide +kernel) rfl rfl rfl ?_
  rcases hm_is h with ⟨hc, h⟩ | ⟨hc, h⟩
  · refine tr_icmp_ne_f (tgt := 7) (pc' := 5) hc (show decode cX10_takesKept 2 = .ok (.if_icmp .ne 5, 3) by decide +kernel) (by decide) rfl ?_
    refine tr_iconst (pc' := 6) (v := (-1 : Int32)) (show decode cX10_takesKept 5 = .ok (.iconst (-1), 1) by decide +kernel) rfl (by decide) ?_
    cases h
    exact tr_iret rfl (show decode cX10_takesKept 6 = .ok (.ireturn, 1) by decide +kernel) hL
  · refine tr_icmp_ne_t (tgt := 7) hc (show decode cX10_takesKept 2 = .ok (.if_icmp .ne 5, 3) by decide +kernel) (by decide) ?_
    refine tr_aload_n (pc' := 8) (show decode cX10_takesKept 7 = .ok (.aload_n 0, 1) by decide +kernel) rfl rfl rfl ?_
    refine tr_iload_n (pc' := 9) (show decode cX10_takesKept 8 = .ok (.iload_n 1, 1) by decide +kernel) rfl rfl rfl ?_
    obtain ⟨x2, ex2, h⟩ := hm_bs h
    have cx2 := ok_X10_isPerson (fr := fr - 1) (ν := ν) (by omega) v1 μ hL ex2
    refine tp_callV (pc' := 12) (As := [.int v1]) (fr1 := fr - 1) (ci := 10) okm_X10_isPerson lk_HandRingModel_122 (show decode cX10_takesKept 9 = .ok (.invokevirtual 122, 3) by decide +kernel) rfl rfl rfl (by decide) (la_o hL (by decide) rfl) rfl rfl (Nat.le_of_ble_eq_true rfl) (by omega) cx2 (st' := [.int x2]) rfl ?_
    rcases hm_is h with ⟨hc, h⟩ | ⟨hc, h⟩
    · refine tr_if_eq_t (tgt := 23) hc (show decode cX10_takesKept 12 = .ok (.ifCond .eq 11, 3) by decide +kernel) (by decide) ?_
      refine tr_bipush (pc' := 25) (v := (-2 : Int32)) (show decode cX10_takesKept 23 = .ok (.bipush (-2), 2) by decide +kernel) rfl (by decide) ?_
      cases h
      exact tr_iret rfl (show decode cX10_takesKept 25 = .ok (.ireturn, 1) by decide +kernel) hL
    · refine tr_if_eq_f (tgt := 23) (pc' := 15) hc (show decode cX10_takesKept 12 = .ok (.ifCond .eq 11, 3) by decide +kernel) (by decide) rfl ?_
      refine tr_aload_n (pc' := 16) (show decode cX10_takesKept 15 = .ok (.aload_n 0, 1) by decide +kernel) rfl rfl rfl ?_
      refine tr_iload_n (pc' := 17) (show decode cX10_takesKept 16 = .ok (.iload_n 2, 1) by decide +kernel) rfl rfl rfl ?_
      obtain ⟨x3, ex3, h⟩ := hm_bs h
      have cx3 := ok_X10_isPerson (fr := fr - 1) (ν := ν) (by omega) v2 μ hL ex3
      refine tp_callV (pc' := 20) (As := [.int v2]) (fr1 := fr - 1) (ci := 10) okm_X10_isPerson lk_HandRingModel_122 (show decode cX10_takesKept 17 = .ok (.invokevirtual 122, 3) by decide +kernel) rfl rfl rfl (by decide) (la_o hL (by decide) rfl) rfl rfl (Nat.le_of_ble_eq_true rfl) (by omega) cx3 (st' := [.int x3]) rfl ?_
      rcases hm_is h with ⟨hc, h⟩ | ⟨hc, h⟩
      · refine tr_if_ne_f (tgt := 26) (pc' := 23) hc (show decode cX10_takesKept 20 = .ok (.ifCond .ne 6, 3) by decide +kernel) (by decide) rfl ?_
        refine tr_bipush (pc' := 25) (v := (-2 : Int32)) (show decode cX10_takesKept 23 = .ok (.bipush (-2), 2) by decide +kernel) rfl (by decide) ?_
        cases h
        exact tr_iret rfl (show decode cX10_takesKept 25 = .ok (.ireturn, 1) by decide +kernel) hL
      · refine tr_if_ne_t (tgt := 26) hc (show decode cX10_takesKept 20 = .ok (.ifCond .ne 6, 3) by decide +kernel) (by decide) ?_
        refine tr_aload_n (pc' := 27) (show decode cX10_takesKept 26 = .ok (.aload_n 0, 1) by decide +kernel) rfl rfl rfl ?_
        refine tr_iload_n (pc' := 28) (show decode cX10_takesKept 27 = .ok (.iload_n 1, 1) by decide +kernel) rfl rfl rfl ?_
        refine tr_iload_n (pc' := 29) (show decode cX10_takesKept 28 = .ok (.iload_n 2, 1) by decide +kernel) rfl rfl rfl ?_
        obtain ⟨x4, μ5, ex4, h⟩ := hm_b2s h
        have cx4 := ok_X10_canTake (fr := fr - 1) (ν := ν) (by omega) v1 v2 μ hL ex4
        refine tp_callV (pc' := 32) (As := [.int v1, .int v2]) (fr1 := fr - 1) (ci := 10) okm_X10_canTake lk_HandRingModel_365 (show decode cX10_takesKept 29 = .ok (.invokevirtual 365, 3) by decide +kernel) rfl rfl rfl (by decide) (la_o hL (by decide) rfl) rfl rfl (Nat.le_of_ble_eq_true rfl) (by omega) cx4 (st' := [.int x4]) rfl ?_
        replace hL := cx4.1
        rcases hm_is h with ⟨hc, h⟩ | ⟨hc, h⟩
        · refine tr_if_ne_f (tgt := 38) (pc' := 35) hc (show decode cX10_takesKept 32 = .ok (.ifCond .ne 6, 3) by decide +kernel) (by decide) rfl ?_
          refine tr_bipush (pc' := 37) (v := (-3 : Int32)) (show decode cX10_takesKept 35 = .ok (.bipush (-3), 2) by decide +kernel) rfl (by decide) ?_
          cases h
          exact tr_iret rfl (show decode cX10_takesKept 37 = .ok (.ireturn, 1) by decide +kernel) hL
        · refine tr_if_ne_t (tgt := 38) hc (show decode cX10_takesKept 32 = .ok (.ifCond .ne 6, 3) by decide +kernel) (by decide) ?_
          refine tr_aload_n (pc' := 39) (show decode cX10_takesKept 38 = .ok (.aload_n 0, 1) by decide +kernel) rfl rfl rfl ?_
          refine tr_iconst (pc' := 40) (v := (0 : Int32)) (show decode cX10_takesKept 39 = .ok (.iconst 0, 1) by decide +kernel) rfl (by decide) ?_
          obtain ⟨μ7, ex6, h⟩ := hm_bs h
          have cx6 := ok_X10_keeps (fr := fr - 1) (ν := ν) (by omega) (0 : Int32) μ5 hL ex6
          refine tp_callV (pc' := 43) (As := [.int (0 : Int32)]) (fr1 := fr - 1) (ci := 10) okm_X10_keeps lk_HandRingModel_368 (show decode cX10_takesKept 40 = .ok (.invokevirtual 368, 3) by decide +kernel) rfl rfl rfl (by decide) (la_o hL (by decide) rfl) rfl rfl (Nat.le_of_ble_eq_true rfl) (by omega) cx6 (st' := []) rfl ?_
          replace hL := cx6.1
          refine tr_aload_n (pc' := 44) (show decode cX10_takesKept 43 = .ok (.aload_n 0, 1) by decide +kernel) rfl rfl rfl ?_
          refine tr_iload_n (pc' := 45) (show decode cX10_takesKept 44 = .ok (.iload_n 1, 1) by decide +kernel) rfl rfl rfl ?_
          refine tr_iload_n (pc' := 46) (show decode cX10_takesKept 45 = .ok (.iload_n 2, 1) by decide +kernel) rfl rfl rfl ?_
          obtain ⟨μ9, ex8, h⟩ := hm_bs h
          have cx8 := ok_X10_changesHold (fr := fr - 1) (ν := ν) (by omega) v1 v2 μ7 hL ex8
          refine tp_callV (pc' := 49) (As := [.int v1, .int v2]) (fr1 := fr - 1) (ci := 10) okm_X10_changesHold lk_HandRingModel_359 (show decode cX10_takesKept 46 = .ok (.invokevirtual 359, 3) by decide +kernel) rfl rfl rfl (by decide) (la_o hL (by decide) rfl) rfl rfl (Nat.le_of_ble_eq_true rfl) (by omega) cx8 (st' := []) rfl ?_
          replace hL := cx8.1
          refine tr_aload_n (pc' := 50) (show decode cX10_takesKept 49 = .ok (.aload_n 0, 1) by decide +kernel) rfl rfl rfl ?_
          refine tr_iload_n (pc' := 51) (show decode cX10_takesKept 50 = .ok (.iload_n 1, 1) by decide +kernel) rfl rfl rfl ?_
          refine tr_iload_n (pc' := 52) (show decode cX10_takesKept 51 = .ok (.iload_n 2, 1) by decide +kernel) rfl rfl rfl ?_
          obtain ⟨x10, μ11, ex10, h⟩ := hm_b2s h
          have cx10 := ok_X10_lostOf (fr := fr - 1) (ν := ν) (by omega) v1 v2 μ9 hL ex10
          refine tp_callV (pc' := 55) (As := [.int v1, .int v2]) (fr1 := fr - 1) (ci := 10) okm_X10_lostOf lk_HandRingModel_150 (show decode cX10_takesKept 52 = .ok (.invokevirtual 150, 3) by decide +kernel) rfl rfl rfl (by decide) (la_o hL (by decide) rfl) rfl rfl (Nat.le_of_ble_eq_true rfl) (by omega) cx10 (st' := [.int x10]) rfl ?_
          replace hL := cx10.1
          cases h
          exact tr_iret rfl (show decode cX10_takesKept 55 = .ok (.ireturn, 1) by decide +kernel) hL
def f_X10_loosesKept (v1 : Int32) (v2 : Int32) (μ : hm_M) : Option (Int32 × hm_M) :=
  (if v1 = v2 then
  some ((-1 : Int32), μ)
  else
  Option.bind (f_X10_isPerson v1 μ) fun x2 =>
  (if x2 = 0 then
  some ((-2 : Int32), μ)
  else
  Option.bind (f_X10_isPerson v2 μ) fun x3 =>
  (if x3 = 0 then
  some ((-2 : Int32), μ)
  else
  Option.bind (hm_ld μ 181 5665 ((16 : Int32) + v1)) fun x4 =>
  Option.bind (f_X10_isIn x4 v2) fun x5 =>
  (if x5 = 0 then
  some ((-3 : Int32), μ)
  else
  Option.bind (f_X10_keeps (1 : Int32) μ) fun μ7 =>
  Option.bind (f_X10_changesHold v1 v2 μ7) fun μ9 =>
  Option.bind (f_X10_holdMany μ9) fun x10 =>
  some (x10, μ9)))))
set_option maxRecDepth 100000 in
theorem ok_X10_loosesKept {fr : Nat} (hfr : 2 ≤ fr) {ν : hm_N} {r : Int32} {μR : hm_M}  (v1 : Int32) (v2 : Int32)  (μ : hm_M) (hL : hm_LL ν μ) (h : f_X10_loosesKept v1 v2 μ = some (r, μR)) : hm_CC (hm_LL ν) m_X10_loosesKept fr 0 0 [.ref 179, .int v1, .int v2] μ (some (.int r)) μR := by
  refine hm_enter (lv := [some (.ref 179), some (.int v1), some (.int v2)]) (by decide) rfl (Nat.le_of_ble_eq_true rfl) ?_
  unfold f_X10_loosesKept at h
  refine tr_iload_n (pc' := 1) (show decode cX10_loosesKept 0 = .ok (.iload_n 1, 1) by decide +kernel) rfl rfl rfl ?_
  refine tr_iload_n (pc' := 2) (show decode cX10_loosesKept 1 = .ok (.iload_n 2, 1) by decide +kernel) rfl rfl rfl ?_
  rcases hm_is h with ⟨hc, h⟩ | ⟨hc, h⟩
  · refine tr_icmp_ne_f (tgt := 7) (pc' := 5) hc (show decode cX10_loosesKept 2 = .ok (.if_icmp .ne 5, 3) by decide +kernel) (by decide) rfl ?_
    refine tr_iconst (pc' := 6) (v := (-1 : Int32)) (show decode cX10_loosesKept 5 = .ok (.iconst (-1), 1) by decide +kernel) rfl (by decide) ?_
    cases h
    exact tr_iret rfl (show decode cX10_loosesKept 6 = .ok (.ireturn, 1) by decide +kernel) hL
  · refine tr_icmp_ne_t (tgt := 7) hc (show decode cX10_loosesKept 2 = .ok (.if_icmp .ne 5, 3) by decide +kernel) (by decide) ?_
    refine tr_aload_n (pc' := 8) (show decode cX10_loosesKept 7 = .ok (.aload_n 0, 1) by decide +kernel) rfl rfl rfl ?_
    refine tr_iload_n (pc' := 9) (show decode cX10_loosesKept 8 = .ok (.iload_n 1, 1) by decide +kernel) rfl rfl rfl ?_
    obtain ⟨x2, ex2, h⟩ := hm_bs h
    have cx2 := ok_X10_isPerson (fr := fr - 1) (ν := ν) (by omega) v1 μ hL ex2
    refine tp_callV (pc' := 12) (As := [.int v1]) (fr1 := fr - 1) (ci := 10) okm_X10_isPerson lk_HandRingModel_122 (show decode cX10_loosesKept 9 = .ok (.invokevirtual 122, 3) by decide +kernel) rfl rfl rfl (by decide) (la_o hL (by decide) rfl) rfl rfl (Nat.le_of_ble_eq_true rfl) (by omega) cx2 (st' := [.int x2]) rfl ?_
    rcases hm_is h with ⟨hc, h⟩ | ⟨hc, h⟩
    · refine tr_if_eq_t (tgt := 23) hc (show decode cX10_loosesKept 12 = .ok (.ifCond .eq 11, 3) by decide +kernel) (by decide) ?_
      refine tr_bipush (pc' := 25) (v := (-2 : Int32)) (show decode cX10_loosesKept 23 = .ok (.bipush (-2), 2) by decide +kernel) rfl (by decide) ?_
      cases h
      exact tr_iret rfl (show decode cX10_loosesKept 25 = .ok (.ireturn, 1) by decide +kernel) hL
    · refine tr_if_eq_f (tgt := 23) (pc' := 15) hc (show decode cX10_loosesKept 12 = .ok (.ifCond .eq 11, 3) by decide +kernel) (by decide) rfl ?_
      refine tr_aload_n (pc' := 16) (show decode cX10_loosesKept 15 = .ok (.aload_n 0, 1) by decide +kernel) rfl rfl rfl ?_
      refine tr_iload_n (pc' := 17) (show decode cX10_loosesKept 16 = .ok (.iload_n 2, 1) by decide +kernel) rfl rfl rfl ?_
      obtain ⟨x3, ex3, h⟩ := hm_bs h
      have cx3 := ok_X10_isPerson (fr := fr - 1) (ν := ν) (by omega) v2 μ hL ex3
      refine tp_callV (pc' := 20) (As := [.int v2]) (fr1 := fr - 1) (ci := 10) okm_X10_isPerson lk_HandRingModel_122 (show decode cX10_loosesKept 17 = .ok (.invokevirtual 122, 3) by decide +kernel) rfl rfl rfl (by decide) (la_o hL (by decide) rfl) rfl rfl (Nat.le_of_ble_eq_true rfl) (by omega) cx3 (st' := [.int x3]) rfl ?_
      rcases hm_is h with ⟨hc, h⟩ | ⟨hc, h⟩
      · refine tr_if_ne_f (tgt := 26) (pc' := 23) hc (show decode cX10_loosesKept 20 = .ok (.ifCond .ne 6, 3) by decide +kernel) (by decide) rfl ?_
        refine tr_bipush (pc' := 25) (v := (-2 : Int32)) (show decode cX10_loosesKept 23 = .ok (.bipush (-2), 2) by decide +kernel) rfl (by decide) ?_
        cases h
        exact tr_iret rfl (show decode cX10_loosesKept 25 = .ok (.ireturn, 1) by decide +kernel) hL
      · refine tr_if_ne_t (tgt := 26) hc (show decode cX10_loosesKept 20 = .ok (.ifCond .ne 6, 3) by decide +kernel) (by decide) ?_
        refine tr_aload_n (pc' := 27) (show decode cX10_loosesKept 26 = .ok (.aload_n 0, 1) by decide +kernel) rfl rfl rfl ?_
        refine tr_getR (pc' := 30) fl_HandRingModel_24 (show decode cX10_loosesKept 27 = .ok (.getfield 24, 3) by decide +kernel) rfl (la_o hL (by decide) rfl) (la_r hL 118 rfl) ?_
        refine tr_bipush (pc' := 32) (v := (16 : Int32)) (show decode cX10_loosesKept 30 = .ok (.bipush 16, 2) by decide +kernel) rfl (by decide) ?_
        refine tr_iload_n (pc' := 33) (show decode cX10_loosesKept 32 = .ok (.iload_n 1, 1) by decide +kernel) rfl rfl rfl ?_
        refine tr_iadd (pc' := 34) (show decode cX10_loosesKept 33 = .ok (.iadd, 1) by decide +kernel) rfl ?_
        obtain ⟨x4, ex4, h⟩ := hm_bs h
        refine tp_ldI (pc' := 35) (show decode cX10_loosesKept 34 = .ok (.iaload, 1) by decide +kernel) rfl (la_a hL (by decide) rfl) ex4 ?_
        refine tr_iload_n (pc' := 36) (show decode cX10_loosesKept 35 = .ok (.iload_n 2, 1) by decide +kernel) rfl rfl rfl ?_
        obtain ⟨x5, ex5, h⟩ := hm_bs h
        have cx5 := ok_X10_isIn (fr := fr - 1) (ν := ν) (by omega) x4 v2 μ hL ex5
        refine tp_callS (pc' := 39) (As := [.int x4, .int v2]) (fr1 := fr - 1) okm_X10_isIn lk_HandRingModel_356 (show decode cX10_loosesKept 36 = .ok (.invokestatic 356, 3) by decide +kernel) rfl rfl rfl (Nat.le_of_ble_eq_true rfl) (by omega) cx5 (st' := [.int x5]) rfl ?_
        rcases hm_is h with ⟨hc, h⟩ | ⟨hc, h⟩
        · refine tr_if_ne_f (tgt := 45) (pc' := 42) hc (show decode cX10_loosesKept 39 = .ok (.ifCond .ne 6, 3) by decide +kernel) (by decide) rfl ?_
          refine tr_bipush (pc' := 44) (v := (-3 : Int32)) (show decode cX10_loosesKept 42 = .ok (.bipush (-3), 2) by decide +kernel) rfl (by decide) ?_
          cases h
          exact tr_iret rfl (show decode cX10_loosesKept 44 = .ok (.ireturn, 1) by decide +kernel) hL
        · refine tr_if_ne_t (tgt := 45) hc (show decode cX10_loosesKept 39 = .ok (.ifCond .ne 6, 3) by decide +kernel) (by decide) ?_
          refine tr_aload_n (pc' := 46) (show decode cX10_loosesKept 45 = .ok (.aload_n 0, 1) by decide +kernel) rfl rfl rfl ?_
          refine tr_iconst (pc' := 47) (v := (1 : Int32)) (show decode cX10_loosesKept 46 = .ok (.iconst 1, 1) by decide +kernel) rfl (by decide) ?_
          obtain ⟨μ7, ex6, h⟩ := hm_bs h
          have cx6 := ok_X10_keeps (fr := fr - 1) (ν := ν) (by omega) (1 : Int32) μ hL ex6
          refine tp_callV (pc' := 50) (As := [.int (1 : Int32)]) (fr1 := fr - 1) (ci := 10) okm_X10_keeps lk_HandRingModel_368 (show decode cX10_loosesKept 47 = .ok (.invokevirtual 368, 3) by decide +kernel) rfl rfl rfl (by decide) (la_o hL (by decide) rfl) rfl rfl (Nat.le_of_ble_eq_true rfl) (by omega) cx6 (st' := []) rfl ?_
          replace hL := cx6.1
          refine tr_aload_n (pc' := 51) (show decode cX10_loosesKept 50 = .ok (.aload_n 0, 1) by decide +kernel) rfl rfl rfl ?_
          refine tr_iload_n (pc' := 52) (show decode cX10_loosesKept 51 = .ok (.iload_n 1, 1) by decide +kernel) rfl rfl rfl ?_
          refine tr_iload_n (pc' := 53) (show decode cX10_loosesKept 52 = .ok (.iload_n 2, 1) by decide +kernel) rfl rfl rfl ?_
          obtain ⟨μ9, ex8, h⟩ := hm_bs h
          have cx8 := ok_X10_changesHold (fr := fr - 1) (ν := ν) (by omega) v1 v2 μ7 hL ex8
          refine tp_callV (pc' := 56) (As := [.int v1, .int v2]) (fr1 := fr - 1) (ci := 10) okm_X10_changesHold lk_HandRingModel_359 (show decode cX10_loosesKept 53 = .ok (.invokevirtual 359, 3) by decide +kernel) rfl rfl rfl (by decide) (la_o hL (by decide) rfl) rfl rfl (Nat.le_of_ble_eq_true rfl) (by omega) cx8 (st' := []) rfl ?_
          replace hL := cx8.1
          refine tr_aload_n (pc' := 57) (show decode cX10_loosesKept 56 = .ok (.aload_n 0, 1) by decide +kernel) rfl rfl rfl ?_
          obtain ⟨x10, ex10, h⟩ := hm_bs h
          have cx10 := ok_X10_holdMany (fr := fr - 1) (ν := ν) (by omega) μ9 hL ex10
          refine tp_callV (pc' := 60) (As := []) (fr1 := fr - 1) (ci := 10) okm_X10_holdMany lk_HandRingModel_319 (show decode cX10_loosesKept 57 = .ok (.invokevirtual 319, 3) by decide +kernel) rfl rfl rfl (by decide) (la_o hL (by decide) rfl) rfl rfl (Nat.le_of_ble_eq_true rfl) (by omega) cx10 (st' := [.int x10]) rfl ?_
          cases h
          exact tr_iret rfl (show decode cX10_loosesKept 60 = .ok (.ireturn, 1) by decide +kernel) hL
def f_X10_walksKept (v1 : Int32) (v2 : Int32) (μ : hm_M) : Option (Int32 × hm_M) :=
  Option.bind (f_X10_lies v2 (1 : Int32) (4 : Int32)) fun x2 =>
  (if x2 = 0 then
  some ((-1 : Int32), μ)
  else
  Option.bind (f_X10_isPerson v1 μ) fun x3 =>
  (if x3 = 0 then
  some ((-2 : Int32), μ)
  else
  Option.bind (hm_ld μ 181 5665 ((0 : Int32) + v1)) fun x4 =>
  Option.bind (f_X10_cellAt x4 v2) fun x5 =>
  (if x5 = (-1 : Int32) then
  some ((-3 : Int32), μ)
  else
  Option.bind (f_X10_keeps (2 : Int32) μ) fun μ7 =>
  Option.bind (hm_sd μ7 181 5665 ((0 : Int32) + v1) x5) fun μ8 =>
  hm_b2 (f_X10_loosesAll μ8) fun x9 μ10 =>
  some (x9, μ10))))
set_option maxRecDepth 100000 in
theorem ok_X10_walksKept {fr : Nat} (hfr : 91 ≤ fr) {ν : hm_N} {r : Int32} {μR : hm_M}  (v1 : Int32) (v2 : Int32)  (μ : hm_M) (hL : hm_LL ν μ) (h : f_X10_walksKept v1 v2 μ = some (r, μR)) : hm_CC (hm_LL ν) m_X10_walksKept fr 0 0 [.ref 179, .int v1, .int v2] μ (some (.int r)) μR := by
  refine hm_enter (lv := [some (.ref 179), some (.int v1), some (.int v2), none]) (by decide) rfl (Nat.le_of_ble_eq_true rfl) ?_
  unfold f_X10_walksKept at h
  refine tr_iload_n (pc' := 1) (show decode cX10_walksKept 0 = .ok (.iload_n 2, 1) by decide +kernel) rfl rfl rfl ?_
  refine tr_iconst (pc' := 2) (v := (1 : Int32)) (show decode cX10_walksKept 1 = .ok (.iconst 1, 1) by decide +kernel) rfl (by decide) ?_
  refine tr_iconst (pc' := 3) (v := (4 : Int32)) (show decode cX10_walksKept 2 = .ok (.iconst 4, 1) by decide +kernel) rfl (by decide) ?_
  obtain ⟨x2, ex2, h⟩ := hm_bs h
  have cx2 := ok_X10_lies (fr := fr - 1) (ν := ν) (by omega) v2 (1 : Int32) (4 : Int32) μ hL ex2
  refine tp_callS (pc' := 6) (As := [.int v2, .int (1 : Int32), .int (4 : Int32)]) (fr1 := fr - 1) okm_X10_lies lk_HandRingModel_108 (show decode cX10_walksKept 3 = .ok (.invokestatic 108, 3) by decide +kernel) rfl rfl rfl (Nat.le_of_ble_eq_true rfl) (by omega) cx2 (st' := [.int x2]) rfl ?_
  rcases hm_is h with ⟨hc, h⟩ | ⟨hc, h⟩
  · refine tr_if_ne_f (tgt := 11) (pc' := 9) hc (show decode cX10_walksKept 6 = .ok (.ifCond .ne 5, 3) by decide +kernel) (by decide) rfl ?_
    refine tr_iconst (pc' := 10) (v := (-1 : Int32)) (show decode cX10_walksKept 9 = .ok (.iconst (-1), 1) by decide +kernel) rfl (by decide) ?_
    cases h
    exact tr_iret rfl (show decode cX10_walksKept 10 = .ok (.ireturn, 1) by decide +kernel) hL
  · refine tr_if_ne_t (tgt := 11) hc (show decode cX10_walksKept 6 = .ok (.ifCond .ne 5, 3) by decide +kernel) (by decide) ?_
    refine tr_aload_n (pc' := 12) (show decode cX10_walksKept 11 = .ok (.aload_n 0, 1) by decide +kernel) rfl rfl rfl ?_
    refine tr_iload_n (pc' := 13) (show decode cX10_walksKept 12 = .ok (.iload_n 1, 1) by decide +kernel) rfl rfl rfl ?_
    obtain ⟨x3, ex3, h⟩ := hm_bs h
    have cx3 := ok_X10_isPerson (fr := fr - 1) (ν := ν) (by omega) v1 μ hL ex3
    refine tp_callV (pc' := 16) (As := [.int v1]) (fr1 := fr - 1) (ci := 10) okm_X10_isPerson lk_HandRingModel_122 (show decode cX10_walksKept 13 = .ok (.invokevirtual 122, 3) by decide +kernel) rfl rfl rfl (by decide) (la_o hL (by decide) rfl) rfl rfl (Nat.le_of_ble_eq_true rfl) (by omega) cx3 (st' := [.int x3]) rfl ?_
    rcases hm_is h with ⟨hc, h⟩ | ⟨hc, h⟩
    · refine tr_if_ne_f (tgt := 22) (pc' := 19) hc (show decode cX10_walksKept 16 = .ok (.ifCond .ne 6, 3) by decide +kernel) (by decide) rfl ?_
      refine tr_bipush (pc' := 21) (v := (-2 : Int32)) (show decode cX10_walksKept 19 = .ok (.bipush (-2), 2) by decide +kernel) rfl (by decide) ?_
      cases h
      exact tr_iret rfl (show decode cX10_walksKept 21 = .ok (.ireturn, 1) by decide +kernel) hL
    · refine tr_if_ne_t (tgt := 22) hc (show decode cX10_walksKept 16 = .ok (.ifCond .ne 6, 3) by decide +kernel) (by decide) ?_
      refine tr_aload_n (pc' := 23) (show decode cX10_walksKept 22 = .ok (.aload_n 0, 1) by decide +kernel) rfl rfl rfl ?_
      refine tr_getR (pc' := 26) fl_HandRingModel_24 (show decode cX10_walksKept 23 = .ok (.getfield 24, 3) by decide +kernel) rfl (la_o hL (by decide) rfl) (la_r hL 118 rfl) ?_
      refine tr_iconst (pc' := 27) (v := (0 : Int32)) (show decode cX10_walksKept 26 = .ok (.iconst 0, 1) by decide +kernel) rfl (by decide) ?_
      refine tr_iload_n (pc' := 28) (show decode cX10_walksKept 27 = .ok (.iload_n 1, 1) by decide +kernel) rfl rfl rfl ?_
      refine tr_iadd (pc' := 29) (show decode cX10_walksKept 28 = .ok (.iadd, 1) by decide +kernel) rfl ?_
      obtain ⟨x4, ex4, h⟩ := hm_bs h
      refine tp_ldI (pc' := 30) (show decode cX10_walksKept 29 = .ok (.iaload, 1) by decide +kernel) rfl (la_a hL (by decide) rfl) ex4 ?_
      refine tr_iload_n (pc' := 31) (show decode cX10_walksKept 30 = .ok (.iload_n 2, 1) by decide +kernel) rfl rfl rfl ?_
      obtain ⟨x5, ex5, h⟩ := hm_bs h
      have cx5 := ok_X10_cellAt (fr := fr - 1) (ν := ν) (by omega) x4 v2 μ hL ex5
      refine tp_callS (pc' := 34) (As := [.int x4, .int v2]) (fr1 := fr - 1) okm_X10_cellAt lk_HandRingModel_371 (show decode cX10_walksKept 31 = .ok (.invokestatic 371, 3) by decide +kernel) rfl rfl rfl (Nat.le_of_ble_eq_true rfl) (by omega) cx5 (st' := [.int x5]) rfl ?_
      refine tr_istore_n (pc' := 35) (lv' := [some (.ref 179), some (.int v1), some (.int v2), some (.int x5)]) (show decode cX10_walksKept 34 = .ok (.istore_n 3, 1) by decide +kernel) rfl rfl (Nat.le_of_ble_eq_true rfl) rfl rfl ?_
      refine tr_iload_n (pc' := 36) (show decode cX10_walksKept 35 = .ok (.iload_n 3, 1) by decide +kernel) rfl rfl rfl ?_
      refine tr_iconst (pc' := 37) (v := (-1 : Int32)) (show decode cX10_walksKept 36 = .ok (.iconst (-1), 1) by decide +kernel) rfl (by decide) ?_
      rcases hm_is h with ⟨hc, h⟩ | ⟨hc, h⟩
      · refine tr_icmp_ne_f (tgt := 43) (pc' := 40) hc (show decode cX10_walksKept 37 = .ok (.if_icmp .ne 6, 3) by decide +kernel) (by decide) rfl ?_
        refine tr_bipush (pc' := 42) (v := (-3 : Int32)) (show decode cX10_walksKept 40 = .ok (.bipush (-3), 2) by decide +kernel) rfl (by decide) ?_
        cases h
        exact tr_iret rfl (show decode cX10_walksKept 42 = .ok (.ireturn, 1) by decide +kernel) hL
      · refine tr_icmp_ne_t (tgt := 43) hc (show decode cX10_walksKept 37 = .ok (.if_icmp .ne 6, 3) by decide +kernel) (by decide) ?_
        refine tr_aload_n (pc' := 44) (show decode cX10_walksKept 43 = .ok (.aload_n 0, 1) by decide +kernel) rfl rfl rfl ?_
        refine tr_iconst (pc' := 45) (v := (2 : Int32)) (show decode cX10_walksKept 44 = .ok (.iconst 2, 1) by decide +kernel) rfl (by decide) ?_
        obtain ⟨μ7, ex6, h⟩ := hm_bs h
        have cx6 := ok_X10_keeps (fr := fr - 1) (ν := ν) (by omega) (2 : Int32) μ hL ex6
        refine tp_callV (pc' := 48) (As := [.int (2 : Int32)]) (fr1 := fr - 1) (ci := 10) okm_X10_keeps lk_HandRingModel_368 (show decode cX10_walksKept 45 = .ok (.invokevirtual 368, 3) by decide +kernel) rfl rfl rfl (by decide) (la_o hL (by decide) rfl) rfl rfl (Nat.le_of_ble_eq_true rfl) (by omega) cx6 (st' := []) rfl ?_
        replace hL := cx6.1
        refine tr_aload_n (pc' := 49) (show decode cX10_walksKept 48 = .ok (.aload_n 0, 1) by decide +kernel) rfl rfl rfl ?_
        refine tr_getR (pc' := 52) fl_HandRingModel_24 (show decode cX10_walksKept 49 = .ok (.getfield 24, 3) by decide +kernel) rfl (la_o hL (by decide) rfl) (la_r hL 118 rfl) ?_
        refine tr_iconst (pc' := 53) (v := (0 : Int32)) (show decode cX10_walksKept 52 = .ok (.iconst 0, 1) by decide +kernel) rfl (by decide) ?_
        refine tr_iload_n (pc' := 54) (show decode cX10_walksKept 53 = .ok (.iload_n 1, 1) by decide +kernel) rfl rfl rfl ?_
        refine tr_iadd (pc' := 55) (show decode cX10_walksKept 54 = .ok (.iadd, 1) by decide +kernel) rfl ?_
        refine tr_iload_n (pc' := 56) (show decode cX10_walksKept 55 = .ok (.iload_n 3, 1) by decide +kernel) rfl rfl rfl ?_
        obtain ⟨μ8, eμ8, h⟩ := hm_bs h
        refine tp_sdI (pc' := 57) (show decode cX10_walksKept 56 = .ok (.iastore, 1) by decide +kernel) rfl (la_a hL (by decide) rfl) eμ8 ?_
        replace hL := hL.same (hm_sd_s eμ8)
        refine tr_aload_n (pc' := 58) (show decode cX10_walksKept 57 = .ok (.aload_n 0, 1) by decide +kernel) rfl rfl rfl ?_
        obtain ⟨x9, μ10, ex9, h⟩ := hm_b2s h
        have cx9 := ok_X10_loosesAll (fr := fr - 1) (ν := ν) (by omega) μ8 hL ex9
        refine tp_callV (pc' := 61) (As := []) (fr1 := fr - 1) (ci := 10) okm_X10_loosesAll lk_HandRingModel_362 (show decode cX10_walksKept 58 = .ok (.invokevirtual 362, 3) by decide +kernel) rfl rfl rfl (by decide) (la_o hL (by decide) rfl) rfl rfl (Nat.le_of_ble_eq_true rfl) (by omega) cx9 (st' := [.int x9]) rfl ?_
        replace hL := cx9.1
        cases h
        exact tr_iret rfl (show decode cX10_walksKept 61 = .ok (.ireturn, 1) by decide +kernel) hL
def f_X10_passesKept (μ : hm_M) : Option (Int32 × hm_M) :=
  Option.bind (hm_ld μ 181 5665 (24 : Int32)) fun x2 =>
  (if x2 = (999 : Int32) then
  some ((-3 : Int32), μ)
  else
  Option.bind (f_X10_keeps (3 : Int32) μ) fun μ4 =>
  Option.bind (f_X10_dayPasses μ4) fun μ6 =>
  Option.bind (hm_ld μ6 181 5665 (24 : Int32)) fun x7 =>
  some (x7, μ6))
set_option maxRecDepth 100000 in
theorem ok_X10_passesKept {fr : Nat} (hfr : 92 ≤ fr) {ν : hm_N} {r : Int32} {μR : hm_M}    (μ : hm_M) (hL : hm_LL ν μ) (h : f_X10_passesKept μ = some (r, μR)) : hm_CC (hm_LL ν) m_X10_passesKept fr 0 0 [.ref 179] μ (some (.int r)) μR := by
  refine hm_enter (lv := [some (.ref 179)]) (by decide) rfl (Nat.le_of_ble_eq_true rfl) ?_
  unfold f_X10_passesKept at h
  refine tr_aload_n (pc' := 1) (show decode cX10_passesKept 0 = .ok (.aload_n 0, 1) by decide +kernel) rfl rfl rfl ?_
  refine tr_getR (pc' := 4) fl_HandRingModel_24 (show decode cX10_passesKept 1 = .ok (.getfield 24, 3) by decide +kernel) rfl (la_o hL (by decide) rfl) (la_r hL 118 rfl) ?_
  refine tr_bipush (pc' := 6) (v := (24 : Int32)) (show decode cX10_passesKept 4 = .ok (.bipush 24, 2) by decide +kernel) rfl (by decide) ?_
  obtain ⟨x2, ex2, h⟩ := hm_bs h
  refine tp_ldI (pc' := 7) (show decode cX10_passesKept 6 = .ok (.iaload, 1) by decide +kernel) rfl (la_a hL (by decide) rfl) ex2 ?_
  refine tr_sipush (pc' := 10) (v := (999 : Int32)) (show decode cX10_passesKept 7 = .ok (.sipush 999, 3) by decide +kernel) rfl (by decide) ?_
  rcases hm_is h with ⟨hc, h⟩ | ⟨hc, h⟩
  · refine tr_icmp_ne_f (tgt := 16) (pc' := 13) hc (show decode cX10_passesKept 10 = .ok (.if_icmp .ne 6, 3) by decide +kernel) (by decide) rfl ?_
    refine tr_bipush (pc' := 15) (v := (-3 : Int32)) (show decode cX10_passesKept 13 = .ok (.bipush (-3), 2) by decide +kernel) rfl (by decide) ?_
    cases h
    exact tr_iret rfl (show decode cX10_passesKept 15 = .ok (.ireturn, 1) by decide +kernel) hL
  · refine tr_icmp_ne_t (tgt := 16) hc (show decode cX10_passesKept 10 = .ok (.if_icmp .ne 6, 3) by decide +kernel) (by decide) ?_
    refine tr_aload_n (pc' := 17) (show decode cX10_passesKept 16 = .ok (.aload_n 0, 1) by decide +kernel) rfl rfl rfl ?_
    refine tr_iconst (pc' := 18) (v := (3 : Int32)) (show decode cX10_passesKept 17 = .ok (.iconst 3, 1) by decide +kernel) rfl (by decide) ?_
    obtain ⟨μ4, ex3, h⟩ := hm_bs h
    have cx3 := ok_X10_keeps (fr := fr - 1) (ν := ν) (by omega) (3 : Int32) μ hL ex3
    refine tp_callV (pc' := 21) (As := [.int (3 : Int32)]) (fr1 := fr - 1) (ci := 10) okm_X10_keeps lk_HandRingModel_368 (show decode cX10_passesKept 18 = .ok (.invokevirtual 368, 3) by decide +kernel) rfl rfl rfl (by decide) (la_o hL (by decide) rfl) rfl rfl (Nat.le_of_ble_eq_true rfl) (by omega) cx3 (st' := []) rfl ?_
    replace hL := cx3.1
    refine tr_aload_n (pc' := 22) (show decode cX10_passesKept 21 = .ok (.aload_n 0, 1) by decide +kernel) rfl rfl rfl ?_
    obtain ⟨μ6, ex5, h⟩ := hm_bs h
    have cx5 := ok_X10_dayPasses (fr := fr - 1) (ν := ν) (by omega) μ4 hL ex5
    refine tp_callV (pc' := 25) (As := []) (fr1 := fr - 1) (ci := 10) okm_X10_dayPasses lk_HandRingModel_374 (show decode cX10_passesKept 22 = .ok (.invokevirtual 374, 3) by decide +kernel) rfl rfl rfl (by decide) (la_o hL (by decide) rfl) rfl rfl (Nat.le_of_ble_eq_true rfl) (by omega) cx5 (st' := []) rfl ?_
    replace hL := cx5.1
    refine tr_aload_n (pc' := 26) (show decode cX10_passesKept 25 = .ok (.aload_n 0, 1) by decide +kernel) rfl rfl rfl ?_
    refine tr_getR (pc' := 29) fl_HandRingModel_24 (show decode cX10_passesKept 26 = .ok (.getfield 24, 3) by decide +kernel) rfl (la_o hL (by decide) rfl) (la_r hL 118 rfl) ?_
    refine tr_bipush (pc' := 31) (v := (24 : Int32)) (show decode cX10_passesKept 29 = .ok (.bipush 24, 2) by decide +kernel) rfl (by decide) ?_
    obtain ⟨x7, ex7, h⟩ := hm_bs h
    refine tp_ldI (pc' := 32) (show decode cX10_passesKept 31 = .ok (.iaload, 1) by decide +kernel) rfl (la_a hL (by decide) rfl) ex7 ?_
    cases h
    exact tr_iret rfl (show decode cX10_passesKept 32 = .ok (.ireturn, 1) by decide +kernel) hL
def f_X10_take (v1 : Int32) (v2 : Int32) (μ : hm_M) : Option (Int32 × hm_M) :=
  hm_b2 (f_X10_takesKept v1 v2 μ) fun x2 μ3 =>
  hm_b2 (f_X10_goodOr x2 μ3) fun x4 μ5 =>
  some (x4, μ5)
set_option maxRecDepth 100000 in
theorem ok_X10_take {fr : Nat} (hfr : 92 ≤ fr) {ν : hm_N} {r : Int32} {μR : hm_M}  (v1 : Int32) (v2 : Int32)  (μ : hm_M) (hL : hm_LL ν μ) (h : f_X10_take v1 v2 μ = some (r, μR)) : hm_CC (hm_LL ν) m_X10_take fr 0 0 [.ref 179, .int v1, .int v2] μ (some (.int r)) μR := by
  refine hm_enter (lv := [some (.ref 179), some (.int v1), some (.int v2)]) (by decide) rfl (Nat.le_of_ble_eq_true rfl) ?_
  unfold f_X10_take at h
  refine tr_aload_n (pc' := 1) (show decode cX10_take 0 = .ok (.aload_n 0, 1) by decide +kernel) rfl rfl rfl ?_
  refine tr_aload_n (pc' := 2) (show decode cX10_take 1 = .ok (.aload_n 0, 1) by decide +kernel) rfl rfl rfl ?_
  refine tr_iload_n (pc' := 3) (show decode cX10_take 2 = .ok (.iload_n 1, 1) by decide +kernel) rfl rfl rfl ?_
  refine tr_iload_n (pc' := 4) (show decode cX10_take 3 = .ok (.iload_n 2, 1) by decide +kernel) rfl rfl rfl ?_
  obtain ⟨x2, μ3, ex2, h⟩ := hm_b2s h
  have cx2 := ok_X10_takesKept (fr := fr - 1) (ν := ν) (by omega) v1 v2 μ hL ex2
  refine tp_callV (pc' := 7) (As := [.int v1, .int v2]) (fr1 := fr - 1) (ci := 10) okm_X10_takesKept lk_HandRingModel_377 (show decode cX10_take 4 = .ok (.invokevirtual 377, 3) by decide +kernel) rfl rfl rfl (by decide) (la_o hL (by decide) rfl) rfl rfl (Nat.le_of_ble_eq_true rfl) (by omega) cx2 (st' := [.int x2, .ref 179]) rfl ?_
  replace hL := cx2.1
  obtain ⟨x4, μ5, ex4, h⟩ := hm_b2s h
  have cx4 := ok_X10_goodOr (fr := fr - 1) (ν := ν) (by omega) x2 μ3 hL ex4
  refine tp_callV (pc' := 10) (As := [.int x2]) (fr1 := fr - 1) (ci := 10) okm_X10_goodOr lk_HandRingModel_380 (show decode cX10_take 7 = .ok (.invokevirtual 380, 3) by decide +kernel) rfl rfl rfl (by decide) (la_o hL (by decide) rfl) rfl rfl (Nat.le_of_ble_eq_true rfl) (by omega) cx4 (st' := [.int x4]) rfl ?_
  replace hL := cx4.1
  cases h
  exact tr_iret rfl (show decode cX10_take 10 = .ok (.ireturn, 1) by decide +kernel) hL
def f_X10_loose (v1 : Int32) (v2 : Int32) (μ : hm_M) : Option (Int32 × hm_M) :=
  hm_b2 (f_X10_loosesKept v1 v2 μ) fun x2 μ3 =>
  hm_b2 (f_X10_goodOr x2 μ3) fun x4 μ5 =>
  some (x4, μ5)
set_option maxRecDepth 100000 in
theorem ok_X10_loose {fr : Nat} (hfr : 3 ≤ fr) {ν : hm_N} {r : Int32} {μR : hm_M}  (v1 : Int32) (v2 : Int32)  (μ : hm_M) (hL : hm_LL ν μ) (h : f_X10_loose v1 v2 μ = some (r, μR)) : hm_CC (hm_LL ν) m_X10_loose fr 0 0 [.ref 179, .int v1, .int v2] μ (some (.int r)) μR := by
  refine hm_enter (lv := [some (.ref 179), some (.int v1), some (.int v2)]) (by decide) rfl (Nat.le_of_ble_eq_true rfl) ?_
  unfold f_X10_loose at h
  refine tr_aload_n (pc' := 1) (show decode cX10_loose 0 = .ok (.aload_n 0, 1) by decide +kernel) rfl rfl rfl ?_
  refine tr_aload_n (pc' := 2) (show decode cX10_loose 1 = .ok (.aload_n 0, 1) by decide +kernel) rfl rfl rfl ?_
  refine tr_iload_n (pc' := 3) (show decode cX10_loose 2 = .ok (.iload_n 1, 1) by decide +kernel) rfl rfl rfl ?_
  refine tr_iload_n (pc' := 4) (show decode cX10_loose 3 = .ok (.iload_n 2, 1) by decide +kernel) rfl rfl rfl ?_
  obtain ⟨x2, μ3, ex2, h⟩ := hm_b2s h
  have cx2 := ok_X10_loosesKept (fr := fr - 1) (ν := ν) (by omega) v1 v2 μ hL ex2
  refine tp_callV (pc' := 7) (As := [.int v1, .int v2]) (fr1 := fr - 1) (ci := 10) okm_X10_loosesKept lk_HandRingModel_383 (show decode cX10_loose 4 = .ok (.invokevirtual 383, 3) by decide +kernel) rfl rfl rfl (by decide) (la_o hL (by decide) rfl) rfl rfl (Nat.le_of_ble_eq_true rfl) (by omega) cx2 (st' := [.int x2, .ref 179]) rfl ?_
  replace hL := cx2.1
  obtain ⟨x4, μ5, ex4, h⟩ := hm_b2s h
  have cx4 := ok_X10_goodOr (fr := fr - 1) (ν := ν) (by omega) x2 μ3 hL ex4
  refine tp_callV (pc' := 10) (As := [.int x2]) (fr1 := fr - 1) (ci := 10) okm_X10_goodOr lk_HandRingModel_380 (show decode cX10_loose 7 = .ok (.invokevirtual 380, 3) by decide +kernel) rfl rfl rfl (by decide) (la_o hL (by decide) rfl) rfl rfl (Nat.le_of_ble_eq_true rfl) (by omega) cx4 (st' := [.int x4]) rfl ?_
  replace hL := cx4.1
  cases h
  exact tr_iret rfl (show decode cX10_loose 10 = .ok (.ireturn, 1) by decide +kernel) hL
def f_X10_walk (v1 : Int32) (v2 : Int32) (μ : hm_M) : Option (Int32 × hm_M) :=
  hm_b2 (f_X10_walksKept v1 v2 μ) fun x2 μ3 =>
  hm_b2 (f_X10_goodOr x2 μ3) fun x4 μ5 =>
  some (x4, μ5)
set_option maxRecDepth 100000 in
theorem ok_X10_walk {fr : Nat} (hfr : 92 ≤ fr) {ν : hm_N} {r : Int32} {μR : hm_M}  (v1 : Int32) (v2 : Int32)  (μ : hm_M) (hL : hm_LL ν μ) (h : f_X10_walk v1 v2 μ = some (r, μR)) : hm_CC (hm_LL ν) m_X10_walk fr 0 0 [.ref 179, .int v1, .int v2] μ (some (.int r)) μR := by
  refine hm_enter (lv := [some (.ref 179), some (.int v1), some (.int v2)]) (by decide) rfl (Nat.le_of_ble_eq_true rfl) ?_
  unfold f_X10_walk at h
  refine tr_aload_n (pc' := 1) (show decode cX10_walk 0 = .ok (.aload_n 0, 1) by decide +kernel) rfl rfl rfl ?_
  refine tr_aload_n (pc' := 2) (show decode cX10_walk 1 = .ok (.aload_n 0, 1) by decide +kernel) rfl rfl rfl ?_
  refine tr_iload_n (pc' := 3) (show decode cX10_walk 2 = .ok (.iload_n 1, 1) by decide +kernel) rfl rfl rfl ?_
  refine tr_iload_n (pc' := 4) (show decode cX10_walk 3 = .ok (.iload_n 2, 1) by decide +kernel) rfl rfl rfl ?_
  obtain ⟨x2, μ3, ex2, h⟩ := hm_b2s h
  have cx2 := ok_X10_walksKept (fr := fr - 1) (ν := ν) (by omega) v1 v2 μ hL ex2
  refine tp_callV (pc' := 7) (As := [.int v1, .int v2]) (fr1 := fr - 1) (ci := 10) okm_X10_walksKept lk_HandRingModel_386 (show decode cX10_walk 4 = .ok (.invokevirtual 386, 3) by decide +kernel) rfl rfl rfl (by decide) (la_o hL (by decide) rfl) rfl rfl (Nat.le_of_ble_eq_true rfl) (by omega) cx2 (st' := [.int x2, .ref 179]) rfl ?_
  replace hL := cx2.1
  obtain ⟨x4, μ5, ex4, h⟩ := hm_b2s h
  have cx4 := ok_X10_goodOr (fr := fr - 1) (ν := ν) (by omega) x2 μ3 hL ex4
  refine tp_callV (pc' := 10) (As := [.int x2]) (fr1 := fr - 1) (ci := 10) okm_X10_goodOr lk_HandRingModel_380 (show decode cX10_walk 7 = .ok (.invokevirtual 380, 3) by decide +kernel) rfl rfl rfl (by decide) (la_o hL (by decide) rfl) rfl rfl (Nat.le_of_ble_eq_true rfl) (by omega) cx4 (st' := [.int x4]) rfl ?_
  replace hL := cx4.1
  cases h
  exact tr_iret rfl (show decode cX10_walk 10 = .ok (.ireturn, 1) by decide +kernel) hL
def f_X10_pass (μ : hm_M) : Option (Int32 × hm_M) :=
  hm_b2 (f_X10_passesKept μ) fun x2 μ3 =>
  hm_b2 (f_X10_goodOr x2 μ3) fun x4 μ5 =>
  some (x4, μ5)
set_option maxRecDepth 100000 in
theorem ok_X10_pass {fr : Nat} (hfr : 93 ≤ fr) {ν : hm_N} {r : Int32} {μR : hm_M}    (μ : hm_M) (hL : hm_LL ν μ) (h : f_X10_pass μ = some (r, μR)) : hm_CC (hm_LL ν) m_X10_pass fr 0 0 [.ref 179] μ (some (.int r)) μR := by
  refine hm_enter (lv := [some (.ref 179)]) (by decide) rfl (Nat.le_of_ble_eq_true rfl) ?_
  unfold f_X10_pass at h
  refine tr_aload_n (pc' := 1) (show decode cX10_pass 0 = .ok (.aload_n 0, 1) by decide +kernel) rfl rfl rfl ?_
  refine tr_aload_n (pc' := 2) (show decode cX10_pass 1 = .ok (.aload_n 0, 1) by decide +kernel) rfl rfl rfl ?_
  obtain ⟨x2, μ3, ex2, h⟩ := hm_b2s h
  have cx2 := ok_X10_passesKept (fr := fr - 1) (ν := ν) (by omega) μ hL ex2
  refine tp_callV (pc' := 5) (As := []) (fr1 := fr - 1) (ci := 10) okm_X10_passesKept lk_HandRingModel_389 (show decode cX10_pass 2 = .ok (.invokevirtual 389, 3) by decide +kernel) rfl rfl rfl (by decide) (la_o hL (by decide) rfl) rfl rfl (Nat.le_of_ble_eq_true rfl) (by omega) cx2 (st' := [.int x2, .ref 179]) rfl ?_
  replace hL := cx2.1
  obtain ⟨x4, μ5, ex4, h⟩ := hm_b2s h
  have cx4 := ok_X10_goodOr (fr := fr - 1) (ν := ν) (by omega) x2 μ3 hL ex4
  refine tp_callV (pc' := 8) (As := [.int x2]) (fr1 := fr - 1) (ci := 10) okm_X10_goodOr lk_HandRingModel_380 (show decode cX10_pass 5 = .ok (.invokevirtual 380, 3) by decide +kernel) rfl rfl rfl (by decide) (la_o hL (by decide) rfl) rfl rfl (Nat.le_of_ble_eq_true rfl) (by omega) cx4 (st' := [.int x4]) rfl ?_
  replace hL := cx4.1
  cases h
  exact tr_iret rfl (show decode cX10_pass 8 = .ok (.ireturn, 1) by decide +kernel) hL
def f_X10_comesTo_J49 (v1 : Int32) (v2 : Int32) (w17_4 : Int32) (c7 : Int32 → Int32 → hm_M → Option Int32) (e61 : Int32 → hm_M → Option Int32) (c17 : Int32 → Int32 → hm_M → Option Int32) (e55 : Int32 → hm_M → Option Int32) (y3 : Int32) (y5 : Int32) (μ1 : hm_M) : Option Int32 :=
  c17 y3 (y5 + (1 : Int32)) μ1
theorem ok_X10_comesTo_J49 {fr : Nat} (hfr : 1 ≤ fr) {ν : hm_N} {r : Int32}  (v1 : Int32) (v2 : Int32) (w17_4 : Int32) (c7 : Int32 → Int32 → hm_M → Option Int32) (e61 : Int32 → hm_M → Option Int32) (c17 : Int32 → Int32 → hm_M → Option Int32) (e55 : Int32 → hm_M → Option Int32) (hc7 : ∀ (y3 : Int32) (y4 : Int32)  (μ1 : hm_M), hm_LL ν μ1 → c7 y3 y4 μ1 = some r → hm_T (hm_LL ν) m_X10_comesTo fr 0 0 (some (.int r)) μ1 7 [some (.ref 179), none, some (.int v2), some (.int y3), some (.int y4), none] [] μ1) (he61 : ∀ (y3 : Int32)  (μ1 : hm_M), hm_LL ν μ1 → e61 y3 μ1 = some r → hm_T (hm_LL ν) m_X10_comesTo fr 0 0 (some (.int r)) μ1 61 [none, none, none, some (.int y3), none, none] [] μ1) (hc17 : ∀ (y3 : Int32) (y5 : Int32)  (μ1 : hm_M), hm_LL ν μ1 → c17 y3 y5 μ1 = some r → hm_T (hm_LL ν) m_X10_comesTo fr 0 0 (some (.int r)) μ1 17 [some (.ref 179), none, some (.int v2), some (.int y3), some (.int w17_4), some (.int y5)] [] μ1) (he55 : ∀ (y3 : Int32)  (μ1 : hm_M), hm_LL ν μ1 → e55 y3 μ1 = some r → hm_T (hm_LL ν) m_X10_comesTo fr 0 0 (some (.int r)) μ1 55 [some (.ref 179), none, some (.int v2), some (.int y3), some (.int w17_4), none] [] μ1)  (y3 : Int32) (y5 : Int32) (μ1 : hm_M) (hL : hm_LL ν μ1) (h : f_X10_comesTo_J49 v1 v2 w17_4 c7 e61 c17 e55 y3 y5 μ1 = some r) : hm_T (hm_LL ν) m_X10_comesTo fr 0 0 (some (.int r)) μ1 49 [some (.ref 179), none, some (.int v2), some (.int y3), some (.int w17_4), some (.int y5)] [] μ1 := by
  unfold f_X10_comesTo_J49 at h
  refine tr_iinc (pc' := 52) (v := y5 + (1 : Int32)) (lv' := [some (.ref 179), none, some (.int v2), some (.int y3), some (.int w17_4), some (.int (y5 + (1 : Int32)))]) (show decode cX10_comesTo 49 = .ok (.iinc 5 1, 3) by decide +kernel) rfl rfl rfl (Nat.le_of_ble_eq_true rfl) rfl rfl ?_
  refine tr_goto (tgt := 17) (show decode cX10_comesTo 52 = .ok (.goto (-35), 3) by decide +kernel) rfl ?_
  exact hc17 y3 (y5 + (1 : Int32)) μ1 hL h
def f_X10_comesTo_L17 (v1 : Int32) (v2 : Int32) (w17_4 : Int32) (c7 : Int32 → Int32 → hm_M → Option Int32) (e61 : Int32 → hm_M → Option Int32) (e55 : Int32 → hm_M → Option Int32) : Nat → Int32 → Int32 → hm_M → Option Int32
  | 0, _, _, _ => none
  | n + 1, y3, y5, μ1 => Option.bind (f_X10_many μ1) fun x3 =>
  (if x3 ≤ y5 then
  e55 y3 μ1
  else
  Option.bind (f_X10_isIn y3 y5) fun x4 =>
  (if x4 = 0 then
  f_X10_comesTo_J49 v1 v2 w17_4 c7 e61 (f_X10_comesTo_L17 v1 v2 w17_4 c7 e61 e55 n) e55 y3 y5 μ1
  else
  Option.bind (hm_ld μ1 195 8 y5) fun x5 =>
  Option.bind (some (y3 ||| (x5 &&& (v2 ^^^ (-1 : Int32))))) fun x6 =>
  f_X10_comesTo_J49 v1 v2 w17_4 c7 e61 (f_X10_comesTo_L17 v1 v2 w17_4 c7 e61 e55 n) e55 x6 y5 μ1))
theorem ok_X10_comesTo_L17 {fr : Nat} (hfr : 1 ≤ fr) {ν : hm_N} {r : Int32}  (v1 : Int32) (v2 : Int32) (w17_4 : Int32) (c7 : Int32 → Int32 → hm_M → Option Int32) (e61 : Int32 → hm_M → Option Int32) (e55 : Int32 → hm_M → Option Int32) (hc7 : ∀ (y3 : Int32) (y4 : Int32)  (μ1 : hm_M), hm_LL ν μ1 → c7 y3 y4 μ1 = some r → hm_T (hm_LL ν) m_X10_comesTo fr 0 0 (some (.int r)) μ1 7 [some (.ref 179), none, some (.int v2), some (.int y3), some (.int y4), none] [] μ1) (he61 : ∀ (y3 : Int32)  (μ1 : hm_M), hm_LL ν μ1 → e61 y3 μ1 = some r → hm_T (hm_LL ν) m_X10_comesTo fr 0 0 (some (.int r)) μ1 61 [none, none, none, some (.int y3), none, none] [] μ1) (he55 : ∀ (y3 : Int32)  (μ1 : hm_M), hm_LL ν μ1 → e55 y3 μ1 = some r → hm_T (hm_LL ν) m_X10_comesTo fr 0 0 (some (.int r)) μ1 55 [some (.ref 179), none, some (.int v2), some (.int y3), some (.int w17_4), none] [] μ1)  : ∀ (n : Nat) (y3 : Int32) (y5 : Int32)  (μ1 : hm_M), hm_LL ν μ1 → f_X10_comesTo_L17 v1 v2 w17_4 c7 e61 e55 n y3 y5 μ1 = some r → hm_T (hm_LL ν) m_X10_comesTo fr 0 0 (some (.int r)) μ1 17 [some (.ref 179), none, some (.int v2), some (.int y3), some (.int w17_4), some (.int y5)] [] μ1 := by
  intro n
  induction n with
  | zero =>
    intro y3 y5 μ1 hL h
    unfold f_X10_comesTo_L17 at h
    cases h
  | succ n ih =>
    intro y3 y5 μ1 hL h
    unfold f_X10_comesTo_L17 at h
    refine tr_iload (pc' := 19) (show decode cX10_comesTo 17 = .ok (.iload 5, 2) by decide +kernel) rfl rfl ?_
    refine tr_aload_n (pc' := 20) (show decode cX10_comesTo 19 = .ok (.aload_n 0, 1) by decide +kernel) rfl rfl rfl ?_
    obtain ⟨x3, ex3, h⟩ := hm_bs h
    have cx3 := ok_X10_many (fr := fr - 1) (ν := ν) (by omega) μ1 hL ex3
    refine tp_callV (pc' := 23) (As := []) (fr1 := fr - 1) (ci := 10) okm_X10_many lk_HandRingModel_118 (show decode cX10_comesTo 20 = .ok (.invokevirtual 118, 3) by decide +kernel) rfl rfl rfl (by decide) (la_o hL (by decide) rfl) rfl rfl (Nat.le_of_ble_eq_true rfl) (by omega) cx3 (st' := [.int x3, .int y5]) rfl ?_
    rcases hm_is h with ⟨hc, h⟩ | ⟨hc, h⟩
    · refine tr_icmp_ge_t (tgt := 55) hc (show decode cX10_comesTo 23 = .ok (.if_icmp .ge 32, 3) by decide +kernel) (by decide) ?_
      refine hm_fgt [true, false, true, true, true, false] (lv' := [some (.ref 179), none, some (.int v2), some (.int y3), some (.int w17_4), none]) rfl ?_
      exact he55 y3 μ1 hL h
    · refine tr_icmp_ge_f (tgt := 55) (pc' := 26) hc (show decode cX10_comesTo 23 = .ok (.if_icmp .ge 32, 3) by decide +kernel) (by decide) rfl ?_
      refine tr_iload_n (pc' := 27) (show decode cX10_comesTo 26 = .ok (.iload_n 3, 1) by decide +kernel) rfl rfl rfl ?_
      refine tr_iload (pc' := 29) (show decode cX10_comesTo 27 = .ok (.iload 5, 2) by decide +kernel) rfl rfl ?_
      obtain ⟨x4, ex4, h⟩ := hm_bs h
      have cx4 := ok_X10_isIn (fr := fr - 1) (ν := ν) (by omega) y3 y5 μ1 hL ex4
      refine tp_callS (pc' := 32) (As := [.int y3, .int y5]) (fr1 := fr - 1) okm_X10_isIn lk_HandRingModel_356 (show decode cX10_comesTo 29 = .ok (.invokestatic 356, 3) by decide +kernel) rfl rfl rfl (Nat.le_of_ble_eq_true rfl) (by omega) cx4 (st' := [.int x4]) rfl ?_
      rcases hm_is h with ⟨hc, h⟩ | ⟨hc, h⟩
      · refine tr_if_eq_t (tgt := 49) hc (show decode cX10_comesTo 32 = .ok (.ifCond .eq 17, 3) by decide +kernel) (by decide) ?_
        exact ok_X10_comesTo_J49 hfr _ _ w17_4 c7 e61 (f_X10_comesTo_L17 v1 v2 w17_4 c7 e61 e55 n) e55 hc7 he61 ih he55 y3 y5 μ1 hL h
      · refine tr_if_eq_f (tgt := 49) (pc' := 35) hc (show decode cX10_comesTo 32 = .ok (.ifCond .eq 17, 3) by decide +kernel) (by decide) rfl ?_
        refine tr_iload_n (pc' := 36) (show decode cX10_comesTo 35 = .ok (.iload_n 3, 1) by decide +kernel) rfl rfl rfl ?_
        refine tr_aload_n (pc' := 37) (show decode cX10_comesTo 36 = .ok (.aload_n 0, 1) by decide +kernel) rfl rfl rfl ?_
        refine tr_getR (pc' := 40) fl_HandRingModel_71 (show decode cX10_comesTo 37 = .ok (.getfield 71, 3) by decide +kernel) rfl (la_o hL (by decide) rfl) (la_r hL 132 rfl) ?_
        refine tr_iload (pc' := 42) (show decode cX10_comesTo 40 = .ok (.iload 5, 2) by decide +kernel) rfl rfl ?_
        obtain ⟨x5, ex5, h⟩ := hm_bs h
        refine tp_ldI (pc' := 43) (show decode cX10_comesTo 42 = .ok (.iaload, 1) by decide +kernel) rfl (la_a hL (by decide) rfl) ex5 ?_
        refine tr_iload_n (pc' := 44) (show decode cX10_comesTo 43 = .ok (.iload_n 2, 1) by decide +kernel) rfl rfl rfl ?_
        refine tr_iconst (pc' := 45) (v := (-1 : Int32)) (show decode cX10_comesTo 44 = .ok (.iconst (-1), 1) by decide +kernel) rfl (by decide) ?_
        refine tr_ixor (pc' := 46) (show decode cX10_comesTo 45 = .ok (.ixor, 1) by decide +kernel) rfl ?_
        refine tr_iand (pc' := 47) (show decode cX10_comesTo 46 = .ok (.iand, 1) by decide +kernel) rfl ?_
        refine tr_ior (pc' := 48) (show decode cX10_comesTo 47 = .ok (.ior, 1) by decide +kernel) rfl ?_
        obtain ⟨x6, ex6, h⟩ := hm_bs h
        have ex6 := Option.some.inj ex6
        rw [ex6]
        refine tr_istore_n (pc' := 49) (lv' := [some (.ref 179), none, some (.int v2), some (.int x6), some (.int w17_4), some (.int y5)]) (show decode cX10_comesTo 48 = .ok (.istore_n 3, 1) by decide +kernel) rfl rfl (Nat.le_of_ble_eq_true rfl) rfl rfl ?_
        exact ok_X10_comesTo_J49 hfr _ _ w17_4 c7 e61 (f_X10_comesTo_L17 v1 v2 w17_4 c7 e61 e55 n) e55 hc7 he61 ih he55 x6 y5 μ1 hL h
def f_X10_comesTo_L7 (v1 : Int32) (v2 : Int32) (e61 : Int32 → hm_M → Option Int32) : Nat → Int32 → Int32 → hm_M → Option Int32
  | 0, _, _, _ => none
  | n + 1, y3, y4, μ1 => (if (8 : Int32) ≤ y4 then
  e61 y3 μ1
  else
  f_X10_comesTo_L17 v1 v2 y4 (f_X10_comesTo_L7 v1 v2 e61 n) e61 (fun z7_3 μz7 => (f_X10_comesTo_L7 v1 v2 e61 n) z7_3 (y4 + (1 : Int32)) μz7) hm_fu y3 (0 : Int32) μ1)
theorem ok_X10_comesTo_L7 {fr : Nat} (hfr : 1 ≤ fr) {ν : hm_N} {r : Int32}  (v1 : Int32) (v2 : Int32) (e61 : Int32 → hm_M → Option Int32)  (he61 : ∀ (y3 : Int32)  (μ1 : hm_M), hm_LL ν μ1 → e61 y3 μ1 = some r → hm_T (hm_LL ν) m_X10_comesTo fr 0 0 (some (.int r)) μ1 61 [none, none, none, some (.int y3), none, none] [] μ1)  : ∀ (n : Nat) (y3 : Int32) (y4 : Int32)  (μ1 : hm_M), hm_LL ν μ1 → f_X10_comesTo_L7 v1 v2 e61 n y3 y4 μ1 = some r → hm_T (hm_LL ν) m_X10_comesTo fr 0 0 (some (.int r)) μ1 7 [some (.ref 179), none, some (.int v2), some (.int y3), some (.int y4), none] [] μ1 := by
  intro n
  induction n with
  | zero =>
    intro y3 y4 μ1 hL h
    unfold f_X10_comesTo_L7 at h
    cases h
  | succ n ih =>
    intro y3 y4 μ1 hL h
    unfold f_X10_comesTo_L7 at h
    refine tr_iload (pc' := 9) (show decode cX10_comesTo 7 = .ok (.iload 4, 2) by decide +kernel) rfl rfl ?_
    refine tr_bipush (pc' := 11) (v := (8 : Int32)) (show decode cX10_comesTo 9 = .ok (.bipush 8, 2) by decide +kernel) rfl (by decide) ?_
    rcases hm_is h with ⟨hc, h⟩ | ⟨hc, h⟩
    · refine tr_icmp_ge_t (tgt := 61) hc (show decode cX10_comesTo 11 = .ok (.if_icmp .ge 50, 3) by decide +kernel) (by decide) ?_
      refine hm_fgt [false, false, false, true, false, false] (lv' := [none, none, none, some (.int y3), none, none]) rfl ?_
      exact he61 y3 μ1 hL h
    · refine tr_icmp_ge_f (tgt := 61) (pc' := 14) hc (show decode cX10_comesTo 11 = .ok (.if_icmp .ge 50, 3) by decide +kernel) (by decide) rfl ?_
      refine tr_iconst (pc' := 15) (v := (0 : Int32)) (show decode cX10_comesTo 14 = .ok (.iconst 0, 1) by decide +kernel) rfl (by decide) ?_
      refine tr_istore (pc' := 17) (lv' := [some (.ref 179), none, some (.int v2), some (.int y3), some (.int y4), some (.int (0 : Int32))]) (show decode cX10_comesTo 15 = .ok (.istore 5, 2) by decide +kernel) rfl (Nat.le_of_ble_eq_true rfl) rfl rfl ?_
      refine ok_X10_comesTo_L17 hfr _ _ y4 (f_X10_comesTo_L7 v1 v2 e61 n) e61 _ ih he61 ?_ _ y3 (0 : Int32) μ1 hL h
      · intro z7_3 μz7 hL h
        refine tr_iinc (pc' := 58) (v := y4 + (1 : Int32)) (lv' := [some (.ref 179), none, some (.int v2), some (.int z7_3), some (.int (y4 + (1 : Int32))), none]) (show decode cX10_comesTo 55 = .ok (.iinc 4 1, 3) by decide +kernel) rfl rfl rfl (Nat.le_of_ble_eq_true rfl) rfl rfl ?_
        refine tr_goto (tgt := 7) (show decode cX10_comesTo 58 = .ok (.goto (-51), 3) by decide +kernel) rfl ?_
        exact ih z7_3 (y4 + (1 : Int32)) μz7 hL h
def f_X10_comesTo (v1 : Int32) (v2 : Int32) (μ : hm_M) : Option Int32 :=
  Option.bind (some ((1 : Int32) <<< (v1 &&& 31))) fun x2 =>
  f_X10_comesTo_L7 v1 v2 (fun z8_3 μz8 => some z8_3) hm_fu x2 (0 : Int32) μ
set_option maxRecDepth 100000 in
theorem ok_X10_comesTo {fr : Nat} (hfr : 1 ≤ fr) {ν : hm_N} {r : Int32}  (v1 : Int32) (v2 : Int32)  (μ : hm_M) (hL : hm_LL ν μ) (h : f_X10_comesTo v1 v2 μ = some r) : hm_CC (hm_LL ν) m_X10_comesTo fr 0 0 [.ref 179, .int v1, .int v2] μ (some (.int r)) μ := by
  refine hm_enter (lv := [some (.ref 179), some (.int v1), some (.int v2), none, none, none]) (by decide) rfl (Nat.le_of_ble_eq_true rfl) ?_
  unfold f_X10_comesTo at h
  refine tr_iconst (pc' := 1) (v := (1 : Int32)) (show decode cX10_comesTo 0 = .ok (.iconst 1, 1) by decide +kernel) rfl (by decide) ?_
  refine tr_iload_n (pc' := 2) (show decode cX10_comesTo 1 = .ok (.iload_n 1, 1) by decide +kernel) rfl rfl rfl ?_
  refine tr_ishl (pc' := 3) (show decode cX10_comesTo 2 = .ok (.ishl, 1) by decide +kernel) rfl ?_
  obtain ⟨x2, ex2, h⟩ := hm_bs h
  have ex2 := Option.some.inj ex2
  rw [ex2]
  refine tr_istore_n (pc' := 4) (lv' := [some (.ref 179), some (.int v1), some (.int v2), some (.int x2), none, none]) (show decode cX10_comesTo 3 = .ok (.istore_n 3, 1) by decide +kernel) rfl rfl (Nat.le_of_ble_eq_true rfl) rfl rfl ?_
  refine tr_iconst (pc' := 5) (v := (0 : Int32)) (show decode cX10_comesTo 4 = .ok (.iconst 0, 1) by decide +kernel) rfl (by decide) ?_
  refine tr_istore (pc' := 7) (lv' := [some (.ref 179), some (.int v1), some (.int v2), some (.int x2), some (.int (0 : Int32)), none]) (show decode cX10_comesTo 5 = .ok (.istore 4, 2) by decide +kernel) rfl (Nat.le_of_ble_eq_true rfl) rfl rfl ?_
  refine hm_fgt [true, false, true, true, true, false] (lv' := [some (.ref 179), none, some (.int v2), some (.int x2), some (.int (0 : Int32)), none]) rfl ?_
  refine ok_X10_comesTo_L7 hfr _ _ _ ?_ _ x2 (0 : Int32) μ hL h
  · intro z8_3 μz8 hL h
    refine tr_iload_n (pc' := 62) (show decode cX10_comesTo 61 = .ok (.iload_n 3, 1) by decide +kernel) rfl rfl rfl ?_
    cases h
    exact tr_iret rfl (show decode cX10_comesTo 62 = .ok (.ireturn, 1) by decide +kernel) hL
def f_X10_laysHolds_L2 (e31 : hm_M → Option hm_M) : Nat → Int32 → hm_M → Option hm_M
  | 0, _, _ => none
  | n + 1, y1, μ1 => Option.bind (f_X10_many μ1) fun x2 =>
  (if x2 ≤ y1 then
  e31 μ1
  else
  Option.bind (hm_ld μ1 181 5665 ((16 : Int32) + y1)) fun x3 =>
  Option.bind (hm_sd μ1 195 8 y1 x3) fun μ4 =>
  (f_X10_laysHolds_L2 e31 n) (y1 + (1 : Int32)) μ4)
theorem ok_X10_laysHolds_L2 {fr : Nat} (hfr : 1 ≤ fr) {ν : hm_N} {μR : hm_M}   (e31 : hm_M → Option hm_M)  (he31 : ∀   (μ1 : hm_M), hm_LL ν μ1 → e31 μ1 = some μR → hm_T (hm_LL ν) m_X10_laysHolds fr 0 0 none μR 31 [none, none] [] μ1)  : ∀ (n : Nat) (y1 : Int32)  (μ1 : hm_M), hm_LL ν μ1 → f_X10_laysHolds_L2 e31 n y1 μ1 = some μR → hm_T (hm_LL ν) m_X10_laysHolds fr 0 0 none μR 2 [some (.ref 179), some (.int y1)] [] μ1 := by
  intro n
  induction n with
  | zero =>
    intro y1 μ1 hL h
    unfold f_X10_laysHolds_L2 at h
    cases h
  | succ n ih =>
    intro y1 μ1 hL h
    unfold f_X10_laysHolds_L2 at h
    refine tr_iload_n (pc' := 3) (show decode cX10_laysHolds 2 = .ok (.iload_n 1, 1) by decide +kernel) rfl rfl rfl ?_
    refine tr_aload_n (pc' := 4) (show decode cX10_laysHolds 3 = .ok (.aload_n 0, 1) by decide +kernel) rfl rfl rfl ?_
    obtain ⟨x2, ex2, h⟩ := hm_bs h
    have cx2 := ok_X10_many (fr := fr - 1) (ν := ν) (by omega) μ1 hL ex2
    refine tp_callV (pc' := 7) (As := []) (fr1 := fr - 1) (ci := 10) okm_X10_many lk_HandRingModel_118 (show decode cX10_laysHolds 4 = .ok (.invokevirtual 118, 3) by decide +kernel) rfl rfl rfl (by decide) (la_o hL (by decide) rfl) rfl rfl (Nat.le_of_ble_eq_true rfl) (by omega) cx2 (st' := [.int x2, .int y1]) rfl ?_
    rcases hm_is h with ⟨hc, h⟩ | ⟨hc, h⟩
    · refine tr_icmp_ge_t (tgt := 31) hc (show decode cX10_laysHolds 7 = .ok (.if_icmp .ge 24, 3) by decide +kernel) (by decide) ?_
      refine hm_fgt [false, false] (lv' := [none, none]) rfl ?_
      exact he31 μ1 hL h
    · refine tr_icmp_ge_f (tgt := 31) (pc' := 10) hc (show decode cX10_laysHolds 7 = .ok (.if_icmp .ge 24, 3) by decide +kernel) (by decide) rfl ?_
      refine tr_aload_n (pc' := 11) (show decode cX10_laysHolds 10 = .ok (.aload_n 0, 1) by decide +kernel) rfl rfl rfl ?_
      refine tr_getR (pc' := 14) fl_HandRingModel_71 (show decode cX10_laysHolds 11 = .ok (.getfield 71, 3) by decide +kernel) rfl (la_o hL (by decide) rfl) (la_r hL 132 rfl) ?_
      refine tr_iload_n (pc' := 15) (show decode cX10_laysHolds 14 = .ok (.iload_n 1, 1) by decide +kernel) rfl rfl rfl ?_
      refine tr_aload_n (pc' := 16) (show decode cX10_laysHolds 15 = .ok (.aload_n 0, 1) by decide +kernel) rfl rfl rfl ?_
      refine tr_getR (pc' := 19) fl_HandRingModel_24 (show decode cX10_laysHolds 16 = .ok (.getfield 24, 3) by decide +kernel) rfl (la_o hL (by decide) rfl) (la_r hL 118 rfl) ?_
      refine tr_bipush (pc' := 21) (v := (16 : Int32)) (show decode cX10_laysHolds 19 = .ok (.bipush 16, 2) by decide +kernel) rfl (by decide) ?_
      refine tr_iload_n (pc' := 22) (show decode cX10_laysHolds 21 = .ok (.iload_n 1, 1) by decide +kernel) rfl rfl rfl ?_
      refine tr_iadd (pc' := 23) (show decode cX10_laysHolds 22 = .ok (.iadd, 1) by decide +kernel) rfl ?_
      obtain ⟨x3, ex3, h⟩ := hm_bs h
      refine tp_ldI (pc' := 24) (show decode cX10_laysHolds 23 = .ok (.iaload, 1) by decide +kernel) rfl (la_a hL (by decide) rfl) ex3 ?_
      obtain ⟨μ4, eμ4, h⟩ := hm_bs h
      refine tp_sdI (pc' := 25) (show decode cX10_laysHolds 24 = .ok (.iastore, 1) by decide +kernel) rfl (la_a hL (by decide) rfl) eμ4 ?_
      replace hL := hL.same (hm_sd_s eμ4)
      refine tr_iinc (pc' := 28) (v := y1 + (1 : Int32)) (lv' := [some (.ref 179), some (.int (y1 + (1 : Int32)))]) (show decode cX10_laysHolds 25 = .ok (.iinc 1 1, 3) by decide +kernel) rfl rfl rfl (Nat.le_of_ble_eq_true rfl) rfl rfl ?_
      refine tr_goto (tgt := 2) (show decode cX10_laysHolds 28 = .ok (.goto (-26), 3) by decide +kernel) rfl ?_
      exact ih (y1 + (1 : Int32)) μ4 hL h
def f_X10_laysHolds (μ : hm_M) : Option hm_M :=
  f_X10_laysHolds_L2 (fun μz5 => some μz5) hm_fu (0 : Int32) μ
set_option maxRecDepth 100000 in
theorem ok_X10_laysHolds {fr : Nat} (hfr : 1 ≤ fr) {ν : hm_N} {μR : hm_M}    (μ : hm_M) (hL : hm_LL ν μ) (h : f_X10_laysHolds μ = some μR) : hm_CC (hm_LL ν) m_X10_laysHolds fr 0 0 [.ref 179] μ none μR := by
  refine hm_enter (lv := [some (.ref 179), none]) (by decide) rfl (Nat.le_of_ble_eq_true rfl) ?_
  unfold f_X10_laysHolds at h
  refine tr_iconst (pc' := 1) (v := (0 : Int32)) (show decode cX10_laysHolds 0 = .ok (.iconst 0, 1) by decide +kernel) rfl (by decide) ?_
  refine tr_istore_n (pc' := 2) (lv' := [some (.ref 179), some (.int (0 : Int32))]) (show decode cX10_laysHolds 1 = .ok (.istore_n 1, 1) by decide +kernel) rfl rfl (Nat.le_of_ble_eq_true rfl) rfl rfl ?_
  refine ok_X10_laysHolds_L2 hfr _ ?_ _ (0 : Int32) μ hL h
  · intro μz5 hL h
    cases h
    exact tr_vret rfl (show decode cX10_laysHolds 31 = .ok (.return_, 1) by decide +kernel) hL
def f_X10_isLit_J46 (c16 : Int32 → Int32 → hm_M → Option (Int32 × hm_M)) (e53 : Int32 → hm_M → Option (Int32 × hm_M)) (s0 : Int32) (y2 : Int32) (μ1 : hm_M) : Option (Int32 × hm_M) :=
  c16 s0 (y2 + (1 : Int32)) μ1
theorem ok_X10_isLit_J46 {fr : Nat} (hfr : 90 ≤ fr) {ν : hm_N} {r : Int32} {μR : hm_M}   (c16 : Int32 → Int32 → hm_M → Option (Int32 × hm_M)) (e53 : Int32 → hm_M → Option (Int32 × hm_M)) (hc16 : ∀ (y1 : Int32) (y2 : Int32)  (μ1 : hm_M), hm_LL ν μ1 → c16 y1 y2 μ1 = some (r, μR) → hm_T (hm_LL ν) m_X10_isLit fr 0 0 (some (.int r)) μR 16 [some (.ref 179), some (.int y1), some (.int y2)] [] μ1) (he53 : ∀ (y1 : Int32)  (μ1 : hm_M), hm_LL ν μ1 → e53 y1 μ1 = some (r, μR) → hm_T (hm_LL ν) m_X10_isLit fr 0 0 (some (.int r)) μR 53 [some (.ref 179), some (.int y1), none] [] μ1)  (s0 : Int32) (y2 : Int32) (μ1 : hm_M) (hL : hm_LL ν μ1) (h : f_X10_isLit_J46 c16 e53 s0 y2 μ1 = some (r, μR)) : hm_T (hm_LL ν) m_X10_isLit fr 0 0 (some (.int r)) μR 46 [some (.ref 179), none, some (.int y2)] [.int s0] μ1 := by
  unfold f_X10_isLit_J46 at h
  refine tr_istore_n (pc' := 47) (lv' := [some (.ref 179), some (.int s0), some (.int y2)]) (show decode cX10_isLit 46 = .ok (.istore_n 1, 1) by decide +kernel) rfl rfl (Nat.le_of_ble_eq_true rfl) rfl rfl ?_
  refine tr_iinc (pc' := 50) (v := y2 + (1 : Int32)) (lv' := [some (.ref 179), some (.int s0), some (.int (y2 + (1 : Int32)))]) (show decode cX10_isLit 47 = .ok (.iinc 2 1, 3) by decide +kernel) rfl rfl rfl (Nat.le_of_ble_eq_true rfl) rfl rfl ?_
  refine tr_goto (tgt := 16) (show decode cX10_isLit 50 = .ok (.goto (-34), 3) by decide +kernel) rfl ?_
  exact hc16 s0 (y2 + (1 : Int32)) μ1 hL h
def f_X10_isLit_J45 (c16 : Int32 → Int32 → hm_M → Option (Int32 × hm_M)) (e53 : Int32 → hm_M → Option (Int32 × hm_M)) (y2 : Int32) (μ1 : hm_M) : Option (Int32 × hm_M) :=
  f_X10_isLit_J46 c16 e53 (0 : Int32) y2 μ1
theorem ok_X10_isLit_J45 {fr : Nat} (hfr : 90 ≤ fr) {ν : hm_N} {r : Int32} {μR : hm_M}   (c16 : Int32 → Int32 → hm_M → Option (Int32 × hm_M)) (e53 : Int32 → hm_M → Option (Int32 × hm_M)) (hc16 : ∀ (y1 : Int32) (y2 : Int32)  (μ1 : hm_M), hm_LL ν μ1 → c16 y1 y2 μ1 = some (r, μR) → hm_T (hm_LL ν) m_X10_isLit fr 0 0 (some (.int r)) μR 16 [some (.ref 179), some (.int y1), some (.int y2)] [] μ1) (he53 : ∀ (y1 : Int32)  (μ1 : hm_M), hm_LL ν μ1 → e53 y1 μ1 = some (r, μR) → hm_T (hm_LL ν) m_X10_isLit fr 0 0 (some (.int r)) μR 53 [some (.ref 179), some (.int y1), none] [] μ1)  (y2 : Int32) (μ1 : hm_M) (hL : hm_LL ν μ1) (h : f_X10_isLit_J45 c16 e53 y2 μ1 = some (r, μR)) : hm_T (hm_LL ν) m_X10_isLit fr 0 0 (some (.int r)) μR 45 [some (.ref 179), none, some (.int y2)] [] μ1 := by
  unfold f_X10_isLit_J45 at h
  refine tr_iconst (pc' := 46) (v := (0 : Int32)) (show decode cX10_isLit 45 = .ok (.iconst 0, 1) by decide +kernel) rfl (by decide) ?_
  exact ok_X10_isLit_J46 hfr c16 e53 hc16 he53 (0 : Int32) y2 μ1 hL h
def f_X10_isLit_L16 (e53 : Int32 → hm_M → Option (Int32 × hm_M)) : Nat → Int32 → Int32 → hm_M → Option (Int32 × hm_M)
  | 0, _, _, _ => none
  | n + 1, y1, y2, μ1 => Option.bind (f_X10_many μ1) fun x3 =>
  (if x3 ≤ y2 then
  e53 y1 μ1
  else
  (if y1 = 0 then
  f_X10_isLit_J45 (f_X10_isLit_L16 e53 n) e53 y2 μ1
  else
  Option.bind (hm_ld μ1 195 8 y2) fun x4 =>
  Option.bind (f_X10_ones x4) fun x5 =>
  (if x5 = (2 : Int32) then
  f_X10_isLit_J46 (f_X10_isLit_L16 e53 n) e53 (1 : Int32) y2 μ1
  else
  f_X10_isLit_J45 (f_X10_isLit_L16 e53 n) e53 y2 μ1)))
theorem ok_X10_isLit_L16 {fr : Nat} (hfr : 90 ≤ fr) {ν : hm_N} {r : Int32} {μR : hm_M}   (e53 : Int32 → hm_M → Option (Int32 × hm_M))  (he53 : ∀ (y1 : Int32)  (μ1 : hm_M), hm_LL ν μ1 → e53 y1 μ1 = some (r, μR) → hm_T (hm_LL ν) m_X10_isLit fr 0 0 (some (.int r)) μR 53 [some (.ref 179), some (.int y1), none] [] μ1)  : ∀ (n : Nat) (y1 : Int32) (y2 : Int32)  (μ1 : hm_M), hm_LL ν μ1 → f_X10_isLit_L16 e53 n y1 y2 μ1 = some (r, μR) → hm_T (hm_LL ν) m_X10_isLit fr 0 0 (some (.int r)) μR 16 [some (.ref 179), some (.int y1), some (.int y2)] [] μ1 := by
  intro n
  induction n with
  | zero =>
    intro y1 y2 μ1 hL h
    unfold f_X10_isLit_L16 at h
    cases h
  | succ n ih =>
    intro y1 y2 μ1 hL h
    unfold f_X10_isLit_L16 at h
    refine tr_iload_n (pc' := 17) (show decode cX10_isLit 16 = .ok (.iload_n 2, 1) by decide +kernel) rfl rfl rfl ?_
    refine tr_aload_n (pc' := 18) (show decode cX10_isLit 17 = .ok (.aload_n 0, 1) by decide +kernel) rfl rfl rfl ?_
    obtain ⟨x3, ex3, h⟩ := hm_bs h
    have cx3 := ok_X10_many (fr := fr - 1) (ν := ν) (by omega) μ1 hL ex3
    refine tp_callV (pc' := 21) (As := []) (fr1 := fr - 1) (ci := 10) okm_X10_many lk_HandRingModel_118 (show decode cX10_isLit 18 = .ok (.invokevirtual 118, 3) by decide +kernel) rfl rfl rfl (by decide) (la_o hL (by decide) rfl) rfl rfl (Nat.le_of_ble_eq_true rfl) (by omega) cx3 (st' := [.int x3, .int y2]) rfl ?_
    rcases hm_is h with ⟨hc, h⟩ | ⟨hc, h⟩
    · refine tr_icmp_ge_t (tgt := 53) hc (show decode cX10_isLit 21 = .ok (.if_icmp .ge 32, 3) by decide +kernel) (by decide) ?_
      refine hm_fgt [true, true, false] (lv' := [some (.ref 179), some (.int y1), none]) rfl ?_
      exact he53 y1 μ1 hL h
    · refine tr_icmp_ge_f (tgt := 53) (pc' := 24) hc (show decode cX10_isLit 21 = .ok (.if_icmp .ge 32, 3) by decide +kernel) (by decide) rfl ?_
      refine tr_iload_n (pc' := 25) (show decode cX10_isLit 24 = .ok (.iload_n 1, 1) by decide +kernel) rfl rfl rfl ?_
      rcases hm_is h with ⟨hc, h⟩ | ⟨hc, h⟩
      · refine tr_if_eq_t (tgt := 45) hc (show decode cX10_isLit 25 = .ok (.ifCond .eq 20, 3) by decide +kernel) (by decide) ?_
        refine hm_fgt [true, false, true] (lv' := [some (.ref 179), none, some (.int y2)]) rfl ?_
        exact ok_X10_isLit_J45 hfr (f_X10_isLit_L16 e53 n) e53 ih he53 y2 μ1 hL h
      · refine tr_if_eq_f (tgt := 45) (pc' := 28) hc (show decode cX10_isLit 25 = .ok (.ifCond .eq 20, 3) by decide +kernel) (by decide) rfl ?_
        refine tr_aload_n (pc' := 29) (show decode cX10_isLit 28 = .ok (.aload_n 0, 1) by decide +kernel) rfl rfl rfl ?_
        refine tr_getR (pc' := 32) fl_HandRingModel_71 (show decode cX10_isLit 29 = .ok (.getfield 71, 3) by decide +kernel) rfl (la_o hL (by decide) rfl) (la_r hL 132 rfl) ?_
        refine tr_iload_n (pc' := 33) (show decode cX10_isLit 32 = .ok (.iload_n 2, 1) by decide +kernel) rfl rfl rfl ?_
        obtain ⟨x4, ex4, h⟩ := hm_bs h
        refine tp_ldI (pc' := 34) (show decode cX10_isLit 33 = .ok (.iaload, 1) by decide +kernel) rfl (la_a hL (by decide) rfl) ex4 ?_
        obtain ⟨x5, ex5, h⟩ := hm_bs h
        have cx5 := ok_X10_ones (fr := fr - 1) (ν := ν) (by omega) x4 μ1 hL ex5
        refine tp_callS (pc' := 37) (As := [.int x4]) (fr1 := fr - 1) okm_X10_ones lk_HandRingModel_310 (show decode cX10_isLit 34 = .ok (.invokestatic 310, 3) by decide +kernel) rfl rfl rfl (Nat.le_of_ble_eq_true rfl) (by omega) cx5 (st' := [.int x5]) rfl ?_
        refine tr_iconst (pc' := 38) (v := (2 : Int32)) (show decode cX10_isLit 37 = .ok (.iconst 2, 1) by decide +kernel) rfl (by decide) ?_
        rcases hm_is h with ⟨hc, h⟩ | ⟨hc, h⟩
        · refine tr_icmp_ne_f (tgt := 45) (pc' := 41) hc (show decode cX10_isLit 38 = .ok (.if_icmp .ne 7, 3) by decide +kernel) (by decide) rfl ?_
          refine tr_iconst (pc' := 42) (v := (1 : Int32)) (show decode cX10_isLit 41 = .ok (.iconst 1, 1) by decide +kernel) rfl (by decide) ?_
          refine tr_goto (tgt := 46) (show decode cX10_isLit 42 = .ok (.goto 4, 3) by decide +kernel) rfl ?_
          refine hm_fgt [true, false, true] (lv' := [some (.ref 179), none, some (.int y2)]) rfl ?_
          exact ok_X10_isLit_J46 hfr (f_X10_isLit_L16 e53 n) e53 ih he53 (1 : Int32) y2 μ1 hL h
        · refine tr_icmp_ne_t (tgt := 45) hc (show decode cX10_isLit 38 = .ok (.if_icmp .ne 7, 3) by decide +kernel) (by decide) ?_
          refine hm_fgt [true, false, true] (lv' := [some (.ref 179), none, some (.int y2)]) rfl ?_
          exact ok_X10_isLit_J45 hfr (f_X10_isLit_L16 e53 n) e53 ih he53 y2 μ1 hL h
def f_X10_isLit_J13 (s0 : Int32) (μ1 : hm_M) : Option (Int32 × hm_M) :=
  f_X10_isLit_L16 (fun z6_1 μz6 => (if z6_1 = 0 then
  some ((0 : Int32), μz6)
  else
  Option.bind (f_X10_comesTo (0 : Int32) (0 : Int32) μz6) fun x7 =>
  Option.bind (f_X10_many μz6) fun x8 =>
  (if x7 = (((1 : Int32) <<< (x8 &&& 31)) - (1 : Int32)) then
  hm_b2 (f_X10_lostInAll μz6) fun x9 μ10 =>
  Option.bind (hm_ld μ10 181 5665 (53 : Int32)) fun x11 =>
  (if x11 < x9 then
  some ((0 : Int32), μ10)
  else
  some ((1 : Int32), μ10))
  else
  some ((0 : Int32), μz6)))) hm_fu s0 (0 : Int32) μ1
theorem ok_X10_isLit_J13 {fr : Nat} (hfr : 90 ≤ fr) {ν : hm_N} {r : Int32} {μR : hm_M}      (s0 : Int32) (μ1 : hm_M) (hL : hm_LL ν μ1) (h : f_X10_isLit_J13 s0 μ1 = some (r, μR)) : hm_T (hm_LL ν) m_X10_isLit fr 0 0 (some (.int r)) μR 13 [some (.ref 179), none, none] [.int s0] μ1 := by
  unfold f_X10_isLit_J13 at h
  refine tr_istore_n (pc' := 14) (lv' := [some (.ref 179), some (.int s0), none]) (show decode cX10_isLit 13 = .ok (.istore_n 1, 1) by decide +kernel) rfl rfl (Nat.le_of_ble_eq_true rfl) rfl rfl ?_
  refine tr_iconst (pc' := 15) (v := (0 : Int32)) (show decode cX10_isLit 14 = .ok (.iconst 0, 1) by decide +kernel) rfl (by decide) ?_
  refine tr_istore_n (pc' := 16) (lv' := [some (.ref 179), some (.int s0), some (.int (0 : Int32))]) (show decode cX10_isLit 15 = .ok (.istore_n 2, 1) by decide +kernel) rfl rfl (Nat.le_of_ble_eq_true rfl) rfl rfl ?_
  refine ok_X10_isLit_L16 hfr _ ?_ _ s0 (0 : Int32) μ1 hL h
  · intro z6_1 μz6 hL h
    refine tr_iload_n (pc' := 54) (show decode cX10_isLit 53 = .ok (.iload_n 1, 1) by decide +kernel) rfl rfl rfl ?_
    rcases hm_is h with ⟨hc, h⟩ | ⟨hc, h⟩
    · refine tr_if_eq_t (tgt := 92) hc (show decode cX10_isLit 54 = .ok (.ifCond .eq 38, 3) by decide +kernel) (by decide) ?_
      refine tr_iconst (pc' := 93) (v := (0 : Int32)) (show decode cX10_isLit 92 = .ok (.iconst 0, 1) by decide +kernel) rfl (by decide) ?_
      cases h
      exact tr_zret rfl (by decide) (show decode cX10_isLit 93 = .ok (.ireturn, 1) by decide +kernel) hL
    · refine tr_if_eq_f (tgt := 92) (pc' := 57) hc (show decode cX10_isLit 54 = .ok (.ifCond .eq 38, 3) by decide +kernel) (by decide) rfl ?_
      refine tr_aload_n (pc' := 58) (show decode cX10_isLit 57 = .ok (.aload_n 0, 1) by decide +kernel) rfl rfl rfl ?_
      refine tr_iconst (pc' := 59) (v := (0 : Int32)) (show decode cX10_isLit 58 = .ok (.iconst 0, 1) by decide +kernel) rfl (by decide) ?_
      refine tr_iconst (pc' := 60) (v := (0 : Int32)) (show decode cX10_isLit 59 = .ok (.iconst 0, 1) by decide +kernel) rfl (by decide) ?_
      obtain ⟨x7, ex7, h⟩ := hm_bs h
      have cx7 := ok_X10_comesTo (fr := fr - 1) (ν := ν) (by omega) (0 : Int32) (0 : Int32) μz6 hL ex7
      refine tp_callV (pc' := 63) (As := [.int (0 : Int32), .int (0 : Int32)]) (fr1 := fr - 1) (ci := 10) okm_X10_comesTo lk_HandRingModel_392 (show decode cX10_isLit 60 = .ok (.invokevirtual 392, 3) by decide +kernel) rfl rfl rfl (by decide) (la_o hL (by decide) rfl) rfl rfl (Nat.le_of_ble_eq_true rfl) (by omega) cx7 (st' := [.int x7]) rfl ?_
      refine tr_iconst (pc' := 64) (v := (1 : Int32)) (show decode cX10_isLit 63 = .ok (.iconst 1, 1) by decide +kernel) rfl (by decide) ?_
      refine tr_aload_n (pc' := 65) (show decode cX10_isLit 64 = .ok (.aload_n 0, 1) by decide +kernel) rfl rfl rfl ?_
      obtain ⟨x8, ex8, h⟩ := hm_bs h
      have cx8 := ok_X10_many (fr := fr - 1) (ν := ν) (by omega) μz6 hL ex8
      refine tp_callV (pc' := 68) (As := []) (fr1 := fr - 1) (ci := 10) okm_X10_many lk_HandRingModel_118 (show decode cX10_isLit 65 = .ok (.invokevirtual 118, 3) by decide +kernel) rfl rfl rfl (by decide) (la_o hL (by decide) rfl) rfl rfl (Nat.le_of_ble_eq_true rfl) (by omega) cx8 (st' := [.int x8, .int (1 : Int32), .int x7]) rfl ?_
      refine tr_ishl (pc' := 69) (show decode cX10_isLit 68 = .ok (.ishl, 1) by decide +kernel) rfl ?_
      refine tr_iconst (pc' := 70) (v := (1 : Int32)) (show decode cX10_isLit 69 = .ok (.iconst 1, 1) by decide +kernel) rfl (by decide) ?_
      refine tr_isub (pc' := 71) (show decode cX10_isLit 70 = .ok (.isub, 1) by decide +kernel) rfl ?_
      rcases hm_is h with ⟨hc, h⟩ | ⟨hc, h⟩
      · refine tr_icmp_ne_f (tgt := 92) (pc' := 74) hc (show decode cX10_isLit 71 = .ok (.if_icmp .ne 21, 3) by decide +kernel) (by decide) rfl ?_
        refine tr_aload_n (pc' := 75) (show decode cX10_isLit 74 = .ok (.aload_n 0, 1) by decide +kernel) rfl rfl rfl ?_
        obtain ⟨x9, μ10, ex9, h⟩ := hm_b2s h
        have cx9 := ok_X10_lostInAll (fr := fr - 1) (ν := ν) (by omega) μz6 hL ex9
        refine tp_callV (pc' := 78) (As := []) (fr1 := fr - 1) (ci := 10) okm_X10_lostInAll lk_HandRingModel_395 (show decode cX10_isLit 75 = .ok (.invokevirtual 395, 3) by decide +kernel) rfl rfl rfl (by decide) (la_o hL (by decide) rfl) rfl rfl (Nat.le_of_ble_eq_true rfl) (by omega) cx9 (st' := [.int x9]) rfl ?_
        replace hL := cx9.1
        refine tr_aload_n (pc' := 79) (show decode cX10_isLit 78 = .ok (.aload_n 0, 1) by decide +kernel) rfl rfl rfl ?_
        refine tr_getR (pc' := 82) fl_HandRingModel_24 (show decode cX10_isLit 79 = .ok (.getfield 24, 3) by decide +kernel) rfl (la_o hL (by decide) rfl) (la_r hL 118 rfl) ?_
        refine tr_bipush (pc' := 84) (v := (53 : Int32)) (show decode cX10_isLit 82 = .ok (.bipush 53, 2) by decide +kernel) rfl (by decide) ?_
        obtain ⟨x11, ex11, h⟩ := hm_bs h
        refine tp_ldI (pc' := 85) (show decode cX10_isLit 84 = .ok (.iaload, 1) by decide +kernel) rfl (la_a hL (by decide) rfl) ex11 ?_
        rcases hm_is h with ⟨hc, h⟩ | ⟨hc, h⟩
        · refine tr_icmp_gt_t (tgt := 92) hc (show decode cX10_isLit 85 = .ok (.if_icmp .gt 7, 3) by decide +kernel) (by decide) ?_
          refine tr_iconst (pc' := 93) (v := (0 : Int32)) (show decode cX10_isLit 92 = .ok (.iconst 0, 1) by decide +kernel) rfl (by decide) ?_
          cases h
          exact tr_zret rfl (by decide) (show decode cX10_isLit 93 = .ok (.ireturn, 1) by decide +kernel) hL
        · refine tr_icmp_gt_f (tgt := 92) (pc' := 88) hc (show decode cX10_isLit 85 = .ok (.if_icmp .gt 7, 3) by decide +kernel) (by decide) rfl ?_
          refine tr_iconst (pc' := 89) (v := (1 : Int32)) (show decode cX10_isLit 88 = .ok (.iconst 1, 1) by decide +kernel) rfl (by decide) ?_
          refine tr_goto (tgt := 93) (show decode cX10_isLit 89 = .ok (.goto 4, 3) by decide +kernel) rfl ?_
          cases h
          exact tr_zret rfl (by decide) (show decode cX10_isLit 93 = .ok (.ireturn, 1) by decide +kernel) hL
      · refine tr_icmp_ne_t (tgt := 92) hc (show decode cX10_isLit 71 = .ok (.if_icmp .ne 21, 3) by decide +kernel) (by decide) ?_
        refine tr_iconst (pc' := 93) (v := (0 : Int32)) (show decode cX10_isLit 92 = .ok (.iconst 0, 1) by decide +kernel) rfl (by decide) ?_
        cases h
        exact tr_zret rfl (by decide) (show decode cX10_isLit 93 = .ok (.ireturn, 1) by decide +kernel) hL
def f_X10_isLit (μ : hm_M) : Option (Int32 × hm_M) :=
  Option.bind (f_X10_many μ) fun x2 =>
  (if x2 < (3 : Int32) then
  f_X10_isLit_J13 (0 : Int32) μ
  else
  f_X10_isLit_J13 (1 : Int32) μ)
set_option maxRecDepth 100000 in
theorem ok_X10_isLit {fr : Nat} (hfr : 90 ≤ fr) {ν : hm_N} {r : Int32} {μR : hm_M}    (μ : hm_M) (hL : hm_LL ν μ) (h : f_X10_isLit μ = some (r, μR)) : hm_CC (hm_LL ν) m_X10_isLit fr 0 0 [.ref 179] μ (some (.int r)) μR := by
  refine hm_enter (lv := [some (.ref 179), none, none]) (by decide) rfl (Nat.le_of_ble_eq_true rfl) ?_
  unfold f_X10_isLit at h
  refine tr_aload_n (pc' := 1) (show decode cX10_isLit 0 = .ok (.aload_n 0, 1) by decide +kernel) rfl rfl rfl ?_
  obtain ⟨x2, ex2, h⟩ := hm_bs h
  have cx2 := ok_X10_many (fr := fr - 1) (ν := ν) (by omega) μ hL ex2
  refine tp_callV (pc' := 4) (As := []) (fr1 := fr - 1) (ci := 10) okm_X10_many lk_HandRingModel_118 (show decode cX10_isLit 1 = .ok (.invokevirtual 118, 3) by decide +kernel) rfl rfl rfl (by decide) (la_o hL (by decide) rfl) rfl rfl (Nat.le_of_ble_eq_true rfl) (by omega) cx2 (st' := [.int x2]) rfl ?_
  refine tr_iconst (pc' := 5) (v := (3 : Int32)) (show decode cX10_isLit 4 = .ok (.iconst 3, 1) by decide +kernel) rfl (by decide) ?_
  rcases hm_is h with ⟨hc, h⟩ | ⟨hc, h⟩
  · refine tr_icmp_lt_t (tgt := 12) hc (show decode cX10_isLit 5 = .ok (.if_icmp .lt 7, 3) by decide +kernel) (by decide) ?_
    refine tr_iconst (pc' := 13) (v := (0 : Int32)) (show decode cX10_isLit 12 = .ok (.iconst 0, 1) by decide +kernel) rfl (by decide) ?_
    exact ok_X10_isLit_J13 hfr (0 : Int32) μ hL h
  · refine tr_icmp_lt_f (tgt := 12) (pc' := 8) hc (show decode cX10_isLit 5 = .ok (.if_icmp .lt 7, 3) by decide +kernel) (by decide) rfl ?_
    refine tr_iconst (pc' := 9) (v := (1 : Int32)) (show decode cX10_isLit 8 = .ok (.iconst 1, 1) by decide +kernel) rfl (by decide) ?_
    refine tr_goto (tgt := 13) (show decode cX10_isLit 9 = .ok (.goto 4, 3) by decide +kernel) rfl ?_
    exact ok_X10_isLit_J13 hfr (1 : Int32) μ hL h
def f_X10_lights (v1 : Int32) (μ : hm_M) : Option (Int32 × hm_M) :=
  Option.bind (f_X10_laysHolds μ) fun μ3 =>
  (if v1 < (0 : Int32) ∨ (2 : Int32) < v1 then
  some ((-1 : Int32), μ3)
  else
  (if v1 = (0 : Int32) then
  hm_b2 (f_X10_isLit μ3) fun x8 μ9 =>
  (if x8 = 0 then
  some ((0 : Int32), μ9)
  else
  some ((1 : Int32), μ9))
  else
  (if v1 = (1 : Int32) then
  hm_b2 (f_X10_lostInAll μ3) fun x6 μ7 =>
  some (x6, μ7)
  else
  (if v1 = (2 : Int32) then
  Option.bind (f_X10_many μ3) fun x4 =>
  (if x4 = 0 then
  some ((0 : Int32), μ3)
  else
  Option.bind (f_X10_comesTo (0 : Int32) (0 : Int32) μ3) fun x5 =>
  some (x5, μ3))
  else
  none))))
set_option maxRecDepth 100000 in
theorem ok_X10_lights {fr : Nat} (hfr : 91 ≤ fr) {ν : hm_N} {r : Int32} {μR : hm_M}  (v1 : Int32)  (μ : hm_M) (hL : hm_LL ν μ) (h : f_X10_lights v1 μ = some (r, μR)) : hm_CC (hm_LL ν) m_X10_lights fr 0 0 [.ref 179, .int v1] μ (some (.int r)) μR := by
  refine hm_enter (lv := [some (.ref 179), some (.int v1)]) (by decide) rfl (Nat.le_of_ble_eq_true rfl) ?_
  unfold f_X10_lights at h
  refine tr_aload_n (pc' := 1) (show decode cX10_lights 0 = .ok (.aload_n 0, 1) by decide +kernel) rfl rfl rfl ?_
  obtain ⟨μ3, ex2, h⟩ := hm_bs h
  have cx2 := ok_X10_laysHolds (fr := fr - 1) (ν := ν) (by omega) μ hL ex2
  refine tp_callV (pc' := 4) (As := []) (fr1 := fr - 1) (ci := 10) okm_X10_laysHolds lk_HandRingModel_398 (show decode cX10_lights 1 = .ok (.invokevirtual 398, 3) by decide +kernel) rfl rfl rfl (by decide) (la_o hL (by decide) rfl) rfl rfl (Nat.le_of_ble_eq_true rfl) (by omega) cx2 (st' := []) rfl ?_
  replace hL := cx2.1
  refine tr_iload_n (pc' := 5) (show decode cX10_lights 4 = .ok (.iload_n 1, 1) by decide +kernel) rfl rfl rfl ?_
  rcases hm_is h with ⟨hc, h⟩ | ⟨-, h⟩
  · refine tp_tout (tgt := 68) hc (by decide) (by decide) (show decode cX10_lights 5 = .ok (.tableswitch 63 0 2 #[27, 40, 45], 27) by decide +kernel) (by decide) ?_
    refine tr_iconst (pc' := 69) (v := (-1 : Int32)) (show decode cX10_lights 68 = .ok (.iconst (-1), 1) by decide +kernel) rfl (by decide) ?_
    cases h
    exact tr_iret rfl (show decode cX10_lights 69 = .ok (.ireturn, 1) by decide +kernel) hL
  · rcases hm_is h with ⟨hc, h⟩ | ⟨-, h⟩
    · refine tp_tin (tgt := 32) (off := 27) hc (show decode cX10_lights 5 = .ok (.tableswitch 63 0 2 #[27, 40, 45], 27) by decide +kernel) (by decide) (by decide) (by decide) (by decide) ?_
      refine tr_aload_n (pc' := 33) (show decode cX10_lights 32 = .ok (.aload_n 0, 1) by decide +kernel) rfl rfl rfl ?_
      obtain ⟨x8, μ9, ex8, h⟩ := hm_b2s h
      have cx8 := ok_X10_isLit (fr := fr - 1) (ν := ν) (by omega) μ3 hL ex8
      refine tp_callV (pc' := 36) (As := []) (fr1 := fr - 1) (ci := 10) okm_X10_isLit lk_HandRingModel_401 (show decode cX10_lights 33 = .ok (.invokevirtual 401, 3) by decide +kernel) rfl rfl rfl (by decide) (la_o hL (by decide) rfl) rfl rfl (Nat.le_of_ble_eq_true rfl) (by omega) cx8 (st' := [.int x8]) rfl ?_
      replace hL := cx8.1
      rcases hm_is h with ⟨hc, h⟩ | ⟨hc, h⟩
      · refine tr_if_eq_t (tgt := 43) hc (show decode cX10_lights 36 = .ok (.ifCond .eq 7, 3) by decide +kernel) (by decide) ?_
        refine tr_iconst (pc' := 44) (v := (0 : Int32)) (show decode cX10_lights 43 = .ok (.iconst 0, 1) by decide +kernel) rfl (by decide) ?_
        cases h
        exact tr_iret rfl (show decode cX10_lights 44 = .ok (.ireturn, 1) by decide +kernel) hL
      · refine tr_if_eq_f (tgt := 43) (pc' := 39) hc (show decode cX10_lights 36 = .ok (.ifCond .eq 7, 3) by decide +kernel) (by decide) rfl ?_
        refine tr_iconst (pc' := 40) (v := (1 : Int32)) (show decode cX10_lights 39 = .ok (.iconst 1, 1) by decide +kernel) rfl (by decide) ?_
        refine tr_goto (tgt := 44) (show decode cX10_lights 40 = .ok (.goto 4, 3) by decide +kernel) rfl ?_
        cases h
        exact tr_iret rfl (show decode cX10_lights 44 = .ok (.ireturn, 1) by decide +kernel) hL
    · rcases hm_is h with ⟨hc, h⟩ | ⟨-, h⟩
      · refine tp_tin (tgt := 45) (off := 40) hc (show decode cX10_lights 5 = .ok (.tableswitch 63 0 2 #[27, 40, 45], 27) by decide +kernel) (by decide) (by decide) (by decide) (by decide) ?_
        refine tr_aload_n (pc' := 46) (show decode cX10_lights 45 = .ok (.aload_n 0, 1) by decide +kernel) rfl rfl rfl ?_
        obtain ⟨x6, μ7, ex6, h⟩ := hm_b2s h
        have cx6 := ok_X10_lostInAll (fr := fr - 1) (ν := ν) (by omega) μ3 hL ex6
        refine tp_callV (pc' := 49) (As := []) (fr1 := fr - 1) (ci := 10) okm_X10_lostInAll lk_HandRingModel_395 (show decode cX10_lights 46 = .ok (.invokevirtual 395, 3) by decide +kernel) rfl rfl rfl (by decide) (la_o hL (by decide) rfl) rfl rfl (Nat.le_of_ble_eq_true rfl) (by omega) cx6 (st' := [.int x6]) rfl ?_
        replace hL := cx6.1
        cases h
        exact tr_iret rfl (show decode cX10_lights 49 = .ok (.ireturn, 1) by decide +kernel) hL
      · rcases hm_is h with ⟨hc, h⟩ | ⟨-, h⟩
        · refine tp_tin (tgt := 50) (off := 45) hc (show decode cX10_lights 5 = .ok (.tableswitch 63 0 2 #[27, 40, 45], 27) by decide +kernel) (by decide) (by decide) (by decide) (by decide) ?_
          refine tr_aload_n (pc' := 51) (show decode cX10_lights 50 = .ok (.aload_n 0, 1) by decide +kernel) rfl rfl rfl ?_
          obtain ⟨x4, ex4, h⟩ := hm_bs h
          have cx4 := ok_X10_many (fr := fr - 1) (ν := ν) (by omega) μ3 hL ex4
          refine tp_callV (pc' := 54) (As := []) (fr1 := fr - 1) (ci := 10) okm_X10_many lk_HandRingModel_118 (show decode cX10_lights 51 = .ok (.invokevirtual 118, 3) by decide +kernel) rfl rfl rfl (by decide) (la_o hL (by decide) rfl) rfl rfl (Nat.le_of_ble_eq_true rfl) (by omega) cx4 (st' := [.int x4]) rfl ?_
          rcases hm_is h with ⟨hc, h⟩ | ⟨hc, h⟩
          · refine tr_if_ne_f (tgt := 61) (pc' := 57) hc (show decode cX10_lights 54 = .ok (.ifCond .ne 7, 3) by decide +kernel) (by decide) rfl ?_
            refine tr_iconst (pc' := 58) (v := (0 : Int32)) (show decode cX10_lights 57 = .ok (.iconst 0, 1) by decide +kernel) rfl (by decide) ?_
            refine tr_goto (tgt := 67) (show decode cX10_lights 58 = .ok (.goto 9, 3) by decide +kernel) rfl ?_
            cases h
            exact tr_iret rfl (show decode cX10_lights 67 = .ok (.ireturn, 1) by decide +kernel) hL
          · refine tr_if_ne_t (tgt := 61) hc (show decode cX10_lights 54 = .ok (.ifCond .ne 7, 3) by decide +kernel) (by decide) ?_
            refine tr_aload_n (pc' := 62) (show decode cX10_lights 61 = .ok (.aload_n 0, 1) by decide +kernel) rfl rfl rfl ?_
            refine tr_iconst (pc' := 63) (v := (0 : Int32)) (show decode cX10_lights 62 = .ok (.iconst 0, 1) by decide +kernel) rfl (by decide) ?_
            refine tr_iconst (pc' := 64) (v := (0 : Int32)) (show decode cX10_lights 63 = .ok (.iconst 0, 1) by decide +kernel) rfl (by decide) ?_
            obtain ⟨x5, ex5, h⟩ := hm_bs h
            have cx5 := ok_X10_comesTo (fr := fr - 1) (ν := ν) (by omega) (0 : Int32) (0 : Int32) μ3 hL ex5
            refine tp_callV (pc' := 67) (As := [.int (0 : Int32), .int (0 : Int32)]) (fr1 := fr - 1) (ci := 10) okm_X10_comesTo lk_HandRingModel_392 (show decode cX10_lights 64 = .ok (.invokevirtual 392, 3) by decide +kernel) rfl rfl rfl (by decide) (la_o hL (by decide) rfl) rfl rfl (Nat.le_of_ble_eq_true rfl) (by omega) cx5 (st' := [.int x5]) rfl ?_
            cases h
            exact tr_iret rfl (show decode cX10_lights 67 = .ok (.ireturn, 1) by decide +kernel) hL
        · cases h
def f_X10_gloveOf (v1 : Int32) (v2 : Int32) (μ : hm_M) : Option (Int32 × hm_M) :=
  Option.bind (f_X10_areNear v1 v2 μ) fun x2 =>
  (if x2 = 0 then
  some ((1000000 : Int32), μ)
  else
  hm_b2 (f_X10_isBarred v1 v2 μ) fun x3 μ4 =>
  (if x3 = 0 then
  some ((0 : Int32), μ4)
  else
  some ((1 : Int32), μ4)))
set_option maxRecDepth 100000 in
theorem ok_X10_gloveOf {fr : Nat} (hfr : 89 ≤ fr) {ν : hm_N} {r : Int32} {μR : hm_M}  (v1 : Int32) (v2 : Int32)  (μ : hm_M) (hL : hm_LL ν μ) (h : f_X10_gloveOf v1 v2 μ = some (r, μR)) : hm_CC (hm_LL ν) m_X10_gloveOf fr 0 0 [.ref 179, .int v1, .int v2] μ (some (.int r)) μR := by
  refine hm_enter (lv := [some (.ref 179), some (.int v1), some (.int v2)]) (by decide) rfl (Nat.le_of_ble_eq_true rfl) ?_
  unfold f_X10_gloveOf at h
  refine tr_aload_n (pc' := 1) (show decode cX10_gloveOf 0 = .ok (.aload_n 0, 1) by decide +kernel) rfl rfl rfl ?_
  refine tr_iload_n (pc' := 2) (show decode cX10_gloveOf 1 = .ok (.iload_n 1, 1) by decide +kernel) rfl rfl rfl ?_
  refine tr_iload_n (pc' := 3) (show decode cX10_gloveOf 2 = .ok (.iload_n 2, 1) by decide +kernel) rfl rfl rfl ?_
  obtain ⟨x2, ex2, h⟩ := hm_bs h
  have cx2 := ok_X10_areNear (fr := fr - 1) (ν := ν) (by omega) v1 v2 μ hL ex2
  refine tp_callV (pc' := 6) (As := [.int v1, .int v2]) (fr1 := fr - 1) (ci := 10) okm_X10_areNear lk_HandRingModel_350 (show decode cX10_gloveOf 3 = .ok (.invokevirtual 350, 3) by decide +kernel) rfl rfl rfl (by decide) (la_o hL (by decide) rfl) rfl rfl (Nat.le_of_ble_eq_true rfl) (by omega) cx2 (st' := [.int x2]) rfl ?_
  rcases hm_is h with ⟨hc, h⟩ | ⟨hc, h⟩
  · refine tr_if_ne_f (tgt := 14) (pc' := 9) hc (show decode cX10_gloveOf 6 = .ok (.ifCond .ne 8, 3) by decide +kernel) (by decide) rfl ?_
    refine tr_ldc (pc' := 11) (v := (1000000 : Int32)) (show decode cX10_gloveOf 9 = .ok (.ldc 180, 2) by decide +kernel) rfl kc_HandRingModel_180 ?_
    refine tr_goto (tgt := 28) (show decode cX10_gloveOf 11 = .ok (.goto 17, 3) by decide +kernel) rfl ?_
    cases h
    exact tr_iret rfl (show decode cX10_gloveOf 28 = .ok (.ireturn, 1) by decide +kernel) hL
  · refine tr_if_ne_t (tgt := 14) hc (show decode cX10_gloveOf 6 = .ok (.ifCond .ne 8, 3) by decide +kernel) (by decide) ?_
    refine tr_aload_n (pc' := 15) (show decode cX10_gloveOf 14 = .ok (.aload_n 0, 1) by decide +kernel) rfl rfl rfl ?_
    refine tr_iload_n (pc' := 16) (show decode cX10_gloveOf 15 = .ok (.iload_n 1, 1) by decide +kernel) rfl rfl rfl ?_
    refine tr_iload_n (pc' := 17) (show decode cX10_gloveOf 16 = .ok (.iload_n 2, 1) by decide +kernel) rfl rfl rfl ?_
    obtain ⟨x3, μ4, ex3, h⟩ := hm_b2s h
    have cx3 := ok_X10_isBarred (fr := fr - 1) (ν := ν) (by omega) v1 v2 μ hL ex3
    refine tp_callV (pc' := 20) (As := [.int v1, .int v2]) (fr1 := fr - 1) (ci := 10) okm_X10_isBarred lk_HandRingModel_153 (show decode cX10_gloveOf 17 = .ok (.invokevirtual 153, 3) by decide +kernel) rfl rfl rfl (by decide) (la_o hL (by decide) rfl) rfl rfl (Nat.le_of_ble_eq_true rfl) (by omega) cx3 (st' := [.int x3]) rfl ?_
    replace hL := cx3.1
    rcases hm_is h with ⟨hc, h⟩ | ⟨hc, h⟩
    · refine tr_if_eq_t (tgt := 27) hc (show decode cX10_gloveOf 20 = .ok (.ifCond .eq 7, 3) by decide +kernel) (by decide) ?_
      refine tr_iconst (pc' := 28) (v := (0 : Int32)) (show decode cX10_gloveOf 27 = .ok (.iconst 0, 1) by decide +kernel) rfl (by decide) ?_
      cases h
      exact tr_iret rfl (show decode cX10_gloveOf 28 = .ok (.ireturn, 1) by decide +kernel) hL
    · refine tr_if_eq_f (tgt := 27) (pc' := 23) hc (show decode cX10_gloveOf 20 = .ok (.ifCond .eq 7, 3) by decide +kernel) (by decide) rfl ?_
      refine tr_iconst (pc' := 24) (v := (1 : Int32)) (show decode cX10_gloveOf 23 = .ok (.iconst 1, 1) by decide +kernel) rfl (by decide) ?_
      refine tr_goto (tgt := 28) (show decode cX10_gloveOf 24 = .ok (.goto 4, 3) by decide +kernel) rfl ?_
      cases h
      exact tr_iret rfl (show decode cX10_gloveOf 28 = .ok (.ireturn, 1) by decide +kernel) hL
def f_X10_laysCosts_J73 (v1 : Int32) (w12_2 : Int32) (c2 : Int32 → hm_M → Option hm_M) (e86 : hm_M → Option hm_M) (c12 : Int32 → hm_M → Option hm_M) (e80 : hm_M → Option hm_M) (s0 : Int32) (s1 : Int32) (y3 : Int32) (μ1 : hm_M) : Option hm_M :=
  Option.bind (hm_sd μ1 196 64 s1 s0) fun μ6 =>
  c12 (y3 + (1 : Int32)) μ6
theorem ok_X10_laysCosts_J73 {fr : Nat} (hfr : 90 ≤ fr) {ν : hm_N} {μR : hm_M}  (v1 : Int32) (w12_2 : Int32) (c2 : Int32 → hm_M → Option hm_M) (e86 : hm_M → Option hm_M) (c12 : Int32 → hm_M → Option hm_M) (e80 : hm_M → Option hm_M) (hc2 : ∀ (y2 : Int32)  (μ1 : hm_M), hm_LL ν μ1 → c2 y2 μ1 = some μR → hm_T (hm_LL ν) m_X10_laysCosts fr 0 0 none μR 2 [some (.ref 179), some (.int v1), some (.int y2), none] [] μ1) (he86 : ∀   (μ1 : hm_M), hm_LL ν μ1 → e86 μ1 = some μR → hm_T (hm_LL ν) m_X10_laysCosts fr 0 0 none μR 86 [none, none, none, none] [] μ1) (hc12 : ∀ (y3 : Int32)  (μ1 : hm_M), hm_LL ν μ1 → c12 y3 μ1 = some μR → hm_T (hm_LL ν) m_X10_laysCosts fr 0 0 none μR 12 [some (.ref 179), some (.int v1), some (.int w12_2), some (.int y3)] [] μ1) (he80 : ∀   (μ1 : hm_M), hm_LL ν μ1 → e80 μ1 = some μR → hm_T (hm_LL ν) m_X10_laysCosts fr 0 0 none μR 80 [some (.ref 179), some (.int v1), some (.int w12_2), none] [] μ1)  (s0 : Int32) (s1 : Int32) (y3 : Int32) (μ1 : hm_M) (hL : hm_LL ν μ1) (h : f_X10_laysCosts_J73 v1 w12_2 c2 e86 c12 e80 s0 s1 y3 μ1 = some μR) : hm_T (hm_LL ν) m_X10_laysCosts fr 0 0 none μR 73 [some (.ref 179), some (.int v1), some (.int w12_2), some (.int y3)] [.int s0, .int s1, .ref 196] μ1 := by
  unfold f_X10_laysCosts_J73 at h
  obtain ⟨μ6, eμ6, h⟩ := hm_bs h
  refine tp_sdI (pc' := 74) (show decode cX10_laysCosts 73 = .ok (.iastore, 1) by decide +kernel) rfl (la_a hL (by decide) rfl) eμ6 ?_
  replace hL := hL.same (hm_sd_s eμ6)
  refine tr_iinc (pc' := 77) (v := y3 + (1 : Int32)) (lv' := [some (.ref 179), some (.int v1), some (.int w12_2), some (.int (y3 + (1 : Int32)))]) (show decode cX10_laysCosts 74 = .ok (.iinc 3 1, 3) by decide +kernel) rfl rfl rfl (Nat.le_of_ble_eq_true rfl) rfl rfl ?_
  refine tr_goto (tgt := 12) (show decode cX10_laysCosts 77 = .ok (.goto (-65), 3) by decide +kernel) rfl ?_
  exact hc12 (y3 + (1 : Int32)) μ6 hL h
def f_X10_laysCosts_L12 (v1 : Int32) (w12_2 : Int32) (c2 : Int32 → hm_M → Option hm_M) (e86 : hm_M → Option hm_M) (e80 : hm_M → Option hm_M) : Nat → Int32 → hm_M → Option hm_M
  | 0, _, _ => none
  | n + 1, y3, μ1 => Option.bind (f_X10_many μ1) fun x3 =>
  (if x3 ≤ y3 then
  e80 μ1
  else
  (if w12_2 = y3 then
  f_X10_laysCosts_J73 v1 w12_2 c2 e86 (f_X10_laysCosts_L12 v1 w12_2 c2 e86 e80 n) e80 (1000000 : Int32) (((8 : Int32) * w12_2) + y3) y3 μ1
  else
  (if v1 = 0 then
  hm_b2 (f_X10_canHold w12_2 y3 μ1) fun x4 μ5 =>
  (if x4 = 0 then
  f_X10_laysCosts_J73 v1 w12_2 c2 e86 (f_X10_laysCosts_L12 v1 w12_2 c2 e86 e80 n) e80 (1000000 : Int32) (((8 : Int32) * w12_2) + y3) y3 μ5
  else
  hm_b2 (f_X10_lostOf w12_2 y3 μ5) fun x7 μ8 =>
  f_X10_laysCosts_J73 v1 w12_2 c2 e86 (f_X10_laysCosts_L12 v1 w12_2 c2 e86 e80 n) e80 x7 (((8 : Int32) * w12_2) + y3) y3 μ8)
  else
  hm_b2 (f_X10_gloveOf w12_2 y3 μ1) fun x9 μ10 =>
  f_X10_laysCosts_J73 v1 w12_2 c2 e86 (f_X10_laysCosts_L12 v1 w12_2 c2 e86 e80 n) e80 x9 (((8 : Int32) * w12_2) + y3) y3 μ10)))
theorem ok_X10_laysCosts_L12 {fr : Nat} (hfr : 90 ≤ fr) {ν : hm_N} {μR : hm_M}  (v1 : Int32) (w12_2 : Int32) (c2 : Int32 → hm_M → Option hm_M) (e86 : hm_M → Option hm_M) (e80 : hm_M → Option hm_M) (hc2 : ∀ (y2 : Int32)  (μ1 : hm_M), hm_LL ν μ1 → c2 y2 μ1 = some μR → hm_T (hm_LL ν) m_X10_laysCosts fr 0 0 none μR 2 [some (.ref 179), some (.int v1), some (.int y2), none] [] μ1) (he86 : ∀   (μ1 : hm_M), hm_LL ν μ1 → e86 μ1 = some μR → hm_T (hm_LL ν) m_X10_laysCosts fr 0 0 none μR 86 [none, none, none, none] [] μ1) (he80 : ∀   (μ1 : hm_M), hm_LL ν μ1 → e80 μ1 = some μR → hm_T (hm_LL ν) m_X10_laysCosts fr 0 0 none μR 80 [some (.ref 179), some (.int v1), some (.int w12_2), none] [] μ1)  : ∀ (n : Nat) (y3 : Int32)  (μ1 : hm_M), hm_LL ν μ1 → f_X10_laysCosts_L12 v1 w12_2 c2 e86 e80 n y3 μ1 = some μR → hm_T (hm_LL ν) m_X10_laysCosts fr 0 0 none μR 12 [some (.ref 179), some (.int v1), some (.int w12_2), some (.int y3)] [] μ1 := by
  intro n
  induction n with
  | zero =>
    intro y3 μ1 hL h
    unfold f_X10_laysCosts_L12 at h
    cases h
  | succ n ih =>
    intro y3 μ1 hL h
    unfold f_X10_laysCosts_L12 at h
    refine tr_iload_n (pc' := 13) (show decode cX10_laysCosts 12 = .ok (.iload_n 3, 1) by decide +kernel) rfl rfl rfl ?_
    refine tr_aload_n (pc' := 14) (show decode cX10_laysCosts 13 = .ok (.aload_n 0, 1) by decide +kernel) rfl rfl rfl ?_
    obtain ⟨x3, ex3, h⟩ := hm_bs h
    have cx3 := ok_X10_many (fr := fr - 1) (ν := ν) (by omega) μ1 hL ex3
    refine tp_callV (pc' := 17) (As := []) (fr1 := fr - 1) (ci := 10) okm_X10_many lk_HandRingModel_118 (show decode cX10_laysCosts 14 = .ok (.invokevirtual 118, 3) by decide +kernel) rfl rfl rfl (by decide) (la_o hL (by decide) rfl) rfl rfl (Nat.le_of_ble_eq_true rfl) (by omega) cx3 (st' := [.int x3, .int y3]) rfl ?_
    rcases hm_is h with ⟨hc, h⟩ | ⟨hc, h⟩
    · refine tr_icmp_ge_t (tgt := 80) hc (show decode cX10_laysCosts 17 = .ok (.if_icmp .ge 63, 3) by decide +kernel) (by decide) ?_
      refine hm_fgt [true, true, true, false] (lv' := [some (.ref 179), some (.int v1), some (.int w12_2), none]) rfl ?_
      exact he80 μ1 hL h
    · refine tr_icmp_ge_f (tgt := 80) (pc' := 20) hc (show decode cX10_laysCosts 17 = .ok (.if_icmp .ge 63, 3) by decide +kernel) (by decide) rfl ?_
      refine tr_aload_n (pc' := 21) (show decode cX10_laysCosts 20 = .ok (.aload_n 0, 1) by decide +kernel) rfl rfl rfl ?_
      refine tr_getR (pc' := 24) fl_HandRingModel_74 (show decode cX10_laysCosts 21 = .ok (.getfield 74, 3) by decide +kernel) rfl (la_o hL (by decide) rfl) (la_r hL 133 rfl) ?_
      refine tr_bipush (pc' := 26) (v := (8 : Int32)) (show decode cX10_laysCosts 24 = .ok (.bipush 8, 2) by decide +kernel) rfl (by decide) ?_
      refine tr_iload_n (pc' := 27) (show decode cX10_laysCosts 26 = .ok (.iload_n 2, 1) by decide +kernel) rfl rfl rfl ?_
      refine tr_imul (pc' := 28) (show decode cX10_laysCosts 27 = .ok (.imul, 1) by decide +kernel) rfl ?_
      refine tr_iload_n (pc' := 29) (show decode cX10_laysCosts 28 = .ok (.iload_n 3, 1) by decide +kernel) rfl rfl rfl ?_
      refine tr_iadd (pc' := 30) (show decode cX10_laysCosts 29 = .ok (.iadd, 1) by decide +kernel) rfl ?_
      refine tr_iload_n (pc' := 31) (show decode cX10_laysCosts 30 = .ok (.iload_n 2, 1) by decide +kernel) rfl rfl rfl ?_
      refine tr_iload_n (pc' := 32) (show decode cX10_laysCosts 31 = .ok (.iload_n 3, 1) by decide +kernel) rfl rfl rfl ?_
      rcases hm_is h with ⟨hc, h⟩ | ⟨hc, h⟩
      · refine tr_icmp_ne_f (tgt := 40) (pc' := 35) hc (show decode cX10_laysCosts 32 = .ok (.if_icmp .ne 8, 3) by decide +kernel) (by decide) rfl ?_
        refine tr_ldc (pc' := 37) (v := (1000000 : Int32)) (show decode cX10_laysCosts 35 = .ok (.ldc 180, 2) by decide +kernel) rfl kc_HandRingModel_180 ?_
        refine tr_goto (tgt := 73) (show decode cX10_laysCosts 37 = .ok (.goto 36, 3) by decide +kernel) rfl ?_
        exact ok_X10_laysCosts_J73 hfr _ w12_2 c2 e86 (f_X10_laysCosts_L12 v1 w12_2 c2 e86 e80 n) e80 hc2 he86 ih he80 (1000000 : Int32) (((8 : Int32) * w12_2) + y3) y3 μ1 hL h
      · refine tr_icmp_ne_t (tgt := 40) hc (show decode cX10_laysCosts 32 = .ok (.if_icmp .ne 8, 3) by decide +kernel) (by decide) ?_
        refine tr_iload_n (pc' := 41) (show decode cX10_laysCosts 40 = .ok (.iload_n 1, 1) by decide +kernel) rfl rfl rfl ?_
        rcases hm_is h with ⟨hc, h⟩ | ⟨hc, h⟩
        · refine tr_if_eq_t (tgt := 53) hc (show decode cX10_laysCosts 41 = .ok (.ifCond .eq 12, 3) by decide +kernel) (by decide) ?_
          refine tr_aload_n (pc' := 54) (show decode cX10_laysCosts 53 = .ok (.aload_n 0, 1) by decide +kernel) rfl rfl rfl ?_
          refine tr_iload_n (pc' := 55) (show decode cX10_laysCosts 54 = .ok (.iload_n 2, 1) by decide +kernel) rfl rfl rfl ?_
          refine tr_iload_n (pc' := 56) (show decode cX10_laysCosts 55 = .ok (.iload_n 3, 1) by decide +kernel) rfl rfl rfl ?_
          obtain ⟨x4, μ5, ex4, h⟩ := hm_b2s h
          have cx4 := ok_X10_canHold (fr := fr - 1) (ν := ν) (by omega) w12_2 y3 μ1 hL ex4
          refine tp_callV (pc' := 59) (As := [.int w12_2, .int y3]) (fr1 := fr - 1) (ci := 10) okm_X10_canHold lk_HandRingModel_353 (show decode cX10_laysCosts 56 = .ok (.invokevirtual 353, 3) by decide +kernel) rfl rfl rfl (by decide) (la_o hL (by decide) rfl) rfl rfl (Nat.le_of_ble_eq_true rfl) (by omega) cx4 (st' := [.int x4, .int (((8 : Int32) * w12_2) + y3), .ref 196]) rfl ?_
          replace hL := cx4.1
          rcases hm_is h with ⟨hc, h⟩ | ⟨hc, h⟩
          · refine tr_if_eq_t (tgt := 71) hc (show decode cX10_laysCosts 59 = .ok (.ifCond .eq 12, 3) by decide +kernel) (by decide) ?_
            refine tr_ldc (pc' := 73) (v := (1000000 : Int32)) (show decode cX10_laysCosts 71 = .ok (.ldc 180, 2) by decide +kernel) rfl kc_HandRingModel_180 ?_
            exact ok_X10_laysCosts_J73 hfr _ w12_2 c2 e86 (f_X10_laysCosts_L12 v1 w12_2 c2 e86 e80 n) e80 hc2 he86 ih he80 (1000000 : Int32) (((8 : Int32) * w12_2) + y3) y3 μ5 hL h
          · refine tr_if_eq_f (tgt := 71) (pc' := 62) hc (show decode cX10_laysCosts 59 = .ok (.ifCond .eq 12, 3) by decide +kernel) (by decide) rfl ?_
            refine tr_aload_n (pc' := 63) (show decode cX10_laysCosts 62 = .ok (.aload_n 0, 1) by decide +kernel) rfl rfl rfl ?_
            refine tr_iload_n (pc' := 64) (show decode cX10_laysCosts 63 = .ok (.iload_n 2, 1) by decide +kernel) rfl rfl rfl ?_
            refine tr_iload_n (pc' := 65) (show decode cX10_laysCosts 64 = .ok (.iload_n 3, 1) by decide +kernel) rfl rfl rfl ?_
            obtain ⟨x7, μ8, ex7, h⟩ := hm_b2s h
            have cx7 := ok_X10_lostOf (fr := fr - 1) (ν := ν) (by omega) w12_2 y3 μ5 hL ex7
            refine tp_callV (pc' := 68) (As := [.int w12_2, .int y3]) (fr1 := fr - 1) (ci := 10) okm_X10_lostOf lk_HandRingModel_150 (show decode cX10_laysCosts 65 = .ok (.invokevirtual 150, 3) by decide +kernel) rfl rfl rfl (by decide) (la_o hL (by decide) rfl) rfl rfl (Nat.le_of_ble_eq_true rfl) (by omega) cx7 (st' := [.int x7, .int (((8 : Int32) * w12_2) + y3), .ref 196]) rfl ?_
            replace hL := cx7.1
            refine tr_goto (tgt := 73) (show decode cX10_laysCosts 68 = .ok (.goto 5, 3) by decide +kernel) rfl ?_
            exact ok_X10_laysCosts_J73 hfr _ w12_2 c2 e86 (f_X10_laysCosts_L12 v1 w12_2 c2 e86 e80 n) e80 hc2 he86 ih he80 x7 (((8 : Int32) * w12_2) + y3) y3 μ8 hL h
        · refine tr_if_eq_f (tgt := 53) (pc' := 44) hc (show decode cX10_laysCosts 41 = .ok (.ifCond .eq 12, 3) by decide +kernel) (by decide) rfl ?_
          refine tr_aload_n (pc' := 45) (show decode cX10_laysCosts 44 = .ok (.aload_n 0, 1) by decide +kernel) rfl rfl rfl ?_
          refine tr_iload_n (pc' := 46) (show decode cX10_laysCosts 45 = .ok (.iload_n 2, 1) by decide +kernel) rfl rfl rfl ?_
          refine tr_iload_n (pc' := 47) (show decode cX10_laysCosts 46 = .ok (.iload_n 3, 1) by decide +kernel) rfl rfl rfl ?_
          obtain ⟨x9, μ10, ex9, h⟩ := hm_b2s h
          have cx9 := ok_X10_gloveOf (fr := fr - 1) (ν := ν) (by omega) w12_2 y3 μ1 hL ex9
          refine tp_callV (pc' := 50) (As := [.int w12_2, .int y3]) (fr1 := fr - 1) (ci := 10) okm_X10_gloveOf lk_HandRingModel_404 (show decode cX10_laysCosts 47 = .ok (.invokevirtual 404, 3) by decide +kernel) rfl rfl rfl (by decide) (la_o hL (by decide) rfl) rfl rfl (Nat.le_of_ble_eq_true rfl) (by omega) cx9 (st' := [.int x9, .int (((8 : Int32) * w12_2) + y3), .ref 196]) rfl ?_
          replace hL := cx9.1
          refine tr_goto (tgt := 73) (show decode cX10_laysCosts 50 = .ok (.goto 23, 3) by decide +kernel) rfl ?_
          exact ok_X10_laysCosts_J73 hfr _ w12_2 c2 e86 (f_X10_laysCosts_L12 v1 w12_2 c2 e86 e80 n) e80 hc2 he86 ih he80 x9 (((8 : Int32) * w12_2) + y3) y3 μ10 hL h
def f_X10_laysCosts_L2 (v1 : Int32) (e86 : hm_M → Option hm_M) : Nat → Int32 → hm_M → Option hm_M
  | 0, _, _ => none
  | n + 1, y2, μ1 => Option.bind (f_X10_many μ1) fun x2 =>
  (if x2 ≤ y2 then
  e86 μ1
  else
  f_X10_laysCosts_L12 v1 y2 (f_X10_laysCosts_L2 v1 e86 n) e86 (fun μz11 => (f_X10_laysCosts_L2 v1 e86 n) (y2 + (1 : Int32)) μz11) hm_fu (0 : Int32) μ1)
theorem ok_X10_laysCosts_L2 {fr : Nat} (hfr : 90 ≤ fr) {ν : hm_N} {μR : hm_M}  (v1 : Int32) (e86 : hm_M → Option hm_M)  (he86 : ∀   (μ1 : hm_M), hm_LL ν μ1 → e86 μ1 = some μR → hm_T (hm_LL ν) m_X10_laysCosts fr 0 0 none μR 86 [none, none, none, none] [] μ1)  : ∀ (n : Nat) (y2 : Int32)  (μ1 : hm_M), hm_LL ν μ1 → f_X10_laysCosts_L2 v1 e86 n y2 μ1 = some μR → hm_T (hm_LL ν) m_X10_laysCosts fr 0 0 none μR 2 [some (.ref 179), some (.int v1), some (.int y2), none] [] μ1 := by
  intro n
  induction n with
  | zero =>
    intro y2 μ1 hL h
    unfold f_X10_laysCosts_L2 at h
    cases h
  | succ n ih =>
    intro y2 μ1 hL h
    unfold f_X10_laysCosts_L2 at h
    refine tr_iload_n (pc' := 3) (show decode cX10_laysCosts 2 = .ok (.iload_n 2, 1) by decide +kernel) rfl rfl rfl ?_
    refine tr_aload_n (pc' := 4) (show decode cX10_laysCosts 3 = .ok (.aload_n 0, 1) by decide +kernel) rfl rfl rfl ?_
    obtain ⟨x2, ex2, h⟩ := hm_bs h
    have cx2 := ok_X10_many (fr := fr - 1) (ν := ν) (by omega) μ1 hL ex2
    refine tp_callV (pc' := 7) (As := []) (fr1 := fr - 1) (ci := 10) okm_X10_many lk_HandRingModel_118 (show decode cX10_laysCosts 4 = .ok (.invokevirtual 118, 3) by decide +kernel) rfl rfl rfl (by decide) (la_o hL (by decide) rfl) rfl rfl (Nat.le_of_ble_eq_true rfl) (by omega) cx2 (st' := [.int x2, .int y2]) rfl ?_
    rcases hm_is h with ⟨hc, h⟩ | ⟨hc, h⟩
    · refine tr_icmp_ge_t (tgt := 86) hc (show decode cX10_laysCosts 7 = .ok (.if_icmp .ge 79, 3) by decide +kernel) (by decide) ?_
      refine hm_fgt [false, false, false, false] (lv' := [none, none, none, none]) rfl ?_
      exact he86 μ1 hL h
    · refine tr_icmp_ge_f (tgt := 86) (pc' := 10) hc (show decode cX10_laysCosts 7 = .ok (.if_icmp .ge 79, 3) by decide +kernel) (by decide) rfl ?_
      refine tr_iconst (pc' := 11) (v := (0 : Int32)) (show decode cX10_laysCosts 10 = .ok (.iconst 0, 1) by decide +kernel) rfl (by decide) ?_
      refine tr_istore_n (pc' := 12) (lv' := [some (.ref 179), some (.int v1), some (.int y2), some (.int (0 : Int32))]) (show decode cX10_laysCosts 11 = .ok (.istore_n 3, 1) by decide +kernel) rfl rfl (Nat.le_of_ble_eq_true rfl) rfl rfl ?_
      refine ok_X10_laysCosts_L12 hfr _ y2 (f_X10_laysCosts_L2 v1 e86 n) e86 _ ih he86 ?_ _ (0 : Int32) μ1 hL h
      · intro μz11 hL h
        refine tr_iinc (pc' := 83) (v := y2 + (1 : Int32)) (lv' := [some (.ref 179), some (.int v1), some (.int (y2 + (1 : Int32))), none]) (show decode cX10_laysCosts 80 = .ok (.iinc 2 1, 3) by decide +kernel) rfl rfl rfl (Nat.le_of_ble_eq_true rfl) rfl rfl ?_
        refine tr_goto (tgt := 2) (show decode cX10_laysCosts 83 = .ok (.goto (-81), 3) by decide +kernel) rfl ?_
        exact ih (y2 + (1 : Int32)) μz11 hL h
def f_X10_laysCosts (v1 : Int32) (μ : hm_M) : Option hm_M :=
  f_X10_laysCosts_L2 v1 (fun μz12 => some μz12) hm_fu (0 : Int32) μ
set_option maxRecDepth 100000 in
theorem ok_X10_laysCosts {fr : Nat} (hfr : 90 ≤ fr) {ν : hm_N} {μR : hm_M}  (v1 : Int32)  (μ : hm_M) (hL : hm_LL ν μ) (h : f_X10_laysCosts v1 μ = some μR) : hm_CC (hm_LL ν) m_X10_laysCosts fr 0 0 [.ref 179, .int v1] μ none μR := by
  refine hm_enter (lv := [some (.ref 179), some (.int v1), none, none]) (by decide) rfl (Nat.le_of_ble_eq_true rfl) ?_
  unfold f_X10_laysCosts at h
  refine tr_iconst (pc' := 1) (v := (0 : Int32)) (show decode cX10_laysCosts 0 = .ok (.iconst 0, 1) by decide +kernel) rfl (by decide) ?_
  refine tr_istore_n (pc' := 2) (lv' := [some (.ref 179), some (.int v1), some (.int (0 : Int32)), none]) (show decode cX10_laysCosts 1 = .ok (.istore_n 2, 1) by decide +kernel) rfl rfl (Nat.le_of_ble_eq_true rfl) rfl rfl ?_
  refine ok_X10_laysCosts_L2 hfr _ _ ?_ _ (0 : Int32) μ hL h
  · intro μz12 hL h
    cases h
    exact tr_vret rfl (show decode cX10_laysCosts 86 = .ok (.return_, 1) by decide +kernel) hL
def f_X10_with (v1 : Int32) (v2 : Int32) (v3 : Int32) (μ : hm_M) : Option Int32 :=
  Option.bind (hm_ld μ 196 64 (((8 : Int32) * v2) + v3)) fun x2 =>
  (if (μ.1 179 39) = 0 then
  Option.bind (f_X10_lesser (1000000 : Int32) (v1 + x2)) fun x3 =>
  some x3
  else
  Option.bind (f_X10_greater v1 x2) fun x4 =>
  some x4)
set_option maxRecDepth 100000 in
theorem ok_X10_with {fr : Nat} (hfr : 1 ≤ fr) {ν : hm_N} {r : Int32}  (v1 : Int32) (v2 : Int32) (v3 : Int32)  (μ : hm_M) (hL : hm_LL ν μ) (h : f_X10_with v1 v2 v3 μ = some r) : hm_CC (hm_LL ν) m_X10_with fr 0 0 [.ref 179, .int v1, .int v2, .int v3] μ (some (.int r)) μ := by
  refine hm_enter (lv := [some (.ref 179), some (.int v1), some (.int v2), some (.int v3), none]) (by decide) rfl (Nat.le_of_ble_eq_true rfl) ?_
  unfold f_X10_with at h
  refine tr_aload_n (pc' := 1) (show decode cX10_with 0 = .ok (.aload_n 0, 1) by decide +kernel) rfl rfl rfl ?_
  refine tr_getR (pc' := 4) fl_HandRingModel_74 (show decode cX10_with 1 = .ok (.getfield 74, 3) by decide +kernel) rfl (la_o hL (by decide) rfl) (la_r hL 133 rfl) ?_
  refine tr_bipush (pc' := 6) (v := (8 : Int32)) (show decode cX10_with 4 = .ok (.bipush 8, 2) by decide +kernel) rfl (by decide) ?_
  refine tr_iload_n (pc' := 7) (show decode cX10_with 6 = .ok (.iload_n 2, 1) by decide +kernel) rfl rfl rfl ?_
  refine tr_imul (pc' := 8) (show decode cX10_with 7 = .ok (.imul, 1) by decide +kernel) rfl ?_
  refine tr_iload_n (pc' := 9) (show decode cX10_with 8 = .ok (.iload_n 3, 1) by decide +kernel) rfl rfl rfl ?_
  refine tr_iadd (pc' := 10) (show decode cX10_with 9 = .ok (.iadd, 1) by decide +kernel) rfl ?_
  obtain ⟨x2, ex2, h⟩ := hm_bs h
  refine tp_ldI (pc' := 11) (show decode cX10_with 10 = .ok (.iaload, 1) by decide +kernel) rfl (la_a hL (by decide) rfl) ex2 ?_
  refine tr_istore (pc' := 13) (lv' := [some (.ref 179), some (.int v1), some (.int v2), some (.int v3), some (.int x2)]) (show decode cX10_with 11 = .ok (.istore 4, 2) by decide +kernel) rfl (Nat.le_of_ble_eq_true rfl) rfl rfl ?_
  refine tr_aload_n (pc' := 14) (show decode cX10_with 13 = .ok (.aload_n 0, 1) by decide +kernel) rfl rfl rfl ?_
  refine tr_getI (pc' := 17) fl_HandRingModel_407 (show decode cX10_with 14 = .ok (.getfield 407, 3) by decide +kernel) rfl (la_o hL (by decide) rfl) ?_
  rcases hm_is h with ⟨hc, h⟩ | ⟨hc, h⟩
  · refine tr_if_eq_t (tgt := 29) hc (show decode cX10_with 17 = .ok (.ifCond .eq 12, 3) by decide +kernel) (by decide) ?_
    refine tr_ldc (pc' := 31) (v := (1000000 : Int32)) (show decode cX10_with 29 = .ok (.ldc 180, 2) by decide +kernel) rfl kc_HandRingModel_180 ?_
    refine tr_iload_n (pc' := 32) (show decode cX10_with 31 = .ok (.iload_n 1, 1) by decide +kernel) rfl rfl rfl ?_
    refine tr_iload (pc' := 34) (show decode cX10_with 32 = .ok (.iload 4, 2) by decide +kernel) rfl rfl ?_
    refine tr_iadd (pc' := 35) (show decode cX10_with 34 = .ok (.iadd, 1) by decide +kernel) rfl ?_
    obtain ⟨x3, ex3, h⟩ := hm_bs h
    have cx3 := ok_X10_lesser (fr := fr - 1) (ν := ν) (by omega) (1000000 : Int32) (v1 + x2) μ hL ex3
    refine tp_callS (pc' := 38) (As := [.int (1000000 : Int32), .int (v1 + x2)]) (fr1 := fr - 1) okm_X10_lesser lk_HandRingModel_340 (show decode cX10_with 35 = .ok (.invokestatic 340, 3) by decide +kernel) rfl rfl rfl (Nat.le_of_ble_eq_true rfl) (by omega) cx3 (st' := [.int x3]) rfl ?_
    cases h
    exact tr_iret rfl (show decode cX10_with 38 = .ok (.ireturn, 1) by decide +kernel) hL
  · refine tr_if_eq_f (tgt := 29) (pc' := 20) hc (show decode cX10_with 17 = .ok (.ifCond .eq 12, 3) by decide +kernel) (by decide) rfl ?_
    refine tr_iload_n (pc' := 21) (show decode cX10_with 20 = .ok (.iload_n 1, 1) by decide +kernel) rfl rfl rfl ?_
    refine tr_iload (pc' := 23) (show decode cX10_with 21 = .ok (.iload 4, 2) by decide +kernel) rfl rfl ?_
    obtain ⟨x4, ex4, h⟩ := hm_bs h
    have cx4 := ok_X10_greater (fr := fr - 1) (ν := ν) (by omega) v1 x2 μ hL ex4
    refine tp_callS (pc' := 26) (As := [.int v1, .int x2]) (fr1 := fr - 1) okm_X10_greater lk_HandRingModel_343 (show decode cX10_with 23 = .ok (.invokestatic 343, 3) by decide +kernel) rfl rfl rfl (Nat.le_of_ble_eq_true rfl) (by omega) cx4 (st' := [.int x4]) rfl ?_
    refine tr_goto (tgt := 38) (show decode cX10_with 26 = .ok (.goto 12, 3) by decide +kernel) rfl ?_
    cases h
    exact tr_iret rfl (show decode cX10_with 38 = .ok (.ireturn, 1) by decide +kernel) hL
def f_X10_triesRing_J156 (k_X10_triesRing : Int32 → Int32 → Int32 → hm_M → Option hm_M) (v1 : Int32) (v2 : Int32) (v3 : Int32) (c99 : Int32 → hm_M → Option hm_M) (e162 : hm_M → Option hm_M) (y4 : Int32) (μ1 : hm_M) : Option hm_M :=
  c99 (y4 + (1 : Int32)) μ1
theorem ok_X10_triesRing_J156 {fr : Nat} (hfr : 3 ≤ fr) {ν : hm_N} {μR : hm_M} (k_X10_triesRing : Int32 → Int32 → Int32 → hm_M → Option hm_M) (hk_X10_triesRing : ∀ {μR : hm_M} (v1 : Int32) (v2 : Int32) (v3 : Int32)  (μ : hm_M), hm_LL ν μ → k_X10_triesRing v1 v2 v3 μ = some μR → hm_CC (hm_LL ν) m_X10_triesRing (fr - 1) 0 0 [.ref 179, .int v1, .int v2, .int v3] μ none μR) (v1 : Int32) (v2 : Int32) (v3 : Int32) (c99 : Int32 → hm_M → Option hm_M) (e162 : hm_M → Option hm_M) (hc99 : ∀ (y4 : Int32)  (μ1 : hm_M), hm_LL ν μ1 → c99 y4 μ1 = some μR → hm_T (hm_LL ν) m_X10_triesRing fr 0 0 none μR 99 [some (.ref 179), some (.int v1), some (.int v2), some (.int v3), some (.int y4), none] [] μ1) (he162 : ∀   (μ1 : hm_M), hm_LL ν μ1 → e162 μ1 = some μR → hm_T (hm_LL ν) m_X10_triesRing fr 0 0 none μR 162 [none, none, none, none, none, none] [] μ1)  (y4 : Int32) (μ1 : hm_M) (hL : hm_LL ν μ1) (h : f_X10_triesRing_J156 k_X10_triesRing v1 v2 v3 c99 e162 y4 μ1 = some μR) : hm_T (hm_LL ν) m_X10_triesRing fr 0 0 none μR 156 [some (.ref 179), some (.int v1), some (.int v2), some (.int v3), some (.int y4), none] [] μ1 := by
  unfold f_X10_triesRing_J156 at h
  refine tr_iinc (pc' := 159) (v := y4 + (1 : Int32)) (lv' := [some (.ref 179), some (.int v1), some (.int v2), some (.int v3), some (.int (y4 + (1 : Int32))), none]) (show decode cX10_triesRing 156 = .ok (.iinc 4 1, 3) by decide +kernel) rfl rfl rfl (Nat.le_of_ble_eq_true rfl) rfl rfl ?_
  refine tr_goto (tgt := 99) (show decode cX10_triesRing 159 = .ok (.goto (-60), 3) by decide +kernel) rfl ?_
  exact hc99 (y4 + (1 : Int32)) μ1 hL h
def f_X10_triesRing_L99 (k_X10_triesRing : Int32 → Int32 → Int32 → hm_M → Option hm_M) (v1 : Int32) (v2 : Int32) (v3 : Int32) (e162 : hm_M → Option hm_M) : Nat → Int32 → hm_M → Option hm_M
  | 0, _, _ => none
  | n + 1, y4, μ1 => Option.bind (f_X10_many μ1) fun x3 =>
  (if x3 ≤ y4 then
  e162 μ1
  else
  Option.bind (f_X10_isIn v2 y4) fun x4 =>
  (if x4 = 0 then
  Option.bind (hm_sd μ1 197 8 v1 y4) fun μ5 =>
  Option.bind (hm_ld μ5 197 8 (v1 - (1 : Int32))) fun x6 =>
  Option.bind (f_X10_with v3 x6 y4 μ5) fun x7 =>
  Option.bind (k_X10_triesRing (v1 + (1 : Int32)) (v2 ||| ((1 : Int32) <<< (y4 &&& 31))) x7 μ5) fun μ9 =>
  f_X10_triesRing_J156 k_X10_triesRing v1 v2 v3 (f_X10_triesRing_L99 k_X10_triesRing v1 v2 v3 e162 n) e162 y4 μ9
  else
  f_X10_triesRing_J156 k_X10_triesRing v1 v2 v3 (f_X10_triesRing_L99 k_X10_triesRing v1 v2 v3 e162 n) e162 y4 μ1))
theorem ok_X10_triesRing_L99 {fr : Nat} (hfr : 3 ≤ fr) {ν : hm_N} {μR : hm_M} (k_X10_triesRing : Int32 → Int32 → Int32 → hm_M → Option hm_M) (hk_X10_triesRing : ∀ {μR : hm_M} (v1 : Int32) (v2 : Int32) (v3 : Int32)  (μ : hm_M), hm_LL ν μ → k_X10_triesRing v1 v2 v3 μ = some μR → hm_CC (hm_LL ν) m_X10_triesRing (fr - 1) 0 0 [.ref 179, .int v1, .int v2, .int v3] μ none μR) (v1 : Int32) (v2 : Int32) (v3 : Int32) (e162 : hm_M → Option hm_M)  (he162 : ∀   (μ1 : hm_M), hm_LL ν μ1 → e162 μ1 = some μR → hm_T (hm_LL ν) m_X10_triesRing fr 0 0 none μR 162 [none, none, none, none, none, none] [] μ1)  : ∀ (n : Nat) (y4 : Int32)  (μ1 : hm_M), hm_LL ν μ1 → f_X10_triesRing_L99 k_X10_triesRing v1 v2 v3 e162 n y4 μ1 = some μR → hm_T (hm_LL ν) m_X10_triesRing fr 0 0 none μR 99 [some (.ref 179), some (.int v1), some (.int v2), some (.int v3), some (.int y4), none] [] μ1 := by
  intro n
  induction n with
  | zero =>
    intro y4 μ1 hL h
    unfold f_X10_triesRing_L99 at h
    cases h
  | succ n ih =>
    intro y4 μ1 hL h
    unfold f_X10_triesRing_L99 at h
    refine tr_iload (pc' := 101) (show decode cX10_triesRing 99 = .ok (.iload 4, 2) by decide +kernel) rfl rfl ?_
    refine tr_aload_n (pc' := 102) (show decode cX10_triesRing 101 = .ok (.aload_n 0, 1) by decide +kernel) rfl rfl rfl ?_
    obtain ⟨x3, ex3, h⟩ := hm_bs h
    have cx3 := ok_X10_many (fr := fr - 1) (ν := ν) (by omega) μ1 hL ex3
    refine tp_callV (pc' := 105) (As := []) (fr1 := fr - 1) (ci := 10) okm_X10_many lk_HandRingModel_118 (show decode cX10_triesRing 102 = .ok (.invokevirtual 118, 3) by decide +kernel) rfl rfl rfl (by decide) (la_o hL (by decide) rfl) rfl rfl (Nat.le_of_ble_eq_true rfl) (by omega) cx3 (st' := [.int x3, .int y4]) rfl ?_
    rcases hm_is h with ⟨hc, h⟩ | ⟨hc, h⟩
    · refine tr_icmp_ge_t (tgt := 162) hc (show decode cX10_triesRing 105 = .ok (.if_icmp .ge 57, 3) by decide +kernel) (by decide) ?_
      refine hm_fgt [false, false, false, false, false, false] (lv' := [none, none, none, none, none, none]) rfl ?_
      exact he162 μ1 hL h
    · refine tr_icmp_ge_f (tgt := 162) (pc' := 108) hc (show decode cX10_triesRing 105 = .ok (.if_icmp .ge 57, 3) by decide +kernel) (by decide) rfl ?_
      refine tr_iload_n (pc' := 109) (show decode cX10_triesRing 108 = .ok (.iload_n 2, 1) by decide +kernel) rfl rfl rfl ?_
      refine tr_iload (pc' := 111) (show decode cX10_triesRing 109 = .ok (.iload 4, 2) by decide +kernel) rfl rfl ?_
      obtain ⟨x4, ex4, h⟩ := hm_bs h
      have cx4 := ok_X10_isIn (fr := fr - 1) (ν := ν) (by omega) v2 y4 μ1 hL ex4
      refine tp_callS (pc' := 114) (As := [.int v2, .int y4]) (fr1 := fr - 1) okm_X10_isIn lk_HandRingModel_356 (show decode cX10_triesRing 111 = .ok (.invokestatic 356, 3) by decide +kernel) rfl rfl rfl (Nat.le_of_ble_eq_true rfl) (by omega) cx4 (st' := [.int x4]) rfl ?_
      rcases hm_is h with ⟨hc, h⟩ | ⟨hc, h⟩
      · refine tr_if_eq_t (tgt := 120) hc (show decode cX10_triesRing 114 = .ok (.ifCond .eq 6, 3) by decide +kernel) (by decide) ?_
        refine tr_aload_n (pc' := 121) (show decode cX10_triesRing 120 = .ok (.aload_n 0, 1) by decide +kernel) rfl rfl rfl ?_
        refine tr_getR (pc' := 124) fl_HandRingModel_77 (show decode cX10_triesRing 121 = .ok (.getfield 77, 3) by decide +kernel) rfl (la_o hL (by decide) rfl) (la_r hL 134 rfl) ?_
        refine tr_iload_n (pc' := 125) (show decode cX10_triesRing 124 = .ok (.iload_n 1, 1) by decide +kernel) rfl rfl rfl ?_
        refine tr_iload (pc' := 127) (show decode cX10_triesRing 125 = .ok (.iload 4, 2) by decide +kernel) rfl rfl ?_
        obtain ⟨μ5, eμ5, h⟩ := hm_bs h
        refine tp_sdI (pc' := 128) (show decode cX10_triesRing 127 = .ok (.iastore, 1) by decide +kernel) rfl (la_a hL (by decide) rfl) eμ5 ?_
        replace hL := hL.same (hm_sd_s eμ5)
        refine tr_aload_n (pc' := 129) (show decode cX10_triesRing 128 = .ok (.aload_n 0, 1) by decide +kernel) rfl rfl rfl ?_
        refine tr_iload_n (pc' := 130) (show decode cX10_triesRing 129 = .ok (.iload_n 1, 1) by decide +kernel) rfl rfl rfl ?_
        refine tr_iconst (pc' := 131) (v := (1 : Int32)) (show decode cX10_triesRing 130 = .ok (.iconst 1, 1) by decide +kernel) rfl (by decide) ?_
        refine tr_iadd (pc' := 132) (show decode cX10_triesRing 131 = .ok (.iadd, 1) by decide +kernel) rfl ?_
        refine tr_iload_n (pc' := 133) (show decode cX10_triesRing 132 = .ok (.iload_n 2, 1) by decide +kernel) rfl rfl rfl ?_
        refine tr_iconst (pc' := 134) (v := (1 : Int32)) (show decode cX10_triesRing 133 = .ok (.iconst 1, 1) by decide +kernel) rfl (by decide) ?_
        refine tr_iload (pc' := 136) (show decode cX10_triesRing 134 = .ok (.iload 4, 2) by decide +kernel) rfl rfl ?_
        refine tr_ishl (pc' := 137) (show decode cX10_triesRing 136 = .ok (.ishl, 1) by decide +kernel) rfl ?_
        refine tr_ior (pc' := 138) (show decode cX10_triesRing 137 = .ok (.ior, 1) by decide +kernel) rfl ?_
        refine tr_aload_n (pc' := 139) (show decode cX10_triesRing 138 = .ok (.aload_n 0, 1) by decide +kernel) rfl rfl rfl ?_
        refine tr_iload_n (pc' := 140) (show decode cX10_triesRing 139 = .ok (.iload_n 3, 1) by decide +kernel) rfl rfl rfl ?_
        refine tr_aload_n (pc' := 141) (show decode cX10_triesRing 140 = .ok (.aload_n 0, 1) by decide +kernel) rfl rfl rfl ?_
        refine tr_getR (pc' := 144) fl_HandRingModel_77 (show decode cX10_triesRing 141 = .ok (.getfield 77, 3) by decide +kernel) rfl (la_o hL (by decide) rfl) (la_r hL 134 rfl) ?_
        refine tr_iload_n (pc' := 145) (show decode cX10_triesRing 144 = .ok (.iload_n 1, 1) by decide +kernel) rfl rfl rfl ?_
        refine tr_iconst (pc' := 146) (v := (1 : Int32)) (show decode cX10_triesRing 145 = .ok (.iconst 1, 1) by decide +kernel) rfl (by decide) ?_
        refine tr_isub (pc' := 147) (show decode cX10_triesRing 146 = .ok (.isub, 1) by decide +kernel) rfl ?_
        obtain ⟨x6, ex6, h⟩ := hm_bs h
        refine tp_ldI (pc' := 148) (show decode cX10_triesRing 147 = .ok (.iaload, 1) by decide +kernel) rfl (la_a hL (by decide) rfl) ex6 ?_
        refine tr_iload (pc' := 150) (show decode cX10_triesRing 148 = .ok (.iload 4, 2) by decide +kernel) rfl rfl ?_
        obtain ⟨x7, ex7, h⟩ := hm_bs h
        have cx7 := ok_X10_with (fr := fr - 1) (ν := ν) (by omega) v3 x6 y4 μ5 hL ex7
        refine tp_callV (pc' := 153) (As := [.int v3, .int x6, .int y4]) (fr1 := fr - 1) (ci := 10) okm_X10_with lk_HandRingModel_413 (show decode cX10_triesRing 150 = .ok (.invokevirtual 413, 3) by decide +kernel) rfl rfl rfl (by decide) (la_o hL (by decide) rfl) rfl rfl (Nat.le_of_ble_eq_true rfl) (by omega) cx7 (st' := [.int x7, .int (v2 ||| ((1 : Int32) <<< (y4 &&& 31))), .int (v1 + (1 : Int32)), .ref 179]) rfl ?_
        obtain ⟨μ9, ex8, h⟩ := hm_bs h
        have cx8 := hk_X10_triesRing (v1 + (1 : Int32)) (v2 ||| ((1 : Int32) <<< (y4 &&& 31))) x7 μ5 hL ex8
        refine tp_callV (pc' := 156) (As := [.int (v1 + (1 : Int32)), .int (v2 ||| ((1 : Int32) <<< (y4 &&& 31))), .int x7]) (fr1 := fr - 1) (ci := 10) okm_X10_triesRing lk_HandRingModel_417 (show decode cX10_triesRing 153 = .ok (.invokevirtual 417, 3) by decide +kernel) rfl rfl rfl (by decide) (la_o hL (by decide) rfl) rfl rfl (Nat.le_of_ble_eq_true rfl) (by omega) cx8 (st' := []) rfl ?_
        replace hL := cx8.1
        exact ok_X10_triesRing_J156 hfr k_X10_triesRing hk_X10_triesRing _ _ _ (f_X10_triesRing_L99 k_X10_triesRing v1 v2 v3 e162 n) e162 ih he162 y4 μ9 hL h
      · refine tr_if_eq_f (tgt := 120) (pc' := 117) hc (show decode cX10_triesRing 114 = .ok (.ifCond .eq 6, 3) by decide +kernel) (by decide) rfl ?_
        refine tr_goto (tgt := 156) (show decode cX10_triesRing 117 = .ok (.goto 39, 3) by decide +kernel) rfl ?_
        exact ok_X10_triesRing_J156 hfr k_X10_triesRing hk_X10_triesRing _ _ _ (f_X10_triesRing_L99 k_X10_triesRing v1 v2 v3 e162 n) e162 ih he162 y4 μ1 hL h
def f_X10_triesRing_L69 (k_X10_triesRing : Int32 → Int32 → Int32 → hm_M → Option hm_M) (v1 : Int32) (v2 : Int32) (v3 : Int32) (e95 : hm_M → Option hm_M) : Nat → Int32 → hm_M → Option hm_M
  | 0, _, _ => none
  | n + 1, y5, μ1 => (if v1 ≤ y5 then
  e95 μ1
  else
  Option.bind (hm_ld μ1 197 8 y5) fun x16 =>
  Option.bind (hm_sd μ1 198 8 y5 x16) fun μ17 =>
  (f_X10_triesRing_L69 k_X10_triesRing v1 v2 v3 e95 n) (y5 + (1 : Int32)) μ17)
theorem ok_X10_triesRing_L69 {fr : Nat} (hfr : 3 ≤ fr) {ν : hm_N} {μR : hm_M} (k_X10_triesRing : Int32 → Int32 → Int32 → hm_M → Option hm_M) (hk_X10_triesRing : ∀ {μR : hm_M} (v1 : Int32) (v2 : Int32) (v3 : Int32)  (μ : hm_M), hm_LL ν μ → k_X10_triesRing v1 v2 v3 μ = some μR → hm_CC (hm_LL ν) m_X10_triesRing (fr - 1) 0 0 [.ref 179, .int v1, .int v2, .int v3] μ none μR) (v1 : Int32) (v2 : Int32) (v3 : Int32) (e95 : hm_M → Option hm_M)  (he95 : ∀   (μ1 : hm_M), hm_LL ν μ1 → e95 μ1 = some μR → hm_T (hm_LL ν) m_X10_triesRing fr 0 0 none μR 95 [none, none, none, none, none, none] [] μ1)  : ∀ (n : Nat) (y5 : Int32)  (μ1 : hm_M), hm_LL ν μ1 → f_X10_triesRing_L69 k_X10_triesRing v1 v2 v3 e95 n y5 μ1 = some μR → hm_T (hm_LL ν) m_X10_triesRing fr 0 0 none μR 69 [some (.ref 179), some (.int v1), none, none, none, some (.int y5)] [] μ1 := by
  intro n
  induction n with
  | zero =>
    intro y5 μ1 hL h
    unfold f_X10_triesRing_L69 at h
    cases h
  | succ n ih =>
    intro y5 μ1 hL h
    unfold f_X10_triesRing_L69 at h
    refine tr_iload (pc' := 71) (show decode cX10_triesRing 69 = .ok (.iload 5, 2) by decide +kernel) rfl rfl ?_
    refine tr_iload_n (pc' := 72) (show decode cX10_triesRing 71 = .ok (.iload_n 1, 1) by decide +kernel) rfl rfl rfl ?_
    rcases hm_is h with ⟨hc, h⟩ | ⟨hc, h⟩
    · refine tr_icmp_ge_t (tgt := 95) hc (show decode cX10_triesRing 72 = .ok (.if_icmp .ge 23, 3) by decide +kernel) (by decide) ?_
      refine hm_fgt [false, false, false, false, false, false] (lv' := [none, none, none, none, none, none]) rfl ?_
      exact he95 μ1 hL h
    · refine tr_icmp_ge_f (tgt := 95) (pc' := 75) hc (show decode cX10_triesRing 72 = .ok (.if_icmp .ge 23, 3) by decide +kernel) (by decide) rfl ?_
      refine tr_aload_n (pc' := 76) (show decode cX10_triesRing 75 = .ok (.aload_n 0, 1) by decide +kernel) rfl rfl rfl ?_
      refine tr_getR (pc' := 79) fl_HandRingModel_80 (show decode cX10_triesRing 76 = .ok (.getfield 80, 3) by decide +kernel) rfl (la_o hL (by decide) rfl) (la_r hL 135 rfl) ?_
      refine tr_iload (pc' := 81) (show decode cX10_triesRing 79 = .ok (.iload 5, 2) by decide +kernel) rfl rfl ?_
      refine tr_aload_n (pc' := 82) (show decode cX10_triesRing 81 = .ok (.aload_n 0, 1) by decide +kernel) rfl rfl rfl ?_
      refine tr_getR (pc' := 85) fl_HandRingModel_77 (show decode cX10_triesRing 82 = .ok (.getfield 77, 3) by decide +kernel) rfl (la_o hL (by decide) rfl) (la_r hL 134 rfl) ?_
      refine tr_iload (pc' := 87) (show decode cX10_triesRing 85 = .ok (.iload 5, 2) by decide +kernel) rfl rfl ?_
      obtain ⟨x16, ex16, h⟩ := hm_bs h
      refine tp_ldI (pc' := 88) (show decode cX10_triesRing 87 = .ok (.iaload, 1) by decide +kernel) rfl (la_a hL (by decide) rfl) ex16 ?_
      obtain ⟨μ17, eμ17, h⟩ := hm_bs h
      refine tp_sdI (pc' := 89) (show decode cX10_triesRing 88 = .ok (.iastore, 1) by decide +kernel) rfl (la_a hL (by decide) rfl) eμ17 ?_
      replace hL := hL.same (hm_sd_s eμ17)
      refine tr_iinc (pc' := 92) (v := y5 + (1 : Int32)) (lv' := [some (.ref 179), some (.int v1), none, none, none, some (.int (y5 + (1 : Int32)))]) (show decode cX10_triesRing 89 = .ok (.iinc 5 1, 3) by decide +kernel) rfl rfl rfl (Nat.le_of_ble_eq_true rfl) rfl rfl ?_
      refine tr_goto (tgt := 69) (show decode cX10_triesRing 92 = .ok (.goto (-23), 3) by decide +kernel) rfl ?_
      exact ih (y5 + (1 : Int32)) μ17 hL h
def f_X10_triesRing (k_X10_triesRing : Int32 → Int32 → Int32 → hm_M → Option hm_M) (v1 : Int32) (v2 : Int32) (v3 : Int32) (μ : hm_M) : Option hm_M :=
  (if v3 < (μ.1 179 38) then
  Option.bind (f_X10_many μ) fun x2 =>
  (if v1 = x2 then
  Option.bind (hm_ld μ 197 8 (v1 - (1 : Int32))) fun x11 =>
  Option.bind (f_X10_with v3 x11 (0 : Int32) μ) fun x12 =>
  Option.bind (hm_ld μ 197 8 (1 : Int32)) fun x13 =>
  Option.bind (hm_ld μ 197 8 (v1 - (1 : Int32))) fun x14 =>
  (if x14 < x13 then
  some μ
  else
  (if x12 < (μ.1 179 38) then
  Option.bind (hm_pI μ 179 38 x12) fun μ15 =>
  f_X10_triesRing_L69 k_X10_triesRing v1 v2 v3 (fun μz18 => some μz18) hm_fu (0 : Int32) μ15
  else
  some μ))
  else
  f_X10_triesRing_L99 k_X10_triesRing v1 v2 v3 (fun μz10 => some μz10) hm_fu (1 : Int32) μ)
  else
  some μ)
set_option maxRecDepth 100000 in
theorem ok_X10_triesRing {fr : Nat} (hfr : 3 ≤ fr) {ν : hm_N} {μR : hm_M} (k_X10_triesRing : Int32 → Int32 → Int32 → hm_M → Option hm_M) (hk_X10_triesRing : ∀ {μR : hm_M} (v1 : Int32) (v2 : Int32) (v3 : Int32)  (μ : hm_M), hm_LL ν μ → k_X10_triesRing v1 v2 v3 μ = some μR → hm_CC (hm_LL ν) m_X10_triesRing (fr - 1) 0 0 [.ref 179, .int v1, .int v2, .int v3] μ none μR) (v1 : Int32) (v2 : Int32) (v3 : Int32)  (μ : hm_M) (hL : hm_LL ν μ) (h : f_X10_triesRing k_X10_triesRing v1 v2 v3 μ = some μR) : hm_CC (hm_LL ν) m_X10_triesRing fr 0 0 [.ref 179, .int v1, .int v2, .int v3] μ none μR := by
  refine hm_enter (lv := [some (.ref 179), some (.int v1), some (.int v2), some (.int v3), none, none]) (by decide) rfl (Nat.le_of_ble_eq_true rfl) ?_
  unfold f_X10_triesRing at h
  refine tr_iload_n (pc' := 1) (show decode cX10_triesRing 0 = .ok (.iload_n 3, 1) by decide +kernel) rfl rfl rfl ?_
  refine tr_aload_n (pc' := 2) (show decode cX10_triesRing 1 = .ok (.aload_n 0, 1) by decide +kernel) rfl rfl rfl ?_
  refine tr_getI (pc' := 5) fl_HandRingModel_410 (show decode cX10_triesRing 2 = .ok (.getfield 410, 3) by decide +kernel) rfl (la_o hL (by decide) rfl) ?_
  rcases hm_is h with ⟨hc, h⟩ | ⟨hc, h⟩
  · refine tr_icmp_lt_t (tgt := 9) hc (show decode cX10_triesRing 5 = .ok (.if_icmp .lt 4, 3) by decide +kernel) (by decide) ?_
    refine tr_iload_n (pc' := 10) (show decode cX10_triesRing 9 = .ok (.iload_n 1, 1) by decide +kernel) rfl rfl rfl ?_
    refine tr_aload_n (pc' := 11) (show decode cX10_triesRing 10 = .ok (.aload_n 0, 1) by decide +kernel) rfl rfl rfl ?_
    obtain ⟨x2, ex2, h⟩ := hm_bs h
    have cx2 := ok_X10_many (fr := fr - 1) (ν := ν) (by omega) μ hL ex2
    refine tp_callV (pc' := 14) (As := []) (fr1 := fr - 1) (ci := 10) okm_X10_many lk_HandRingModel_118 (show decode cX10_triesRing 11 = .ok (.invokevirtual 118, 3) by decide +kernel) rfl rfl rfl (by decide) (la_o hL (by decide) rfl) rfl rfl (Nat.le_of_ble_eq_true rfl) (by omega) cx2 (st' := [.int x2, .int v1]) rfl ?_
    rcases hm_is h with ⟨hc, h⟩ | ⟨hc, h⟩
    · refine tr_icmp_ne_f (tgt := 96) (pc' := 17) hc (show decode cX10_triesRing 14 = .ok (.if_icmp .ne 82, 3) by decide +kernel) (by decide) rfl ?_
      refine tr_aload_n (pc' := 18) (show decode cX10_triesRing 17 = .ok (.aload_n 0, 1) by decide +kernel) rfl rfl rfl ?_
      refine tr_iload_n (pc' := 19) (show decode cX10_triesRing 18 = .ok (.iload_n 3, 1) by decide +kernel) rfl rfl rfl ?_
      refine tr_aload_n (pc' := 20) (show decode cX10_triesRing 19 = .ok (.aload_n 0, 1) by decide +kernel) rfl rfl rfl ?_
      refine tr_getR (pc' := 23) fl_HandRingModel_77 (show decode cX10_triesRing 20 = .ok (.getfield 77, 3) by decide +kernel) rfl (la_o hL (by decide) rfl) (la_r hL 134 rfl) ?_
      refine tr_iload_n (pc' := 24) (show decode cX10_triesRing 23 = .ok (.iload_n 1, 1) by decide +kernel) rfl rfl rfl ?_
      refine tr_iconst (pc' := 25) (v := (1 : Int32)) (show decode cX10_triesRing 24 = .ok (.iconst 1, 1) by decide +kernel) rfl (by decide) ?_
      refine tr_isub (pc' := 26) (show decode cX10_triesRing 25 = .ok (.isub, 1) by decide +kernel) rfl ?_
      obtain ⟨x11, ex11, h⟩ := hm_bs h
      refine tp_ldI (pc' := 27) (show decode cX10_triesRing 26 = .ok (.iaload, 1) by decide +kernel) rfl (la_a hL (by decide) rfl) ex11 ?_
      refine tr_iconst (pc' := 28) (v := (0 : Int32)) (show decode cX10_triesRing 27 = .ok (.iconst 0, 1) by decide +kernel) rfl (by decide) ?_
      obtain ⟨x12, ex12, h⟩ := hm_bs h
      have cx12 := ok_X10_with (fr := fr - 1) (ν := ν) (by omega) v3 x11 (0 : Int32) μ hL ex12
      refine tp_callV (pc' := 31) (As := [.int v3, .int x11, .int (0 : Int32)]) (fr1 := fr - 1) (ci := 10) okm_X10_with lk_HandRingModel_413 (show decode cX10_triesRing 28 = .ok (.invokevirtual 413, 3) by decide +kernel) rfl rfl rfl (by decide) (la_o hL (by decide) rfl) rfl rfl (Nat.le_of_ble_eq_true rfl) (by omega) cx12 (st' := [.int x12]) rfl ?_
      refine tr_istore (pc' := 33) (lv' := [some (.ref 179), some (.int v1), some (.int v2), some (.int v3), some (.int x12), none]) (show decode cX10_triesRing 31 = .ok (.istore 4, 2) by decide +kernel) rfl (Nat.le_of_ble_eq_true rfl) rfl rfl ?_
      refine tr_aload_n (pc' := 34) (show decode cX10_triesRing 33 = .ok (.aload_n 0, 1) by decide +kernel) rfl rfl rfl ?_
      refine tr_getR (pc' := 37) fl_HandRingModel_77 (show decode cX10_triesRing 34 = .ok (.getfield 77, 3) by decide +kernel) rfl (la_o hL (by decide) rfl) (la_r hL 134 rfl) ?_
      refine tr_iconst (pc' := 38) (v := (1 : Int32)) (show decode cX10_triesRing 37 = .ok (.iconst 1, 1) by decide +kernel) rfl (by decide) ?_
      obtain ⟨x13, ex13, h⟩ := hm_bs h
      refine tp_ldI (pc' := 39) (show decode cX10_triesRing 38 = .ok (.iaload, 1) by decide +kernel) rfl (la_a hL (by decide) rfl) ex13 ?_
      refine tr_aload_n (pc' := 40) (show decode cX10_triesRing 39 = .ok (.aload_n 0, 1) by decide +kernel) rfl rfl rfl ?_
      refine tr_getR (pc' := 43) fl_HandRingModel_77 (show decode cX10_triesRing 40 = .ok (.getfield 77, 3) by decide +kernel) rfl (la_o hL (by decide) rfl) (la_r hL 134 rfl) ?_
      refine tr_iload_n (pc' := 44) (show decode cX10_triesRing 43 = .ok (.iload_n 1, 1) by decide +kernel) rfl rfl rfl ?_
      refine tr_iconst (pc' := 45) (v := (1 : Int32)) (show decode cX10_triesRing 44 = .ok (.iconst 1, 1) by decide +kernel) rfl (by decide) ?_
      refine tr_isub (pc' := 46) (show decode cX10_triesRing 45 = .ok (.isub, 1) by decide +kernel) rfl ?_
      obtain ⟨x14, ex14, h⟩ := hm_bs h
      refine tp_ldI (pc' := 47) (show decode cX10_triesRing 46 = .ok (.iaload, 1) by decide +kernel) rfl (la_a hL (by decide) rfl) ex14 ?_
      rcases hm_is h with ⟨hc, h⟩ | ⟨hc, h⟩
      · refine tr_icmp_gt_t (tgt := 59) hc (show decode cX10_triesRing 47 = .ok (.if_icmp .gt 12, 3) by decide +kernel) (by decide) ?_
        cases h
        exact tr_vret rfl (show decode cX10_triesRing 59 = .ok (.return_, 1) by decide +kernel) hL
      · refine tr_icmp_gt_f (tgt := 59) (pc' := 50) hc (show decode cX10_triesRing 47 = .ok (.if_icmp .gt 12, 3) by decide +kernel) (by decide) rfl ?_
        refine tr_iload (pc' := 52) (show decode cX10_triesRing 50 = .ok (.iload 4, 2) by decide +kernel) rfl rfl ?_
        refine tr_aload_n (pc' := 53) (show decode cX10_triesRing 52 = .ok (.aload_n 0, 1) by decide +kernel) rfl rfl rfl ?_
        refine tr_getI (pc' := 56) fl_HandRingModel_410 (show decode cX10_triesRing 53 = .ok (.getfield 410, 3) by decide +kernel) rfl (la_o hL (by decide) rfl) ?_
        rcases hm_is h with ⟨hc, h⟩ | ⟨hc, h⟩
        · refine tr_icmp_lt_t (tgt := 60) hc (show decode cX10_triesRing 56 = .ok (.if_icmp .lt 4, 3) by decide +kernel) (by decide) ?_
          refine tr_aload_n (pc' := 61) (show decode cX10_triesRing 60 = .ok (.aload_n 0, 1) by decide +kernel) rfl rfl rfl ?_
          refine tr_iload (pc' := 63) (show decode cX10_triesRing 61 = .ok (.iload 4, 2) by decide +kernel) rfl rfl ?_
          obtain ⟨μ15, eμ15, h⟩ := hm_bs h
          refine tp_pI (pc' := 66) fl_HandRingModel_410 (show decode cX10_triesRing 63 = .ok (.putfield 410, 3) by decide +kernel) rfl (la_o hL (by decide) rfl) eμ15 ?_
          replace hL := hL.same (hm_pI_s eμ15)
          refine tr_iconst (pc' := 67) (v := (0 : Int32)) (show decode cX10_triesRing 66 = .ok (.iconst 0, 1) by decide +kernel) rfl (by decide) ?_
          refine tr_istore (pc' := 69) (lv' := [some (.ref 179), some (.int v1), some (.int v2), some (.int v3), some (.int x12), some (.int (0 : Int32))]) (show decode cX10_triesRing 67 = .ok (.istore 5, 2) by decide +kernel) rfl (Nat.le_of_ble_eq_true rfl) rfl rfl ?_
          refine hm_fgt [true, true, false, false, false, true] (lv' := [some (.ref 179), some (.int v1), none, none, none, some (.int (0 : Int32))]) rfl ?_
          refine ok_X10_triesRing_L69 hfr k_X10_triesRing hk_X10_triesRing _ _ _ _ ?_ _ (0 : Int32) μ15 hL h
          · intro μz18 hL h
            cases h
            exact tr_vret rfl (show decode cX10_triesRing 95 = .ok (.return_, 1) by decide +kernel) hL
        · refine tr_icmp_lt_f (tgt := 60) (pc' := 59) hc (show decode cX10_triesRing 56 = .ok (.if_icmp .lt 4, 3) by decide +kernel) (by decide) rfl ?_
          cases h
          exact tr_vret rfl (show decode cX10_triesRing 59 = .ok (.return_, 1) by decide +kernel) hL
    · refine tr_icmp_ne_t (tgt := 96) hc (show decode cX10_triesRing 14 = .ok (.if_icmp .ne 82, 3) by decide +kernel) (by decide) ?_
      refine tr_iconst (pc' := 97) (v := (1 : Int32)) (show decode cX10_triesRing 96 = .ok (.iconst 1, 1) by decide +kernel) rfl (by decide) ?_
      refine tr_istore (pc' := 99) (lv' := [some (.ref 179), some (.int v1), some (.int v2), some (.int v3), some (.int (1 : Int32)), none]) (show decode cX10_triesRing 97 = .ok (.istore 4, 2) by decide +kernel) rfl (Nat.le_of_ble_eq_true rfl) rfl rfl ?_
      refine ok_X10_triesRing_L99 hfr k_X10_triesRing hk_X10_triesRing _ _ _ _ ?_ _ (1 : Int32) μ hL h
      · intro μz10 hL h
        cases h
        exact tr_vret rfl (show decode cX10_triesRing 162 = .ok (.return_, 1) by decide +kernel) hL
  · refine tr_icmp_lt_f (tgt := 9) (pc' := 8) hc (show decode cX10_triesRing 5 = .ok (.if_icmp .lt 4, 3) by decide +kernel) (by decide) rfl ?_
    cases h
    exact tr_vret rfl (show decode cX10_triesRing 8 = .ok (.return_, 1) by decide +kernel) hL
def K_X10_triesRing : Nat → (Int32 → Int32 → Int32 → hm_M → Option hm_M)
  | 0 => fun _ _ _ _ => none
  | n + 1 => f_X10_triesRing (K_X10_triesRing n)
theorem KK_X10_triesRing {ν : hm_N} : ∀ (n fr : Nat), n + 3 ≤ fr → (∀ {μR : hm_M} (v1 : Int32) (v2 : Int32) (v3 : Int32)  (μ : hm_M), hm_LL ν μ → (K_X10_triesRing n) v1 v2 v3 μ = some μR → hm_CC (hm_LL ν) m_X10_triesRing (fr) 0 0 [.ref 179, .int v1, .int v2, .int v3] μ none μR) := by
  intro n
  induction n with
  | zero =>
    intro fr _
    exact (by intros; rename_i h; exact absurd (show none = some _ from h) (fun z => by cases z))
  | succ n ih =>
    intro fr hf
    have I := @ih (fr - 1) (by omega)
    exact (fun {_} v1 v2 v3  μ hL h => ok_X10_triesRing (by omega) (K_X10_triesRing n) I v1 v2 v3  μ hL h)
def F_X10_triesRing (v1 : Int32) (v2 : Int32) (v3 : Int32) (μ : hm_M) : Option hm_M := (K_X10_triesRing 40) v1 v2 v3 μ
theorem OK_X10_triesRing {fr : Nat} (hfr : 43 ≤ fr) {ν : hm_N} {μR : hm_M} (v1 : Int32) (v2 : Int32) (v3 : Int32)  (μ : hm_M) (hL : hm_LL ν μ) (h : F_X10_triesRing v1 v2 v3 μ = some μR) : hm_CC (hm_LL ν) m_X10_triesRing fr 0 0 [.ref 179, .int v1, .int v2, .int v3] μ none μR := (KK_X10_triesRing 40 fr (by omega)) v1 v2 v3  μ hL h
def f_X10_bestRing_J42 (v1 : Int32) (μ1 : hm_M) : Option (Int32 × hm_M) :=
  (if (μ1.1 179 38) = (1000000 : Int32) then
  some ((-1 : Int32), μ1)
  else
  (if v1 = 0 then
  some (μ1.1 179 38, μ1)
  else
  Option.bind (hm_ld μ1 198 8 (v1 - (1 : Int32))) fun x7 =>
  some (x7, μ1)))
theorem ok_X10_bestRing_J42 {fr : Nat} (hfr : 44 ≤ fr) {ν : hm_N} {r : Int32} {μR : hm_M}  (v1 : Int32)     (μ1 : hm_M) (hL : hm_LL ν μ1) (h : f_X10_bestRing_J42 v1 μ1 = some (r, μR)) : hm_T (hm_LL ν) m_X10_bestRing fr 0 0 (some (.int r)) μR 42 [some (.ref 179), some (.int v1)] [] μ1 := by
  unfold f_X10_bestRing_J42 at h
  refine tr_aload_n (pc' := 43) (show decode cX10_bestRing 42 = .ok (.aload_n 0, 1) by decide +kernel) rfl rfl rfl ?_
  refine tr_getI (pc' := 46) fl_HandRingModel_410 (show decode cX10_bestRing 43 = .ok (.getfield 410, 3) by decide +kernel) rfl (la_o hL (by decide) rfl) ?_
  refine tr_ldc (pc' := 48) (v := (1000000 : Int32)) (show decode cX10_bestRing 46 = .ok (.ldc 180, 2) by decide +kernel) rfl kc_HandRingModel_180 ?_
  rcases hm_is h with ⟨hc, h⟩ | ⟨hc, h⟩
  · refine tr_icmp_ne_f (tgt := 53) (pc' := 51) hc (show decode cX10_bestRing 48 = .ok (.if_icmp .ne 5, 3) by decide +kernel) (by decide) rfl ?_
    refine tr_iconst (pc' := 52) (v := (-1 : Int32)) (show decode cX10_bestRing 51 = .ok (.iconst (-1), 1) by decide +kernel) rfl (by decide) ?_
    cases h
    exact tr_iret rfl (show decode cX10_bestRing 52 = .ok (.ireturn, 1) by decide +kernel) hL
  · refine tr_icmp_ne_t (tgt := 53) hc (show decode cX10_bestRing 48 = .ok (.if_icmp .ne 5, 3) by decide +kernel) (by decide) ?_
    refine tr_iload_n (pc' := 54) (show decode cX10_bestRing 53 = .ok (.iload_n 1, 1) by decide +kernel) rfl rfl rfl ?_
    rcases hm_is h with ⟨hc, h⟩ | ⟨hc, h⟩
    · refine tr_if_ne_f (tgt := 64) (pc' := 57) hc (show decode cX10_bestRing 54 = .ok (.ifCond .ne 10, 3) by decide +kernel) (by decide) rfl ?_
      refine tr_aload_n (pc' := 58) (show decode cX10_bestRing 57 = .ok (.aload_n 0, 1) by decide +kernel) rfl rfl rfl ?_
      refine tr_getI (pc' := 61) fl_HandRingModel_410 (show decode cX10_bestRing 58 = .ok (.getfield 410, 3) by decide +kernel) rfl (la_o hL (by decide) rfl) ?_
      refine tr_goto (tgt := 72) (show decode cX10_bestRing 61 = .ok (.goto 11, 3) by decide +kernel) rfl ?_
      cases h
      exact tr_iret rfl (show decode cX10_bestRing 72 = .ok (.ireturn, 1) by decide +kernel) hL
    · refine tr_if_ne_t (tgt := 64) hc (show decode cX10_bestRing 54 = .ok (.ifCond .ne 10, 3) by decide +kernel) (by decide) ?_
      refine tr_aload_n (pc' := 65) (show decode cX10_bestRing 64 = .ok (.aload_n 0, 1) by decide +kernel) rfl rfl rfl ?_
      refine tr_getR (pc' := 68) fl_HandRingModel_80 (show decode cX10_bestRing 65 = .ok (.getfield 80, 3) by decide +kernel) rfl (la_o hL (by decide) rfl) (la_r hL 135 rfl) ?_
      refine tr_iload_n (pc' := 69) (show decode cX10_bestRing 68 = .ok (.iload_n 1, 1) by decide +kernel) rfl rfl rfl ?_
      refine tr_iconst (pc' := 70) (v := (1 : Int32)) (show decode cX10_bestRing 69 = .ok (.iconst 1, 1) by decide +kernel) rfl (by decide) ?_
      refine tr_isub (pc' := 71) (show decode cX10_bestRing 70 = .ok (.isub, 1) by decide +kernel) rfl ?_
      obtain ⟨x7, ex7, h⟩ := hm_bs h
      refine tp_ldI (pc' := 72) (show decode cX10_bestRing 71 = .ok (.iaload, 1) by decide +kernel) rfl (la_a hL (by decide) rfl) ex7 ?_
      cases h
      exact tr_iret rfl (show decode cX10_bestRing 72 = .ok (.ireturn, 1) by decide +kernel) hL
def f_X10_bestRing (v1 : Int32) (μ : hm_M) : Option (Int32 × hm_M) :=
  Option.bind (f_X10_many μ) fun x2 =>
  Option.bind (f_X10_lies v1 (0 : Int32) x2) fun x3 =>
  (if x3 = 0 then
  some ((-1 : Int32), μ)
  else
  Option.bind (hm_pI μ 179 38 (1000000 : Int32)) fun μ4 =>
  Option.bind (hm_sd μ4 197 8 (0 : Int32) (0 : Int32)) fun μ5 =>
  Option.bind (f_X10_many μ5) fun x6 =>
  (if x6 < (3 : Int32) then
  f_X10_bestRing_J42 v1 μ5
  else
  Option.bind (F_X10_triesRing (1 : Int32) (1 : Int32) (0 : Int32) μ5) fun μ9 =>
  f_X10_bestRing_J42 v1 μ9))
set_option maxRecDepth 100000 in
theorem ok_X10_bestRing {fr : Nat} (hfr : 44 ≤ fr) {ν : hm_N} {r : Int32} {μR : hm_M}  (v1 : Int32)  (μ : hm_M) (hL : hm_LL ν μ) (h : f_X10_bestRing v1 μ = some (r, μR)) : hm_CC (hm_LL ν) m_X10_bestRing fr 0 0 [.ref 179, .int v1] μ (some (.int r)) μR := by
  refine hm_enter (lv := [some (.ref 179), some (.int v1)]) (by decide) rfl (Nat.le_of_ble_eq_true rfl) ?_
  unfold f_X10_bestRing at h
  refine tr_iload_n (pc' := 1) (show decode cX10_bestRing 0 = .ok (.iload_n 1, 1) by decide +kernel) rfl rfl rfl ?_
  refine tr_iconst (pc' := 2) (v := (0 : Int32)) (show decode cX10_bestRing 1 = .ok (.iconst 0, 1) by decide +kernel) rfl (by decide) ?_
  refine tr_aload_n (pc' := 3) (show decode cX10_bestRing 2 = .ok (.aload_n 0, 1) by decide +kernel) rfl rfl rfl ?_
  obtain ⟨x2, ex2, h⟩ := hm_bs h
  have cx2 := ok_X10_many (fr := fr - 1) (ν := ν) (by omega) μ hL ex2
  refine tp_callV (pc' := 6) (As := []) (fr1 := fr - 1) (ci := 10) okm_X10_many lk_HandRingModel_118 (show decode cX10_bestRing 3 = .ok (.invokevirtual 118, 3) by decide +kernel) rfl rfl rfl (by decide) (la_o hL (by decide) rfl) rfl rfl (Nat.le_of_ble_eq_true rfl) (by omega) cx2 (st' := [.int x2, .int (0 : Int32), .int v1]) rfl ?_
  obtain ⟨x3, ex3, h⟩ := hm_bs h
  have cx3 := ok_X10_lies (fr := fr - 1) (ν := ν) (by omega) v1 (0 : Int32) x2 μ hL ex3
  refine tp_callS (pc' := 9) (As := [.int v1, .int (0 : Int32), .int x2]) (fr1 := fr - 1) okm_X10_lies lk_HandRingModel_108 (show decode cX10_bestRing 6 = .ok (.invokestatic 108, 3) by decide +kernel) rfl rfl rfl (Nat.le_of_ble_eq_true rfl) (by omega) cx3 (st' := [.int x3]) rfl ?_
  rcases hm_is h with ⟨hc, h⟩ | ⟨hc, h⟩
  · refine tr_if_ne_f (tgt := 14) (pc' := 12) hc (show decode cX10_bestRing 9 = .ok (.ifCond .ne 5, 3) by decide +kernel) (by decide) rfl ?_
    refine tr_iconst (pc' := 13) (v := (-1 : Int32)) (show decode cX10_bestRing 12 = .ok (.iconst (-1), 1) by decide +kernel) rfl (by decide) ?_
    cases h
    exact tr_iret rfl (show decode cX10_bestRing 13 = .ok (.ireturn, 1) by decide +kernel) hL
  · refine tr_if_ne_t (tgt := 14) hc (show decode cX10_bestRing 9 = .ok (.ifCond .ne 5, 3) by decide +kernel) (by decide) ?_
    refine tr_aload_n (pc' := 15) (show decode cX10_bestRing 14 = .ok (.aload_n 0, 1) by decide +kernel) rfl rfl rfl ?_
    refine tr_ldc (pc' := 17) (v := (1000000 : Int32)) (show decode cX10_bestRing 15 = .ok (.ldc 180, 2) by decide +kernel) rfl kc_HandRingModel_180 ?_
    obtain ⟨μ4, eμ4, h⟩ := hm_bs h
    refine tp_pI (pc' := 20) fl_HandRingModel_410 (show decode cX10_bestRing 17 = .ok (.putfield 410, 3) by decide +kernel) rfl (la_o hL (by decide) rfl) eμ4 ?_
    replace hL := hL.same (hm_pI_s eμ4)
    refine tr_aload_n (pc' := 21) (show decode cX10_bestRing 20 = .ok (.aload_n 0, 1) by decide +kernel) rfl rfl rfl ?_
    refine tr_getR (pc' := 24) fl_HandRingModel_77 (show decode cX10_bestRing 21 = .ok (.getfield 77, 3) by decide +kernel) rfl (la_o hL (by decide) rfl) (la_r hL 134 rfl) ?_
    refine tr_iconst (pc' := 25) (v := (0 : Int32)) (show decode cX10_bestRing 24 = .ok (.iconst 0, 1) by decide +kernel) rfl (by decide) ?_
    refine tr_iconst (pc' := 26) (v := (0 : Int32)) (show decode cX10_bestRing 25 = .ok (.iconst 0, 1) by decide +kernel) rfl (by decide) ?_
    obtain ⟨μ5, eμ5, h⟩ := hm_bs h
    refine tp_sdI (pc' := 27) (show decode cX10_bestRing 26 = .ok (.iastore, 1) by decide +kernel) rfl (la_a hL (by decide) rfl) eμ5 ?_
    replace hL := hL.same (hm_sd_s eμ5)
    refine tr_aload_n (pc' := 28) (show decode cX10_bestRing 27 = .ok (.aload_n 0, 1) by decide +kernel) rfl rfl rfl ?_
    obtain ⟨x6, ex6, h⟩ := hm_bs h
    have cx6 := ok_X10_many (fr := fr - 1) (ν := ν) (by omega) μ5 hL ex6
    refine tp_callV (pc' := 31) (As := []) (fr1 := fr - 1) (ci := 10) okm_X10_many lk_HandRingModel_118 (show decode cX10_bestRing 28 = .ok (.invokevirtual 118, 3) by decide +kernel) rfl rfl rfl (by decide) (la_o hL (by decide) rfl) rfl rfl (Nat.le_of_ble_eq_true rfl) (by omega) cx6 (st' := [.int x6]) rfl ?_
    refine tr_iconst (pc' := 32) (v := (3 : Int32)) (show decode cX10_bestRing 31 = .ok (.iconst 3, 1) by decide +kernel) rfl (by decide) ?_
    rcases hm_is h with ⟨hc, h⟩ | ⟨hc, h⟩
    · refine tr_icmp_lt_t (tgt := 42) hc (show decode cX10_bestRing 32 = .ok (.if_icmp .lt 10, 3) by decide +kernel) (by decide) ?_
      exact ok_X10_bestRing_J42 hfr _ μ5 hL h
    · refine tr_icmp_lt_f (tgt := 42) (pc' := 35) hc (show decode cX10_bestRing 32 = .ok (.if_icmp .lt 10, 3) by decide +kernel) (by decide) rfl ?_
      refine tr_aload_n (pc' := 36) (show decode cX10_bestRing 35 = .ok (.aload_n 0, 1) by decide +kernel) rfl rfl rfl ?_
      refine tr_iconst (pc' := 37) (v := (1 : Int32)) (show decode cX10_bestRing 36 = .ok (.iconst 1, 1) by decide +kernel) rfl (by decide) ?_
      refine tr_iconst (pc' := 38) (v := (1 : Int32)) (show decode cX10_bestRing 37 = .ok (.iconst 1, 1) by decide +kernel) rfl (by decide) ?_
      refine tr_iconst (pc' := 39) (v := (0 : Int32)) (show decode cX10_bestRing 38 = .ok (.iconst 0, 1) by decide +kernel) rfl (by decide) ?_
      obtain ⟨μ9, ex8, h⟩ := hm_bs h
      have cx8 := OK_X10_triesRing (fr := fr - 1) (ν := ν) (by omega) (1 : Int32) (1 : Int32) (0 : Int32) μ5 hL ex8
      refine tp_callV (pc' := 42) (As := [.int (1 : Int32), .int (1 : Int32), .int (0 : Int32)]) (fr1 := fr - 1) (ci := 10) okm_X10_triesRing lk_HandRingModel_417 (show decode cX10_bestRing 39 = .ok (.invokevirtual 417, 3) by decide +kernel) rfl rfl rfl (by decide) (la_o hL (by decide) rfl) rfl rfl (Nat.le_of_ble_eq_true rfl) (by omega) cx8 (st' := []) rfl ?_
      replace hL := cx8.1
      exact ok_X10_bestRing_J42 hfr _ μ9 hL h
def f_X10_ring (v1 : Int32) (μ : hm_M) : Option (Int32 × hm_M) :=
  Option.bind (f_X10_laysCosts (0 : Int32) μ) fun μ3 =>
  Option.bind (hm_pZ μ3 179 39 (0 : Int32)) fun μ4 =>
  hm_b2 (f_X10_bestRing v1 μ4) fun x5 μ6 =>
  some (x5, μ6)
set_option maxRecDepth 100000 in
theorem ok_X10_ring {fr : Nat} (hfr : 91 ≤ fr) {ν : hm_N} {r : Int32} {μR : hm_M}  (v1 : Int32)  (μ : hm_M) (hL : hm_LL ν μ) (h : f_X10_ring v1 μ = some (r, μR)) : hm_CC (hm_LL ν) m_X10_ring fr 0 0 [.ref 179, .int v1] μ (some (.int r)) μR := by
  refine hm_enter (lv := [some (.ref 179), some (.int v1)]) (by decide) rfl (Nat.le_of_ble_eq_true rfl) ?_
  unfold f_X10_ring at h
  refine tr_aload_n (pc' := 1) (show decode cX10_ring 0 = .ok (.aload_n 0, 1) by decide +kernel) rfl rfl rfl ?_
  refine tr_iconst (pc' := 2) (v := (0 : Int32)) (show decode cX10_ring 1 = .ok (.iconst 0, 1) by decide +kernel) rfl (by decide) ?_
  obtain ⟨μ3, ex2, h⟩ := hm_bs h
  have cx2 := ok_X10_laysCosts (fr := fr - 1) (ν := ν) (by omega) (0 : Int32) μ hL ex2
  refine tp_callV (pc' := 5) (As := [.int (0 : Int32)]) (fr1 := fr - 1) (ci := 10) okm_X10_laysCosts lk_HandRingModel_420 (show decode cX10_ring 2 = .ok (.invokevirtual 420, 3) by decide +kernel) rfl rfl rfl (by decide) (la_o hL (by decide) rfl) rfl rfl (Nat.le_of_ble_eq_true rfl) (by omega) cx2 (st' := []) rfl ?_
  replace hL := cx2.1
  refine tr_aload_n (pc' := 6) (show decode cX10_ring 5 = .ok (.aload_n 0, 1) by decide +kernel) rfl rfl rfl ?_
  refine tr_iconst (pc' := 7) (v := (0 : Int32)) (show decode cX10_ring 6 = .ok (.iconst 0, 1) by decide +kernel) rfl (by decide) ?_
  obtain ⟨μ4, eμ4, h⟩ := hm_bs h
  refine tp_pZ (pc' := 10) fl_HandRingModel_407 (show decode cX10_ring 7 = .ok (.putfield 407, 3) by decide +kernel) rfl (la_o hL (by decide) rfl) eμ4 ?_
  replace hL := hL.same (hm_pZ_s eμ4)
  refine tr_aload_n (pc' := 11) (show decode cX10_ring 10 = .ok (.aload_n 0, 1) by decide +kernel) rfl rfl rfl ?_
  refine tr_iload_n (pc' := 12) (show decode cX10_ring 11 = .ok (.iload_n 1, 1) by decide +kernel) rfl rfl rfl ?_
  obtain ⟨x5, μ6, ex5, h⟩ := hm_b2s h
  have cx5 := ok_X10_bestRing (fr := fr - 1) (ν := ν) (by omega) v1 μ4 hL ex5
  refine tp_callV (pc' := 15) (As := [.int v1]) (fr1 := fr - 1) (ci := 10) okm_X10_bestRing lk_HandRingModel_424 (show decode cX10_ring 12 = .ok (.invokevirtual 424, 3) by decide +kernel) rfl rfl rfl (by decide) (la_o hL (by decide) rfl) rfl rfl (Nat.le_of_ble_eq_true rfl) (by omega) cx5 (st' := [.int x5]) rfl ?_
  replace hL := cx5.1
  cases h
  exact tr_iret rfl (show decode cX10_ring 15 = .ok (.ireturn, 1) by decide +kernel) hL
def f_X10_narrow (v1 : Int32) (μ : hm_M) : Option (Int32 × hm_M) :=
  Option.bind (f_X10_laysCosts (0 : Int32) μ) fun μ3 =>
  Option.bind (hm_pZ μ3 179 39 (1 : Int32)) fun μ4 =>
  hm_b2 (f_X10_bestRing v1 μ4) fun x5 μ6 =>
  some (x5, μ6)
set_option maxRecDepth 100000 in
theorem ok_X10_narrow {fr : Nat} (hfr : 91 ≤ fr) {ν : hm_N} {r : Int32} {μR : hm_M}  (v1 : Int32)  (μ : hm_M) (hL : hm_LL ν μ) (h : f_X10_narrow v1 μ = some (r, μR)) : hm_CC (hm_LL ν) m_X10_narrow fr 0 0 [.ref 179, .int v1] μ (some (.int r)) μR := by
  refine hm_enter (lv := [some (.ref 179), some (.int v1)]) (by decide) rfl (Nat.le_of_ble_eq_true rfl) ?_
  unfold f_X10_narrow at h
  refine tr_aload_n (pc' := 1) (show decode cX10_narrow 0 = .ok (.aload_n 0, 1) by decide +kernel) rfl rfl rfl ?_
  refine tr_iconst (pc' := 2) (v := (0 : Int32)) (show decode cX10_narrow 1 = .ok (.iconst 0, 1) by decide +kernel) rfl (by decide) ?_
  obtain ⟨μ3, ex2, h⟩ := hm_bs h
  have cx2 := ok_X10_laysCosts (fr := fr - 1) (ν := ν) (by omega) (0 : Int32) μ hL ex2
  refine tp_callV (pc' := 5) (As := [.int (0 : Int32)]) (fr1 := fr - 1) (ci := 10) okm_X10_laysCosts lk_HandRingModel_420 (show decode cX10_narrow 2 = .ok (.invokevirtual 420, 3) by decide +kernel) rfl rfl rfl (by decide) (la_o hL (by decide) rfl) rfl rfl (Nat.le_of_ble_eq_true rfl) (by omega) cx2 (st' := []) rfl ?_
  replace hL := cx2.1
  refine tr_aload_n (pc' := 6) (show decode cX10_narrow 5 = .ok (.aload_n 0, 1) by decide +kernel) rfl rfl rfl ?_
  refine tr_iconst (pc' := 7) (v := (1 : Int32)) (show decode cX10_narrow 6 = .ok (.iconst 1, 1) by decide +kernel) rfl (by decide) ?_
  obtain ⟨μ4, eμ4, h⟩ := hm_bs h
  refine tp_pZ (pc' := 10) fl_HandRingModel_407 (show decode cX10_narrow 7 = .ok (.putfield 407, 3) by decide +kernel) rfl (la_o hL (by decide) rfl) eμ4 ?_
  replace hL := hL.same (hm_pZ_s eμ4)
  refine tr_aload_n (pc' := 11) (show decode cX10_narrow 10 = .ok (.aload_n 0, 1) by decide +kernel) rfl rfl rfl ?_
  refine tr_iload_n (pc' := 12) (show decode cX10_narrow 11 = .ok (.iload_n 1, 1) by decide +kernel) rfl rfl rfl ?_
  obtain ⟨x5, μ6, ex5, h⟩ := hm_b2s h
  have cx5 := ok_X10_bestRing (fr := fr - 1) (ν := ν) (by omega) v1 μ4 hL ex5
  refine tp_callV (pc' := 15) (As := [.int v1]) (fr1 := fr - 1) (ci := 10) okm_X10_bestRing lk_HandRingModel_424 (show decode cX10_narrow 12 = .ok (.invokevirtual 424, 3) by decide +kernel) rfl rfl rfl (by decide) (la_o hL (by decide) rfl) rfl rfl (Nat.le_of_ble_eq_true rfl) (by omega) cx5 (st' := [.int x5]) rfl ?_
  replace hL := cx5.1
  cases h
  exact tr_iret rfl (show decode cX10_narrow 15 = .ok (.ireturn, 1) by decide +kernel) hL
def f_X10_gloves (v1 : Int32) (μ : hm_M) : Option (Int32 × hm_M) :=
  Option.bind (f_X10_laysCosts (1 : Int32) μ) fun μ3 =>
  Option.bind (hm_pZ μ3 179 39 (0 : Int32)) fun μ4 =>
  hm_b2 (f_X10_bestRing v1 μ4) fun x5 μ6 =>
  some (x5, μ6)
set_option maxRecDepth 100000 in
theorem ok_X10_gloves {fr : Nat} (hfr : 91 ≤ fr) {ν : hm_N} {r : Int32} {μR : hm_M}  (v1 : Int32)  (μ : hm_M) (hL : hm_LL ν μ) (h : f_X10_gloves v1 μ = some (r, μR)) : hm_CC (hm_LL ν) m_X10_gloves fr 0 0 [.ref 179, .int v1] μ (some (.int r)) μR := by
  refine hm_enter (lv := [some (.ref 179), some (.int v1)]) (by decide) rfl (Nat.le_of_ble_eq_true rfl) ?_
  unfold f_X10_gloves at h
  refine tr_aload_n (pc' := 1) (show decode cX10_gloves 0 = .ok (.aload_n 0, 1) by decide +kernel) rfl rfl rfl ?_
  refine tr_iconst (pc' := 2) (v := (1 : Int32)) (show decode cX10_gloves 1 = .ok (.iconst 1, 1) by decide +kernel) rfl (by decide) ?_
  obtain ⟨μ3, ex2, h⟩ := hm_bs h
  have cx2 := ok_X10_laysCosts (fr := fr - 1) (ν := ν) (by omega) (1 : Int32) μ hL ex2
  refine tp_callV (pc' := 5) (As := [.int (1 : Int32)]) (fr1 := fr - 1) (ci := 10) okm_X10_laysCosts lk_HandRingModel_420 (show decode cX10_gloves 2 = .ok (.invokevirtual 420, 3) by decide +kernel) rfl rfl rfl (by decide) (la_o hL (by decide) rfl) rfl rfl (Nat.le_of_ble_eq_true rfl) (by omega) cx2 (st' := []) rfl ?_
  replace hL := cx2.1
  refine tr_aload_n (pc' := 6) (show decode cX10_gloves 5 = .ok (.aload_n 0, 1) by decide +kernel) rfl rfl rfl ?_
  refine tr_iconst (pc' := 7) (v := (0 : Int32)) (show decode cX10_gloves 6 = .ok (.iconst 0, 1) by decide +kernel) rfl (by decide) ?_
  obtain ⟨μ4, eμ4, h⟩ := hm_bs h
  refine tp_pZ (pc' := 10) fl_HandRingModel_407 (show decode cX10_gloves 7 = .ok (.putfield 407, 3) by decide +kernel) rfl (la_o hL (by decide) rfl) eμ4 ?_
  replace hL := hL.same (hm_pZ_s eμ4)
  refine tr_aload_n (pc' := 11) (show decode cX10_gloves 10 = .ok (.aload_n 0, 1) by decide +kernel) rfl rfl rfl ?_
  refine tr_iload_n (pc' := 12) (show decode cX10_gloves 11 = .ok (.iload_n 1, 1) by decide +kernel) rfl rfl rfl ?_
  obtain ⟨x5, μ6, ex5, h⟩ := hm_b2s h
  have cx5 := ok_X10_bestRing (fr := fr - 1) (ν := ν) (by omega) v1 μ4 hL ex5
  refine tp_callV (pc' := 15) (As := [.int v1]) (fr1 := fr - 1) (ci := 10) okm_X10_bestRing lk_HandRingModel_424 (show decode cX10_gloves 12 = .ok (.invokevirtual 424, 3) by decide +kernel) rfl rfl rfl (by decide) (la_o hL (by decide) rfl) rfl rfl (Nat.le_of_ble_eq_true rfl) (by omega) cx5 (st' := [.int x5]) rfl ?_
  replace hL := cx5.1
  cases h
  exact tr_iret rfl (show decode cX10_gloves 15 = .ok (.ireturn, 1) by decide +kernel) hL
def f_X10_compare (v1 : Int32) (μ : hm_M) : Option (Int32 × hm_M) :=
  Option.bind (f_X10_isLaw v1 μ) fun x2 =>
  (if x2 = 0 then
  some ((-1 : Int32), μ)
  else
  Option.bind (hm_ld μ 181 5665 (57 : Int32)) fun x3 =>
  Option.bind (hm_sd μ 181 5665 (57 : Int32) v1) fun μ4 =>
  hm_b2 (f_X10_ring (0 : Int32) μ4) fun x5 μ6 =>
  Option.bind (hm_sd μ6 181 5665 (57 : Int32) x3) fun μ7 =>
  some (x5, μ7))
set_option maxRecDepth 100000 in
theorem ok_X10_compare {fr : Nat} (hfr : 92 ≤ fr) {ν : hm_N} {r : Int32} {μR : hm_M}  (v1 : Int32)  (μ : hm_M) (hL : hm_LL ν μ) (h : f_X10_compare v1 μ = some (r, μR)) : hm_CC (hm_LL ν) m_X10_compare fr 0 0 [.ref 179, .int v1] μ (some (.int r)) μR := by
  refine hm_enter (lv := [some (.ref 179), some (.int v1), none, none]) (by decide) rfl (Nat.le_of_ble_eq_true rfl) ?_
  unfold f_X10_compare at h
  refine tr_aload_n (pc' := 1) (show decode cX10_compare 0 = .ok (.aload_n 0, 1) by decide +kernel) rfl rfl rfl ?_
  refine tr_iload_n (pc' := 2) (show decode cX10_compare 1 = .ok (.iload_n 1, 1) by decide +kernel) rfl rfl rfl ?_
  obtain ⟨x2, ex2, h⟩ := hm_bs h
  have cx2 := ok_X10_isLaw (fr := fr - 1) (ν := ν) (by omega) v1 μ hL ex2
  refine tp_callV (pc' := 5) (As := [.int v1]) (fr1 := fr - 1) (ci := 10) okm_X10_isLaw lk_HandRingModel_268 (show decode cX10_compare 2 = .ok (.invokevirtual 268, 3) by decide +kernel) rfl rfl rfl (by decide) (la_o hL (by decide) rfl) rfl rfl (Nat.le_of_ble_eq_true rfl) (by omega) cx2 (st' := [.int x2]) rfl ?_
  rcases hm_is h with ⟨hc, h⟩ | ⟨hc, h⟩
  · refine tr_if_ne_f (tgt := 10) (pc' := 8) hc (show decode cX10_compare 5 = .ok (.ifCond .ne 5, 3) by decide +kernel) (by decide) rfl ?_
    refine tr_iconst (pc' := 9) (v := (-1 : Int32)) (show decode cX10_compare 8 = .ok (.iconst (-1), 1) by decide +kernel) rfl (by decide) ?_
    cases h
    exact tr_iret rfl (show decode cX10_compare 9 = .ok (.ireturn, 1) by decide +kernel) hL
  · refine tr_if_ne_t (tgt := 10) hc (show decode cX10_compare 5 = .ok (.ifCond .ne 5, 3) by decide +kernel) (by decide) ?_
    refine tr_aload_n (pc' := 11) (show decode cX10_compare 10 = .ok (.aload_n 0, 1) by decide +kernel) rfl rfl rfl ?_
    refine tr_getR (pc' := 14) fl_HandRingModel_24 (show decode cX10_compare 11 = .ok (.getfield 24, 3) by decide +kernel) rfl (la_o hL (by decide) rfl) (la_r hL 118 rfl) ?_
    refine tr_bipush (pc' := 16) (v := (57 : Int32)) (show decode cX10_compare 14 = .ok (.bipush 57, 2) by decide +kernel) rfl (by decide) ?_
    obtain ⟨x3, ex3, h⟩ := hm_bs h
    refine tp_ldI (pc' := 17) (show decode cX10_compare 16 = .ok (.iaload, 1) by decide +kernel) rfl (la_a hL (by decide) rfl) ex3 ?_
    refine tr_istore_n (pc' := 18) (lv' := [some (.ref 179), some (.int v1), some (.int x3), none]) (show decode cX10_compare 17 = .ok (.istore_n 2, 1) by decide +kernel) rfl rfl (Nat.le_of_ble_eq_true rfl) rfl rfl ?_
    refine tr_aload_n (pc' := 19) (show decode cX10_compare 18 = .ok (.aload_n 0, 1) by decide +kernel) rfl rfl rfl ?_
    refine tr_getR (pc' := 22) fl_HandRingModel_24 (show decode cX10_compare 19 = .ok (.getfield 24, 3) by decide +kernel) rfl (la_o hL (by decide) rfl) (la_r hL 118 rfl) ?_
    refine tr_bipush (pc' := 24) (v := (57 : Int32)) (show decode cX10_compare 22 = .ok (.bipush 57, 2) by decide +kernel) rfl (by decide) ?_
    refine tr_iload_n (pc' := 25) (show decode cX10_compare 24 = .ok (.iload_n 1, 1) by decide +kernel) rfl rfl rfl ?_
    obtain ⟨μ4, eμ4, h⟩ := hm_bs h
    refine tp_sdI (pc' := 26) (show decode cX10_compare 25 = .ok (.iastore, 1) by decide +kernel) rfl (la_a hL (by decide) rfl) eμ4 ?_
    replace hL := hL.same (hm_sd_s eμ4)
    refine tr_aload_n (pc' := 27) (show decode cX10_compare 26 = .ok (.aload_n 0, 1) by decide +kernel) rfl rfl rfl ?_
    refine tr_iconst (pc' := 28) (v := (0 : Int32)) (show decode cX10_compare 27 = .ok (.iconst 0, 1) by decide +kernel) rfl (by decide) ?_
    obtain ⟨x5, μ6, ex5, h⟩ := hm_b2s h
    have cx5 := ok_X10_ring (fr := fr - 1) (ν := ν) (by omega) (0 : Int32) μ4 hL ex5
    refine tp_callV (pc' := 31) (As := [.int (0 : Int32)]) (fr1 := fr - 1) (ci := 10) okm_X10_ring lk_HandRingModel_427 (show decode cX10_compare 28 = .ok (.invokevirtual 427, 3) by decide +kernel) rfl rfl rfl (by decide) (la_o hL (by decide) rfl) rfl rfl (Nat.le_of_ble_eq_true rfl) (by omega) cx5 (st' := [.int x5]) rfl ?_
    replace hL := cx5.1
    refine tr_istore_n (pc' := 32) (lv' := [some (.ref 179), some (.int v1), some (.int x3), some (.int x5)]) (show decode cX10_compare 31 = .ok (.istore_n 3, 1) by decide +kernel) rfl rfl (Nat.le_of_ble_eq_true rfl) rfl rfl ?_
    refine tr_aload_n (pc' := 33) (show decode cX10_compare 32 = .ok (.aload_n 0, 1) by decide +kernel) rfl rfl rfl ?_
    refine tr_getR (pc' := 36) fl_HandRingModel_24 (show decode cX10_compare 33 = .ok (.getfield 24, 3) by decide +kernel) rfl (la_o hL (by decide) rfl) (la_r hL 118 rfl) ?_
    refine tr_bipush (pc' := 38) (v := (57 : Int32)) (show decode cX10_compare 36 = .ok (.bipush 57, 2) by decide +kernel) rfl (by decide) ?_
    refine tr_iload_n (pc' := 39) (show decode cX10_compare 38 = .ok (.iload_n 2, 1) by decide +kernel) rfl rfl rfl ?_
    obtain ⟨μ7, eμ7, h⟩ := hm_bs h
    refine tp_sdI (pc' := 40) (show decode cX10_compare 39 = .ok (.iastore, 1) by decide +kernel) rfl (la_a hL (by decide) rfl) eμ7 ?_
    replace hL := hL.same (hm_sd_s eμ7)
    refine tr_iload_n (pc' := 41) (show decode cX10_compare 40 = .ok (.iload_n 3, 1) by decide +kernel) rfl rfl rfl ?_
    cases h
    exact tr_iret rfl (show decode cX10_compare 41 = .ok (.ireturn, 1) by decide +kernel) hL
def f_X10_areNext_J72 (v1 : Int32) (v2 : Int32) (c5 : Int32 → Int32 → hm_M → Option Int32) (e79 : Int32 → hm_M → Option Int32) (s0 : Int32) (y4 : Int32) (μ1 : hm_M) : Option Int32 :=
  c5 s0 (y4 + (1 : Int32)) μ1
theorem ok_X10_areNext_J72 {fr : Nat} (hfr : 1 ≤ fr) {ν : hm_N} {r : Int32}  (v1 : Int32) (v2 : Int32) (c5 : Int32 → Int32 → hm_M → Option Int32) (e79 : Int32 → hm_M → Option Int32) (hc5 : ∀ (y3 : Int32) (y4 : Int32)  (μ1 : hm_M), hm_LL ν μ1 → c5 y3 y4 μ1 = some r → hm_T (hm_LL ν) m_X10_areNext fr 0 0 (some (.int r)) μ1 5 [some (.ref 179), some (.int v1), some (.int v2), some (.int y3), some (.int y4), none, none] [] μ1) (he79 : ∀ (y3 : Int32)  (μ1 : hm_M), hm_LL ν μ1 → e79 y3 μ1 = some r → hm_T (hm_LL ν) m_X10_areNext fr 0 0 (some (.int r)) μ1 79 [none, none, none, some (.int y3), none, none, none] [] μ1)  (s0 : Int32) (y4 : Int32) (μ1 : hm_M) (hL : hm_LL ν μ1) (h : f_X10_areNext_J72 v1 v2 c5 e79 s0 y4 μ1 = some r) : hm_T (hm_LL ν) m_X10_areNext fr 0 0 (some (.int r)) μ1 72 [some (.ref 179), some (.int v1), some (.int v2), none, some (.int y4), none, none] [.int s0] μ1 := by
  unfold f_X10_areNext_J72 at h
  refine tr_istore_n (pc' := 73) (lv' := [some (.ref 179), some (.int v1), some (.int v2), some (.int s0), some (.int y4), none, none]) (show decode cX10_areNext 72 = .ok (.istore_n 3, 1) by decide +kernel) rfl rfl (Nat.le_of_ble_eq_true rfl) rfl rfl ?_
  refine tr_iinc (pc' := 76) (v := y4 + (1 : Int32)) (lv' := [some (.ref 179), some (.int v1), some (.int v2), some (.int s0), some (.int (y4 + (1 : Int32))), none, none]) (show decode cX10_areNext 73 = .ok (.iinc 4 1, 3) by decide +kernel) rfl rfl rfl (Nat.le_of_ble_eq_true rfl) rfl rfl ?_
  refine tr_goto (tgt := 5) (show decode cX10_areNext 76 = .ok (.goto (-71), 3) by decide +kernel) rfl ?_
  exact hc5 s0 (y4 + (1 : Int32)) μ1 hL h
def f_X10_areNext_J67 (v1 : Int32) (v2 : Int32) (c5 : Int32 → Int32 → hm_M → Option Int32) (e79 : Int32 → hm_M → Option Int32) (y4 : Int32) (μ1 : hm_M) : Option Int32 :=
  f_X10_areNext_J72 v1 v2 c5 e79 (1 : Int32) y4 μ1
theorem ok_X10_areNext_J67 {fr : Nat} (hfr : 1 ≤ fr) {ν : hm_N} {r : Int32}  (v1 : Int32) (v2 : Int32) (c5 : Int32 → Int32 → hm_M → Option Int32) (e79 : Int32 → hm_M → Option Int32) (hc5 : ∀ (y3 : Int32) (y4 : Int32)  (μ1 : hm_M), hm_LL ν μ1 → c5 y3 y4 μ1 = some r → hm_T (hm_LL ν) m_X10_areNext fr 0 0 (some (.int r)) μ1 5 [some (.ref 179), some (.int v1), some (.int v2), some (.int y3), some (.int y4), none, none] [] μ1) (he79 : ∀ (y3 : Int32)  (μ1 : hm_M), hm_LL ν μ1 → e79 y3 μ1 = some r → hm_T (hm_LL ν) m_X10_areNext fr 0 0 (some (.int r)) μ1 79 [none, none, none, some (.int y3), none, none, none] [] μ1)  (y4 : Int32) (μ1 : hm_M) (hL : hm_LL ν μ1) (h : f_X10_areNext_J67 v1 v2 c5 e79 y4 μ1 = some r) : hm_T (hm_LL ν) m_X10_areNext fr 0 0 (some (.int r)) μ1 67 [some (.ref 179), some (.int v1), some (.int v2), none, some (.int y4), none, none] [] μ1 := by
  unfold f_X10_areNext_J67 at h
  refine tr_iconst (pc' := 68) (v := (1 : Int32)) (show decode cX10_areNext 67 = .ok (.iconst 1, 1) by decide +kernel) rfl (by decide) ?_
  refine tr_goto (tgt := 72) (show decode cX10_areNext 68 = .ok (.goto 4, 3) by decide +kernel) rfl ?_
  exact ok_X10_areNext_J72 hfr _ _ c5 e79 hc5 he79 (1 : Int32) y4 μ1 hL h
def f_X10_areNext_J71 (v1 : Int32) (v2 : Int32) (c5 : Int32 → Int32 → hm_M → Option Int32) (e79 : Int32 → hm_M → Option Int32) (y4 : Int32) (μ1 : hm_M) : Option Int32 :=
  f_X10_areNext_J72 v1 v2 c5 e79 (0 : Int32) y4 μ1
theorem ok_X10_areNext_J71 {fr : Nat} (hfr : 1 ≤ fr) {ν : hm_N} {r : Int32}  (v1 : Int32) (v2 : Int32) (c5 : Int32 → Int32 → hm_M → Option Int32) (e79 : Int32 → hm_M → Option Int32) (hc5 : ∀ (y3 : Int32) (y4 : Int32)  (μ1 : hm_M), hm_LL ν μ1 → c5 y3 y4 μ1 = some r → hm_T (hm_LL ν) m_X10_areNext fr 0 0 (some (.int r)) μ1 5 [some (.ref 179), some (.int v1), some (.int v2), some (.int y3), some (.int y4), none, none] [] μ1) (he79 : ∀ (y3 : Int32)  (μ1 : hm_M), hm_LL ν μ1 → e79 y3 μ1 = some r → hm_T (hm_LL ν) m_X10_areNext fr 0 0 (some (.int r)) μ1 79 [none, none, none, some (.int y3), none, none, none] [] μ1)  (y4 : Int32) (μ1 : hm_M) (hL : hm_LL ν μ1) (h : f_X10_areNext_J71 v1 v2 c5 e79 y4 μ1 = some r) : hm_T (hm_LL ν) m_X10_areNext fr 0 0 (some (.int r)) μ1 71 [some (.ref 179), some (.int v1), some (.int v2), none, some (.int y4), none, none] [] μ1 := by
  unfold f_X10_areNext_J71 at h
  refine tr_iconst (pc' := 72) (v := (0 : Int32)) (show decode cX10_areNext 71 = .ok (.iconst 0, 1) by decide +kernel) rfl (by decide) ?_
  exact ok_X10_areNext_J72 hfr _ _ c5 e79 hc5 he79 (0 : Int32) y4 μ1 hL h
def f_X10_areNext_J55 (v1 : Int32) (v2 : Int32) (c5 : Int32 → Int32 → hm_M → Option Int32) (e79 : Int32 → hm_M → Option Int32) (y4 : Int32) (y5 : Int32) (y6 : Int32) (μ1 : hm_M) : Option Int32 :=
  (if y5 = v2 then
  (if y6 = v1 then
  f_X10_areNext_J67 v1 v2 c5 e79 y4 μ1
  else
  f_X10_areNext_J71 v1 v2 c5 e79 y4 μ1)
  else
  f_X10_areNext_J71 v1 v2 c5 e79 y4 μ1)
theorem ok_X10_areNext_J55 {fr : Nat} (hfr : 1 ≤ fr) {ν : hm_N} {r : Int32}  (v1 : Int32) (v2 : Int32) (c5 : Int32 → Int32 → hm_M → Option Int32) (e79 : Int32 → hm_M → Option Int32) (hc5 : ∀ (y3 : Int32) (y4 : Int32)  (μ1 : hm_M), hm_LL ν μ1 → c5 y3 y4 μ1 = some r → hm_T (hm_LL ν) m_X10_areNext fr 0 0 (some (.int r)) μ1 5 [some (.ref 179), some (.int v1), some (.int v2), some (.int y3), some (.int y4), none, none] [] μ1) (he79 : ∀ (y3 : Int32)  (μ1 : hm_M), hm_LL ν μ1 → e79 y3 μ1 = some r → hm_T (hm_LL ν) m_X10_areNext fr 0 0 (some (.int r)) μ1 79 [none, none, none, some (.int y3), none, none, none] [] μ1)  (y4 : Int32) (y5 : Int32) (y6 : Int32) (μ1 : hm_M) (hL : hm_LL ν μ1) (h : f_X10_areNext_J55 v1 v2 c5 e79 y4 y5 y6 μ1 = some r) : hm_T (hm_LL ν) m_X10_areNext fr 0 0 (some (.int r)) μ1 55 [some (.ref 179), some (.int v1), some (.int v2), none, some (.int y4), some (.int y5), some (.int y6)] [] μ1 := by
  unfold f_X10_areNext_J55 at h
  refine tr_iload (pc' := 57) (show decode cX10_areNext 55 = .ok (.iload 5, 2) by decide +kernel) rfl rfl ?_
  refine tr_iload_n (pc' := 58) (show decode cX10_areNext 57 = .ok (.iload_n 2, 1) by decide +kernel) rfl rfl rfl ?_
  rcases hm_is h with ⟨hc, h⟩ | ⟨hc, h⟩
  · refine tr_icmp_ne_f (tgt := 71) (pc' := 61) hc (show decode cX10_areNext 58 = .ok (.if_icmp .ne 13, 3) by decide +kernel) (by decide) rfl ?_
    refine tr_iload (pc' := 63) (show decode cX10_areNext 61 = .ok (.iload 6, 2) by decide +kernel) rfl rfl ?_
    refine tr_iload_n (pc' := 64) (show decode cX10_areNext 63 = .ok (.iload_n 1, 1) by decide +kernel) rfl rfl rfl ?_
    rcases hm_is h with ⟨hc, h⟩ | ⟨hc, h⟩
    · refine tr_icmp_ne_f (tgt := 71) (pc' := 67) hc (show decode cX10_areNext 64 = .ok (.if_icmp .ne 7, 3) by decide +kernel) (by decide) rfl ?_
      refine hm_fgt [true, true, true, false, true, false, false] (lv' := [some (.ref 179), some (.int v1), some (.int v2), none, some (.int y4), none, none]) rfl ?_
      exact ok_X10_areNext_J67 hfr _ _ c5 e79 hc5 he79 y4 μ1 hL h
    · refine tr_icmp_ne_t (tgt := 71) hc (show decode cX10_areNext 64 = .ok (.if_icmp .ne 7, 3) by decide +kernel) (by decide) ?_
      refine hm_fgt [true, true, true, false, true, false, false] (lv' := [some (.ref 179), some (.int v1), some (.int v2), none, some (.int y4), none, none]) rfl ?_
      exact ok_X10_areNext_J71 hfr _ _ c5 e79 hc5 he79 y4 μ1 hL h
  · refine tr_icmp_ne_t (tgt := 71) hc (show decode cX10_areNext 58 = .ok (.if_icmp .ne 13, 3) by decide +kernel) (by decide) ?_
    refine hm_fgt [true, true, true, false, true, false, false] (lv' := [some (.ref 179), some (.int v1), some (.int v2), none, some (.int y4), none, none]) rfl ?_
    exact ok_X10_areNext_J71 hfr _ _ c5 e79 hc5 he79 y4 μ1 hL h
def f_X10_areNext_L5 (v1 : Int32) (v2 : Int32) (e79 : Int32 → hm_M → Option Int32) : Nat → Int32 → Int32 → hm_M → Option Int32
  | 0, _, _, _ => none
  | n + 1, y3, y4, μ1 => Option.bind (f_X10_many μ1) fun x2 =>
  (if x2 ≤ y4 then
  e79 y3 μ1
  else
  Option.bind (hm_ld μ1 197 8 y4) fun x3 =>
  Option.bind (f_X10_many μ1) fun x4 =>
  Option.bind (hm_rm2 (y4 + (1 : Int32)) x4) fun x5 =>
  Option.bind (hm_ld μ1 197 8 x5) fun x6 =>
  (if y3 = 0 then
  (if x3 = v1 then
  (if x6 = v2 then
  f_X10_areNext_J67 v1 v2 (f_X10_areNext_L5 v1 v2 e79 n) e79 y4 μ1
  else
  f_X10_areNext_J55 v1 v2 (f_X10_areNext_L5 v1 v2 e79 n) e79 y4 x3 x6 μ1)
  else
  f_X10_areNext_J55 v1 v2 (f_X10_areNext_L5 v1 v2 e79 n) e79 y4 x3 x6 μ1)
  else
  f_X10_areNext_J67 v1 v2 (f_X10_areNext_L5 v1 v2 e79 n) e79 y4 μ1))
theorem ok_X10_areNext_L5 {fr : Nat} (hfr : 1 ≤ fr) {ν : hm_N} {r : Int32}  (v1 : Int32) (v2 : Int32) (e79 : Int32 → hm_M → Option Int32)  (he79 : ∀ (y3 : Int32)  (μ1 : hm_M), hm_LL ν μ1 → e79 y3 μ1 = some r → hm_T (hm_LL ν) m_X10_areNext fr 0 0 (some (.int r)) μ1 79 [none, none, none, some (.int y3), none, none, none] [] μ1)  : ∀ (n : Nat) (y3 : Int32) (y4 : Int32)  (μ1 : hm_M), hm_LL ν μ1 → f_X10_areNext_L5 v1 v2 e79 n y3 y4 μ1 = some r → hm_T (hm_LL ν) m_X10_areNext fr 0 0 (some (.int r)) μ1 5 [some (.ref 179), some (.int v1), some (.int v2), some (.int y3), some (.int y4), none, none] [] μ1 := by
  intro n
  induction n with
  | zero =>
    intro y3 y4 μ1 hL h
    unfold f_X10_areNext_L5 at h
    cases h
  | succ n ih =>
    intro y3 y4 μ1 hL h
    unfold f_X10_areNext_L5 at h
    refine tr_iload (pc' := 7) (show decode cX10_areNext 5 = .ok (.iload 4, 2) by decide +kernel) rfl rfl ?_
    refine tr_aload_n (pc' := 8) (show decode cX10_areNext 7 = .ok (.aload_n 0, 1) by decide +kernel) rfl rfl rfl ?_
    obtain ⟨x2, ex2, h⟩ := hm_bs h
    have cx2 := ok_X10_many (fr := fr - 1) (ν := ν) (by omega) μ1 hL ex2
    refine tp_callV (pc' := 11) (As := []) (fr1 := fr - 1) (ci := 10) okm_X10_many lk_HandRingModel_118 (show decode cX10_areNext 8 = .ok (.invokevirtual 118, 3) by decide +kernel) rfl rfl rfl (by decide) (la_o hL (by decide) rfl) rfl rfl (Nat.le_of_ble_eq_true rfl) (by omega) cx2 (st' := [.int x2, .int y4]) rfl ?_
    rcases hm_is h with ⟨hc, h⟩ | ⟨hc, h⟩
    · refine tr_icmp_ge_t (tgt := 79) hc (show decode cX10_areNext 11 = .ok (.if_icmp .ge 68, 3) by decide +kernel) (by decide) ?_
      refine hm_fgt [false, false, false, true, false, false, false] (lv' := [none, none, none, some (.int y3), none, none, none]) rfl ?_
      exact he79 y3 μ1 hL h
    · refine tr_icmp_ge_f (tgt := 79) (pc' := 14) hc (show decode cX10_areNext 11 = .ok (.if_icmp .ge 68, 3) by decide +kernel) (by decide) rfl ?_
      refine tr_aload_n (pc' := 15) (show decode cX10_areNext 14 = .ok (.aload_n 0, 1) by decide +kernel) rfl rfl rfl ?_
      refine tr_getR (pc' := 18) fl_HandRingModel_77 (show decode cX10_areNext 15 = .ok (.getfield 77, 3) by decide +kernel) rfl (la_o hL (by decide) rfl) (la_r hL 134 rfl) ?_
      refine tr_iload (pc' := 20) (show decode cX10_areNext 18 = .ok (.iload 4, 2) by decide +kernel) rfl rfl ?_
      obtain ⟨x3, ex3, h⟩ := hm_bs h
      refine tp_ldI (pc' := 21) (show decode cX10_areNext 20 = .ok (.iaload, 1) by decide +kernel) rfl (la_a hL (by decide) rfl) ex3 ?_
      refine tr_istore (pc' := 23) (lv' := [some (.ref 179), some (.int v1), some (.int v2), some (.int y3), some (.int y4), some (.int x3), none]) (show decode cX10_areNext 21 = .ok (.istore 5, 2) by decide +kernel) rfl (Nat.le_of_ble_eq_true rfl) rfl rfl ?_
      refine tr_aload_n (pc' := 24) (show decode cX10_areNext 23 = .ok (.aload_n 0, 1) by decide +kernel) rfl rfl rfl ?_
      refine tr_getR (pc' := 27) fl_HandRingModel_77 (show decode cX10_areNext 24 = .ok (.getfield 77, 3) by decide +kernel) rfl (la_o hL (by decide) rfl) (la_r hL 134 rfl) ?_
      refine tr_iload (pc' := 29) (show decode cX10_areNext 27 = .ok (.iload 4, 2) by decide +kernel) rfl rfl ?_
      refine tr_iconst (pc' := 30) (v := (1 : Int32)) (show decode cX10_areNext 29 = .ok (.iconst 1, 1) by decide +kernel) rfl (by decide) ?_
      refine tr_iadd (pc' := 31) (show decode cX10_areNext 30 = .ok (.iadd, 1) by decide +kernel) rfl ?_
      refine tr_aload_n (pc' := 32) (show decode cX10_areNext 31 = .ok (.aload_n 0, 1) by decide +kernel) rfl rfl rfl ?_
      obtain ⟨x4, ex4, h⟩ := hm_bs h
      have cx4 := ok_X10_many (fr := fr - 1) (ν := ν) (by omega) μ1 hL ex4
      refine tp_callV (pc' := 35) (As := []) (fr1 := fr - 1) (ci := 10) okm_X10_many lk_HandRingModel_118 (show decode cX10_areNext 32 = .ok (.invokevirtual 118, 3) by decide +kernel) rfl rfl rfl (by decide) (la_o hL (by decide) rfl) rfl rfl (Nat.le_of_ble_eq_true rfl) (by omega) cx4 (st' := [.int x4, .int (y4 + (1 : Int32)), .ref 197]) rfl ?_
      obtain ⟨x5, ex5, h⟩ := hm_bs h
      refine tp_rm (pc' := 36) (show decode cX10_areNext 35 = .ok (.irem, 1) by decide +kernel) rfl ex5 ?_
      obtain ⟨x6, ex6, h⟩ := hm_bs h
      refine tp_ldI (pc' := 37) (show decode cX10_areNext 36 = .ok (.iaload, 1) by decide +kernel) rfl (la_a hL (by decide) rfl) ex6 ?_
      refine tr_istore (pc' := 39) (lv' := [some (.ref 179), some (.int v1), some (.int v2), some (.int y3), some (.int y4), some (.int x3), some (.int x6)]) (show decode cX10_areNext 37 = .ok (.istore 6, 2) by decide +kernel) rfl (Nat.le_of_ble_eq_true rfl) rfl rfl ?_
      refine tr_iload_n (pc' := 40) (show decode cX10_areNext 39 = .ok (.iload_n 3, 1) by decide +kernel) rfl rfl rfl ?_
      rcases hm_is h with ⟨hc, h⟩ | ⟨hc, h⟩
      · refine tr_if_ne_f (tgt := 67) (pc' := 43) hc (show decode cX10_areNext 40 = .ok (.ifCond .ne 27, 3) by decide +kernel) (by decide) rfl ?_
        refine tr_iload (pc' := 45) (show decode cX10_areNext 43 = .ok (.iload 5, 2) by decide +kernel) rfl rfl ?_
        refine tr_iload_n (pc' := 46) (show decode cX10_areNext 45 = .ok (.iload_n 1, 1) by decide +kernel) rfl rfl rfl ?_
        rcases hm_is h with ⟨hc, h⟩ | ⟨hc, h⟩
        · refine tr_icmp_ne_f (tgt := 55) (pc' := 49) hc (show decode cX10_areNext 46 = .ok (.if_icmp .ne 9, 3) by decide +kernel) (by decide) rfl ?_
          refine tr_iload (pc' := 51) (show decode cX10_areNext 49 = .ok (.iload 6, 2) by decide +kernel) rfl rfl ?_
          refine tr_iload_n (pc' := 52) (show decode cX10_areNext 51 = .ok (.iload_n 2, 1) by decide +kernel) rfl rfl rfl ?_
          rcases hm_is h with ⟨hc, h⟩ | ⟨hc, h⟩
          · refine tr_icmp_eq_t (tgt := 67) hc (show decode cX10_areNext 52 = .ok (.if_icmp .eq 15, 3) by decide +kernel) (by decide) ?_
            refine hm_fgt [true, true, true, false, true, false, false] (lv' := [some (.ref 179), some (.int v1), some (.int v2), none, some (.int y4), none, none]) rfl ?_
            exact ok_X10_areNext_J67 hfr _ _ (f_X10_areNext_L5 v1 v2 e79 n) e79 ih he79 y4 μ1 hL h
          · refine tr_icmp_eq_f (tgt := 67) (pc' := 55) hc (show decode cX10_areNext 52 = .ok (.if_icmp .eq 15, 3) by decide +kernel) (by decide) rfl ?_
            refine hm_fgt [true, true, true, false, true, true, true] (lv' := [some (.ref 179), some (.int v1), some (.int v2), none, some (.int y4), some (.int x3), some (.int x6)]) rfl ?_
            exact ok_X10_areNext_J55 hfr _ _ (f_X10_areNext_L5 v1 v2 e79 n) e79 ih he79 y4 x3 x6 μ1 hL h
        · refine tr_icmp_ne_t (tgt := 55) hc (show decode cX10_areNext 46 = .ok (.if_icmp .ne 9, 3) by decide +kernel) (by decide) ?_
          refine hm_fgt [true, true, true, false, true, true, true] (lv' := [some (.ref 179), some (.int v1), some (.int v2), none, some (.int y4), some (.int x3), some (.int x6)]) rfl ?_
          exact ok_X10_areNext_J55 hfr _ _ (f_X10_areNext_L5 v1 v2 e79 n) e79 ih he79 y4 x3 x6 μ1 hL h
      · refine tr_if_ne_t (tgt := 67) hc (show decode cX10_areNext 40 = .ok (.ifCond .ne 27, 3) by decide +kernel) (by decide) ?_
        refine hm_fgt [true, true, true, false, true, false, false] (lv' := [some (.ref 179), some (.int v1), some (.int v2), none, some (.int y4), none, none]) rfl ?_
        exact ok_X10_areNext_J67 hfr _ _ (f_X10_areNext_L5 v1 v2 e79 n) e79 ih he79 y4 μ1 hL h
def f_X10_areNext (v1 : Int32) (v2 : Int32) (μ : hm_M) : Option Int32 :=
  f_X10_areNext_L5 v1 v2 (fun z7_3 μz7 => hm_rz z7_3) hm_fu (0 : Int32) (0 : Int32) μ
set_option maxRecDepth 100000 in
theorem ok_X10_areNext {fr : Nat} (hfr : 1 ≤ fr) {ν : hm_N} {r : Int32}  (v1 : Int32) (v2 : Int32)  (μ : hm_M) (hL : hm_LL ν μ) (h : f_X10_areNext v1 v2 μ = some r) : hm_CC (hm_LL ν) m_X10_areNext fr 0 0 [.ref 179, .int v1, .int v2] μ (some (.int r)) μ := by
  refine hm_enter (lv := [some (.ref 179), some (.int v1), some (.int v2), none, none, none, none]) (by decide) rfl (Nat.le_of_ble_eq_true rfl) ?_
  unfold f_X10_areNext at h
  refine tr_iconst (pc' := 1) (v := (0 : Int32)) (show decode cX10_areNext 0 = .ok (.iconst 0, 1) by decide +kernel) rfl (by decide) ?_
  refine tr_istore_n (pc' := 2) (lv' := [some (.ref 179), some (.int v1), some (.int v2), some (.int (0 : Int32)), none, none, none]) (show decode cX10_areNext 1 = .ok (.istore_n 3, 1) by decide +kernel) rfl rfl (Nat.le_of_ble_eq_true rfl) rfl rfl ?_
  refine tr_iconst (pc' := 3) (v := (0 : Int32)) (show decode cX10_areNext 2 = .ok (.iconst 0, 1) by decide +kernel) rfl (by decide) ?_
  refine tr_istore (pc' := 5) (lv' := [some (.ref 179), some (.int v1), some (.int v2), some (.int (0 : Int32)), some (.int (0 : Int32)), none, none]) (show decode cX10_areNext 3 = .ok (.istore 4, 2) by decide +kernel) rfl (Nat.le_of_ble_eq_true rfl) rfl rfl ?_
  refine ok_X10_areNext_L5 hfr _ _ _ ?_ _ (0 : Int32) (0 : Int32) μ hL h
  · intro z7_3 μz7 hL h
    refine tr_iload_n (pc' := 80) (show decode cX10_areNext 79 = .ok (.iload_n 3, 1) by decide +kernel) rfl rfl rfl ?_
    exact tp_zret rfl (show decode cX10_areNext 80 = .ok (.ireturn, 1) by decide +kernel) h hL
def f_X10_isSo_J77 (c4 : Int32 → Int32 → hm_M → Option Int32) (e84 : Int32 → hm_M → Option Int32) (s0 : Int32) (y2 : Int32) (μ1 : hm_M) : Option Int32 :=
  c4 s0 (y2 + (1 : Int32)) μ1
theorem ok_X10_isSo_J77 {fr : Nat} (hfr : 2 ≤ fr) {ν : hm_N} {r : Int32}   (c4 : Int32 → Int32 → hm_M → Option Int32) (e84 : Int32 → hm_M → Option Int32) (hc4 : ∀ (y1 : Int32) (y2 : Int32)  (μ1 : hm_M), hm_LL ν μ1 → c4 y1 y2 μ1 = some r → hm_T (hm_LL ν) m_X10_isSo fr 0 0 (some (.int r)) μ1 4 [some (.ref 179), some (.int y1), some (.int y2)] [] μ1) (he84 : ∀ (y1 : Int32)  (μ1 : hm_M), hm_LL ν μ1 → e84 y1 μ1 = some r → hm_T (hm_LL ν) m_X10_isSo fr 0 0 (some (.int r)) μ1 84 [none, some (.int y1), none] [] μ1)  (s0 : Int32) (y2 : Int32) (μ1 : hm_M) (hL : hm_LL ν μ1) (h : f_X10_isSo_J77 c4 e84 s0 y2 μ1 = some r) : hm_T (hm_LL ν) m_X10_isSo fr 0 0 (some (.int r)) μ1 77 [some (.ref 179), none, some (.int y2)] [.int s0] μ1 := by
  unfold f_X10_isSo_J77 at h
  refine tr_istore_n (pc' := 78) (lv' := [some (.ref 179), some (.int s0), some (.int y2)]) (show decode cX10_isSo 77 = .ok (.istore_n 1, 1) by decide +kernel) rfl rfl (Nat.le_of_ble_eq_true rfl) rfl rfl ?_
  refine tr_iinc (pc' := 81) (v := y2 + (1 : Int32)) (lv' := [some (.ref 179), some (.int s0), some (.int (y2 + (1 : Int32)))]) (show decode cX10_isSo 78 = .ok (.iinc 2 1, 3) by decide +kernel) rfl rfl rfl (Nat.le_of_ble_eq_true rfl) rfl rfl ?_
  refine tr_goto (tgt := 4) (show decode cX10_isSo 81 = .ok (.goto (-77), 3) by decide +kernel) rfl ?_
  exact hc4 s0 (y2 + (1 : Int32)) μ1 hL h
def f_X10_isSo_J69 (c4 : Int32 → Int32 → hm_M → Option Int32) (e84 : Int32 → hm_M → Option Int32) (s0 : Int32) (s1 : Int32) (y2 : Int32) (μ1 : hm_M) : Option Int32 :=
  (if s1 = s0 then
  f_X10_isSo_J77 c4 e84 (1 : Int32) y2 μ1
  else
  f_X10_isSo_J77 c4 e84 (0 : Int32) y2 μ1)
theorem ok_X10_isSo_J69 {fr : Nat} (hfr : 2 ≤ fr) {ν : hm_N} {r : Int32}   (c4 : Int32 → Int32 → hm_M → Option Int32) (e84 : Int32 → hm_M → Option Int32) (hc4 : ∀ (y1 : Int32) (y2 : Int32)  (μ1 : hm_M), hm_LL ν μ1 → c4 y1 y2 μ1 = some r → hm_T (hm_LL ν) m_X10_isSo fr 0 0 (some (.int r)) μ1 4 [some (.ref 179), some (.int y1), some (.int y2)] [] μ1) (he84 : ∀ (y1 : Int32)  (μ1 : hm_M), hm_LL ν μ1 → e84 y1 μ1 = some r → hm_T (hm_LL ν) m_X10_isSo fr 0 0 (some (.int r)) μ1 84 [none, some (.int y1), none] [] μ1)  (s0 : Int32) (s1 : Int32) (y2 : Int32) (μ1 : hm_M) (hL : hm_LL ν μ1) (h : f_X10_isSo_J69 c4 e84 s0 s1 y2 μ1 = some r) : hm_T (hm_LL ν) m_X10_isSo fr 0 0 (some (.int r)) μ1 69 [some (.ref 179), none, some (.int y2)] [.int s0, .int s1] μ1 := by
  unfold f_X10_isSo_J69 at h
  rcases hm_is h with ⟨hc, h⟩ | ⟨hc, h⟩
  · refine tr_icmp_ne_f (tgt := 76) (pc' := 72) hc (show decode cX10_isSo 69 = .ok (.if_icmp .ne 7, 3) by decide +kernel) (by decide) rfl ?_
    refine tr_iconst (pc' := 73) (v := (1 : Int32)) (show decode cX10_isSo 72 = .ok (.iconst 1, 1) by decide +kernel) rfl (by decide) ?_
    refine tr_goto (tgt := 77) (show decode cX10_isSo 73 = .ok (.goto 4, 3) by decide +kernel) rfl ?_
    exact ok_X10_isSo_J77 hfr c4 e84 hc4 he84 (1 : Int32) y2 μ1 hL h
  · refine tr_icmp_ne_t (tgt := 76) hc (show decode cX10_isSo 69 = .ok (.if_icmp .ne 7, 3) by decide +kernel) (by decide) ?_
    refine tr_iconst (pc' := 77) (v := (0 : Int32)) (show decode cX10_isSo 76 = .ok (.iconst 0, 1) by decide +kernel) rfl (by decide) ?_
    exact ok_X10_isSo_J77 hfr c4 e84 hc4 he84 (0 : Int32) y2 μ1 hL h
def f_X10_isSo_L4 (e84 : Int32 → hm_M → Option Int32) : Nat → Int32 → Int32 → hm_M → Option Int32
  | 0, _, _, _ => none
  | n + 1, y1, y2, μ1 => Option.bind (hm_ld μ1 181 5665 (55 : Int32)) fun x2 =>
  (if x2 ≤ y2 then
  e84 y1 μ1
  else
  (if y1 = 0 then
  e84 y1 μ1
  else
  Option.bind (hm_ld μ1 181 5665 ((33 : Int32) + ((3 : Int32) * y2))) fun x3 =>
  Option.bind (hm_ld μ1 181 5665 (((33 : Int32) + ((3 : Int32) * y2)) + (1 : Int32))) fun x4 =>
  Option.bind (f_X10_areNext x3 x4 μ1) fun x5 =>
  Option.bind (hm_ld μ1 181 5665 (((33 : Int32) + ((3 : Int32) * y2)) + (2 : Int32))) fun x6 =>
  (if x6 = (1 : Int32) then
  f_X10_isSo_J69 (f_X10_isSo_L4 e84 n) e84 (1 : Int32) x5 y2 μ1
  else
  f_X10_isSo_J69 (f_X10_isSo_L4 e84 n) e84 (0 : Int32) x5 y2 μ1)))
theorem ok_X10_isSo_L4 {fr : Nat} (hfr : 2 ≤ fr) {ν : hm_N} {r : Int32}   (e84 : Int32 → hm_M → Option Int32)  (he84 : ∀ (y1 : Int32)  (μ1 : hm_M), hm_LL ν μ1 → e84 y1 μ1 = some r → hm_T (hm_LL ν) m_X10_isSo fr 0 0 (some (.int r)) μ1 84 [none, some (.int y1), none] [] μ1)  : ∀ (n : Nat) (y1 : Int32) (y2 : Int32)  (μ1 : hm_M), hm_LL ν μ1 → f_X10_isSo_L4 e84 n y1 y2 μ1 = some r → hm_T (hm_LL ν) m_X10_isSo fr 0 0 (some (.int r)) μ1 4 [some (.ref 179), some (.int y1), some (.int y2)] [] μ1 := by
  intro n
  induction n with
  | zero =>
    intro y1 y2 μ1 hL h
    unfold f_X10_isSo_L4 at h
    cases h
  | succ n ih =>
    intro y1 y2 μ1 hL h
    unfold f_X10_isSo_L4 at h
    refine tr_iload_n (pc' := 5) (show decode cX10_isSo 4 = .ok (.iload_n 2, 1) by decide +kernel) rfl rfl rfl ?_
    refine tr_aload_n (pc' := 6) (show decode cX10_isSo 5 = .ok (.aload_n 0, 1) by decide +kernel) rfl rfl rfl ?_
    refine tr_getR (pc' := 9) fl_HandRingModel_24 (show decode cX10_isSo 6 = .ok (.getfield 24, 3) by decide +kernel) rfl (la_o hL (by decide) rfl) (la_r hL 118 rfl) ?_
    refine tr_bipush (pc' := 11) (v := (55 : Int32)) (show decode cX10_isSo 9 = .ok (.bipush 55, 2) by decide +kernel) rfl (by decide) ?_
    obtain ⟨x2, ex2, h⟩ := hm_bs h
    refine tp_ldI (pc' := 12) (show decode cX10_isSo 11 = .ok (.iaload, 1) by decide +kernel) rfl (la_a hL (by decide) rfl) ex2 ?_
    rcases hm_is h with ⟨hc, h⟩ | ⟨hc, h⟩
    · refine tr_icmp_ge_t (tgt := 84) hc (show decode cX10_isSo 12 = .ok (.if_icmp .ge 72, 3) by decide +kernel) (by decide) ?_
      refine hm_fgt [false, true, false] (lv' := [none, some (.int y1), none]) rfl ?_
      exact he84 y1 μ1 hL h
    · refine tr_icmp_ge_f (tgt := 84) (pc' := 15) hc (show decode cX10_isSo 12 = .ok (.if_icmp .ge 72, 3) by decide +kernel) (by decide) rfl ?_
      refine tr_iload_n (pc' := 16) (show decode cX10_isSo 15 = .ok (.iload_n 1, 1) by decide +kernel) rfl rfl rfl ?_
      rcases hm_is h with ⟨hc, h⟩ | ⟨hc, h⟩
      · refine tr_if_eq_t (tgt := 84) hc (show decode cX10_isSo 16 = .ok (.ifCond .eq 68, 3) by decide +kernel) (by decide) ?_
        refine hm_fgt [false, true, false] (lv' := [none, some (.int y1), none]) rfl ?_
        exact he84 y1 μ1 hL h
      · refine tr_if_eq_f (tgt := 84) (pc' := 19) hc (show decode cX10_isSo 16 = .ok (.ifCond .eq 68, 3) by decide +kernel) (by decide) rfl ?_
        refine tr_aload_n (pc' := 20) (show decode cX10_isSo 19 = .ok (.aload_n 0, 1) by decide +kernel) rfl rfl rfl ?_
        refine tr_aload_n (pc' := 21) (show decode cX10_isSo 20 = .ok (.aload_n 0, 1) by decide +kernel) rfl rfl rfl ?_
        refine tr_getR (pc' := 24) fl_HandRingModel_24 (show decode cX10_isSo 21 = .ok (.getfield 24, 3) by decide +kernel) rfl (la_o hL (by decide) rfl) (la_r hL 118 rfl) ?_
        refine tr_bipush (pc' := 26) (v := (33 : Int32)) (show decode cX10_isSo 24 = .ok (.bipush 33, 2) by decide +kernel) rfl (by decide) ?_
        refine tr_iconst (pc' := 27) (v := (3 : Int32)) (show decode cX10_isSo 26 = .ok (.iconst 3, 1) by decide +kernel) rfl (by decide) ?_
        refine tr_iload_n (pc' := 28) (show decode cX10_isSo 27 = .ok (.iload_n 2, 1) by decide +kernel) rfl rfl rfl ?_
        refine tr_imul (pc' := 29) (show decode cX10_isSo 28 = .ok (.imul, 1) by decide +kernel) rfl ?_
        refine tr_iadd (pc' := 30) (show decode cX10_isSo 29 = .ok (.iadd, 1) by decide +kernel) rfl ?_
        obtain ⟨x3, ex3, h⟩ := hm_bs h
        refine tp_ldI (pc' := 31) (show decode cX10_isSo 30 = .ok (.iaload, 1) by decide +kernel) rfl (la_a hL (by decide) rfl) ex3 ?_
        refine tr_aload_n (pc' := 32) (show decode cX10_isSo 31 = .ok (.aload_n 0, 1) by decide +kernel) rfl rfl rfl ?_
        refine tr_getR (pc' := 35) fl_HandRingModel_24 (show decode cX10_isSo 32 = .ok (.getfield 24, 3) by decide +kernel) rfl (la_o hL (by decide) rfl) (la_r hL 118 rfl) ?_
        refine tr_bipush (pc' := 37) (v := (33 : Int32)) (show decode cX10_isSo 35 = .ok (.bipush 33, 2) by decide +kernel) rfl (by decide) ?_
        refine tr_iconst (pc' := 38) (v := (3 : Int32)) (show decode cX10_isSo 37 = .ok (.iconst 3, 1) by decide +kernel) rfl (by decide) ?_
        refine tr_iload_n (pc' := 39) (show decode cX10_isSo 38 = .ok (.iload_n 2, 1) by decide +kernel) rfl rfl rfl ?_
        refine tr_imul (pc' := 40) (show decode cX10_isSo 39 = .ok (.imul, 1) by decide +kernel) rfl ?_
        refine tr_iadd (pc' := 41) (show decode cX10_isSo 40 = .ok (.iadd, 1) by decide +kernel) rfl ?_
        refine tr_iconst (pc' := 42) (v := (1 : Int32)) (show decode cX10_isSo 41 = .ok (.iconst 1, 1) by decide +kernel) rfl (by decide) ?_
        refine tr_iadd (pc' := 43) (show decode cX10_isSo 42 = .ok (.iadd, 1) by decide +kernel) rfl ?_
        obtain ⟨x4, ex4, h⟩ := hm_bs h
        refine tp_ldI (pc' := 44) (show decode cX10_isSo 43 = .ok (.iaload, 1) by decide +kernel) rfl (la_a hL (by decide) rfl) ex4 ?_
        obtain ⟨x5, ex5, h⟩ := hm_bs h
        have cx5 := ok_X10_areNext (fr := fr - 1) (ν := ν) (by omega) x3 x4 μ1 hL ex5
        refine tp_callV (pc' := 47) (As := [.int x3, .int x4]) (fr1 := fr - 1) (ci := 10) okm_X10_areNext lk_HandRingModel_430 (show decode cX10_isSo 44 = .ok (.invokevirtual 430, 3) by decide +kernel) rfl rfl rfl (by decide) (la_o hL (by decide) rfl) rfl rfl (Nat.le_of_ble_eq_true rfl) (by omega) cx5 (st' := [.int x5]) rfl ?_
        refine tr_aload_n (pc' := 48) (show decode cX10_isSo 47 = .ok (.aload_n 0, 1) by decide +kernel) rfl rfl rfl ?_
        refine tr_getR (pc' := 51) fl_HandRingModel_24 (show decode cX10_isSo 48 = .ok (.getfield 24, 3) by decide +kernel) rfl (la_o hL (by decide) rfl) (la_r hL 118 rfl) ?_
        refine tr_bipush (pc' := 53) (v := (33 : Int32)) (show decode cX10_isSo 51 = .ok (.bipush 33, 2) by decide +kernel) rfl (by decide) ?_
        refine tr_iconst (pc' := 54) (v := (3 : Int32)) (show decode cX10_isSo 53 = .ok (.iconst 3, 1) by decide +kernel) rfl (by decide) ?_
        refine tr_iload_n (pc' := 55) (show decode cX10_isSo 54 = .ok (.iload_n 2, 1) by decide +kernel) rfl rfl rfl ?_
        refine tr_imul (pc' := 56) (show decode cX10_isSo 55 = .ok (.imul, 1) by decide +kernel) rfl ?_
        refine tr_iadd (pc' := 57) (show decode cX10_isSo 56 = .ok (.iadd, 1) by decide +kernel) rfl ?_
        refine tr_iconst (pc' := 58) (v := (2 : Int32)) (show decode cX10_isSo 57 = .ok (.iconst 2, 1) by decide +kernel) rfl (by decide) ?_
        refine tr_iadd (pc' := 59) (show decode cX10_isSo 58 = .ok (.iadd, 1) by decide +kernel) rfl ?_
        obtain ⟨x6, ex6, h⟩ := hm_bs h
        refine tp_ldI (pc' := 60) (show decode cX10_isSo 59 = .ok (.iaload, 1) by decide +kernel) rfl (la_a hL (by decide) rfl) ex6 ?_
        refine tr_iconst (pc' := 61) (v := (1 : Int32)) (show decode cX10_isSo 60 = .ok (.iconst 1, 1) by decide +kernel) rfl (by decide) ?_
        rcases hm_is h with ⟨hc, h⟩ | ⟨hc, h⟩
        · refine tr_icmp_ne_f (tgt := 68) (pc' := 64) hc (show decode cX10_isSo 61 = .ok (.if_icmp .ne 7, 3) by decide +kernel) (by decide) rfl ?_
          refine tr_iconst (pc' := 65) (v := (1 : Int32)) (show decode cX10_isSo 64 = .ok (.iconst 1, 1) by decide +kernel) rfl (by decide) ?_
          refine tr_goto (tgt := 69) (show decode cX10_isSo 65 = .ok (.goto 4, 3) by decide +kernel) rfl ?_
          refine hm_fgt [true, false, true] (lv' := [some (.ref 179), none, some (.int y2)]) rfl ?_
          exact ok_X10_isSo_J69 hfr (f_X10_isSo_L4 e84 n) e84 ih he84 (1 : Int32) x5 y2 μ1 hL h
        · refine tr_icmp_ne_t (tgt := 68) hc (show decode cX10_isSo 61 = .ok (.if_icmp .ne 7, 3) by decide +kernel) (by decide) ?_
          refine tr_iconst (pc' := 69) (v := (0 : Int32)) (show decode cX10_isSo 68 = .ok (.iconst 0, 1) by decide +kernel) rfl (by decide) ?_
          refine hm_fgt [true, false, true] (lv' := [some (.ref 179), none, some (.int y2)]) rfl ?_
          exact ok_X10_isSo_J69 hfr (f_X10_isSo_L4 e84 n) e84 ih he84 (0 : Int32) x5 y2 μ1 hL h
def f_X10_isSo (μ : hm_M) : Option Int32 :=
  f_X10_isSo_L4 (fun z7_1 μz7 => hm_rz z7_1) hm_fu (1 : Int32) (0 : Int32) μ
set_option maxRecDepth 100000 in
theorem ok_X10_isSo {fr : Nat} (hfr : 2 ≤ fr) {ν : hm_N} {r : Int32}    (μ : hm_M) (hL : hm_LL ν μ) (h : f_X10_isSo μ = some r) : hm_CC (hm_LL ν) m_X10_isSo fr 0 0 [.ref 179] μ (some (.int r)) μ := by
  refine hm_enter (lv := [some (.ref 179), none, none]) (by decide) rfl (Nat.le_of_ble_eq_true rfl) ?_
  unfold f_X10_isSo at h
  refine tr_iconst (pc' := 1) (v := (1 : Int32)) (show decode cX10_isSo 0 = .ok (.iconst 1, 1) by decide +kernel) rfl (by decide) ?_
  refine tr_istore_n (pc' := 2) (lv' := [some (.ref 179), some (.int (1 : Int32)), none]) (show decode cX10_isSo 1 = .ok (.istore_n 1, 1) by decide +kernel) rfl rfl (Nat.le_of_ble_eq_true rfl) rfl rfl ?_
  refine tr_iconst (pc' := 3) (v := (0 : Int32)) (show decode cX10_isSo 2 = .ok (.iconst 0, 1) by decide +kernel) rfl (by decide) ?_
  refine tr_istore_n (pc' := 4) (lv' := [some (.ref 179), some (.int (1 : Int32)), some (.int (0 : Int32))]) (show decode cX10_isSo 3 = .ok (.istore_n 2, 1) by decide +kernel) rfl rfl (Nat.le_of_ble_eq_true rfl) rfl rfl ?_
  refine ok_X10_isSo_L4 hfr _ ?_ _ (1 : Int32) (0 : Int32) μ hL h
  · intro z7_1 μz7 hL h
    refine tr_iload_n (pc' := 85) (show decode cX10_isSo 84 = .ok (.iload_n 1, 1) by decide +kernel) rfl rfl rfl ?_
    exact tp_zret rfl (show decode cX10_isSo 85 = .ok (.ireturn, 1) by decide +kernel) h hL
def f_X10_countsRing_L65 (e123 : hm_M → Option hm_M) : Nat → Int32 → hm_M → Option hm_M
  | 0, _, _ => none
  | n + 1, y1, μ1 => Option.bind (f_X10_many μ1) fun x5 =>
  (if x5 ≤ y1 then
  e123 μ1
  else
  Option.bind (hm_ld μ1 197 8 y1) fun x6 =>
  Option.bind (f_X10_many μ1) fun x7 =>
  Option.bind (hm_rm2 (y1 + (1 : Int32)) x7) fun x8 =>
  Option.bind (hm_ld μ1 197 8 x8) fun x9 =>
  Option.bind (f_X10_lesser x6 x9) fun x10 =>
  Option.bind (f_X10_greater x6 x9) fun x11 =>
  Option.bind (hm_ld μ1 199 64 (((8 : Int32) * x10) + x11)) fun x12 =>
  Option.bind (hm_sd μ1 199 64 (((8 : Int32) * x10) + x11) (x12 + (1 : Int32))) fun μ13 =>
  (f_X10_countsRing_L65 e123 n) (y1 + (1 : Int32)) μ13)
theorem ok_X10_countsRing_L65 {fr : Nat} (hfr : 3 ≤ fr) {ν : hm_N} {μR : hm_M}   (e123 : hm_M → Option hm_M)  (he123 : ∀   (μ1 : hm_M), hm_LL ν μ1 → e123 μ1 = some μR → hm_T (hm_LL ν) m_X10_countsRing fr 0 0 none μR 123 [none, none, none, none] [] μ1)  : ∀ (n : Nat) (y1 : Int32)  (μ1 : hm_M), hm_LL ν μ1 → f_X10_countsRing_L65 e123 n y1 μ1 = some μR → hm_T (hm_LL ν) m_X10_countsRing fr 0 0 none μR 65 [some (.ref 179), some (.int y1), none, none] [] μ1 := by
  intro n
  induction n with
  | zero =>
    intro y1 μ1 hL h
    unfold f_X10_countsRing_L65 at h
    cases h
  | succ n ih =>
    intro y1 μ1 hL h
    unfold f_X10_countsRing_L65 at h
    refine tr_iload_n (pc' := 66) (show decode cX10_countsRing 65 = .ok (.iload_n 1, 1) by decide +kernel) rfl rfl rfl ?_
    refine tr_aload_n (pc' := 67) (show decode cX10_countsRing 66 = .ok (.aload_n 0, 1) by decide +kernel) rfl rfl rfl ?_
    obtain ⟨x5, ex5, h⟩ := hm_bs h
    have cx5 := ok_X10_many (fr := fr - 1) (ν := ν) (by omega) μ1 hL ex5
    refine tp_callV (pc' := 70) (As := []) (fr1 := fr - 1) (ci := 10) okm_X10_many lk_HandRingModel_118 (show decode cX10_countsRing 67 = .ok (.invokevirtual 118, 3) by decide +kernel) rfl rfl rfl (by decide) (la_o hL (by decide) rfl) rfl rfl (Nat.le_of_ble_eq_true rfl) (by omega) cx5 (st' := [.int x5, .int y1]) rfl ?_
    rcases hm_is h with ⟨hc, h⟩ | ⟨hc, h⟩
    · refine tr_icmp_ge_t (tgt := 123) hc (show decode cX10_countsRing 70 = .ok (.if_icmp .ge 53, 3) by decide +kernel) (by decide) ?_
      refine hm_fgt [false, false, false, false] (lv' := [none, none, none, none]) rfl ?_
      exact he123 μ1 hL h
    · refine tr_icmp_ge_f (tgt := 123) (pc' := 73) hc (show decode cX10_countsRing 70 = .ok (.if_icmp .ge 53, 3) by decide +kernel) (by decide) rfl ?_
      refine tr_aload_n (pc' := 74) (show decode cX10_countsRing 73 = .ok (.aload_n 0, 1) by decide +kernel) rfl rfl rfl ?_
      refine tr_getR (pc' := 77) fl_HandRingModel_77 (show decode cX10_countsRing 74 = .ok (.getfield 77, 3) by decide +kernel) rfl (la_o hL (by decide) rfl) (la_r hL 134 rfl) ?_
      refine tr_iload_n (pc' := 78) (show decode cX10_countsRing 77 = .ok (.iload_n 1, 1) by decide +kernel) rfl rfl rfl ?_
      obtain ⟨x6, ex6, h⟩ := hm_bs h
      refine tp_ldI (pc' := 79) (show decode cX10_countsRing 78 = .ok (.iaload, 1) by decide +kernel) rfl (la_a hL (by decide) rfl) ex6 ?_
      refine tr_istore_n (pc' := 80) (lv' := [some (.ref 179), some (.int y1), some (.int x6), none]) (show decode cX10_countsRing 79 = .ok (.istore_n 2, 1) by decide +kernel) rfl rfl (Nat.le_of_ble_eq_true rfl) rfl rfl ?_
      refine tr_aload_n (pc' := 81) (show decode cX10_countsRing 80 = .ok (.aload_n 0, 1) by decide +kernel) rfl rfl rfl ?_
      refine tr_getR (pc' := 84) fl_HandRingModel_77 (show decode cX10_countsRing 81 = .ok (.getfield 77, 3) by decide +kernel) rfl (la_o hL (by decide) rfl) (la_r hL 134 rfl) ?_
      refine tr_iload_n (pc' := 85) (show decode cX10_countsRing 84 = .ok (.iload_n 1, 1) by decide +kernel) rfl rfl rfl ?_
      refine tr_iconst (pc' := 86) (v := (1 : Int32)) (show decode cX10_countsRing 85 = .ok (.iconst 1, 1) by decide +kernel) rfl (by decide) ?_
      refine tr_iadd (pc' := 87) (show decode cX10_countsRing 86 = .ok (.iadd, 1) by decide +kernel) rfl ?_
      refine tr_aload_n (pc' := 88) (show decode cX10_countsRing 87 = .ok (.aload_n 0, 1) by decide +kernel) rfl rfl rfl ?_
      obtain ⟨x7, ex7, h⟩ := hm_bs h
      have cx7 := ok_X10_many (fr := fr - 1) (ν := ν) (by omega) μ1 hL ex7
      refine tp_callV (pc' := 91) (As := []) (fr1 := fr - 1) (ci := 10) okm_X10_many lk_HandRingModel_118 (show decode cX10_countsRing 88 = .ok (.invokevirtual 118, 3) by decide +kernel) rfl rfl rfl (by decide) (la_o hL (by decide) rfl) rfl rfl (Nat.le_of_ble_eq_true rfl) (by omega) cx7 (st' := [.int x7, .int (y1 + (1 : Int32)), .ref 197]) rfl ?_
      obtain ⟨x8, ex8, h⟩ := hm_bs h
      refine tp_rm (pc' := 92) (show decode cX10_countsRing 91 = .ok (.irem, 1) by decide +kernel) rfl ex8 ?_
      obtain ⟨x9, ex9, h⟩ := hm_bs h
      refine tp_ldI (pc' := 93) (show decode cX10_countsRing 92 = .ok (.iaload, 1) by decide +kernel) rfl (la_a hL (by decide) rfl) ex9 ?_
      refine tr_istore_n (pc' := 94) (lv' := [some (.ref 179), some (.int y1), some (.int x6), some (.int x9)]) (show decode cX10_countsRing 93 = .ok (.istore_n 3, 1) by decide +kernel) rfl rfl (Nat.le_of_ble_eq_true rfl) rfl rfl ?_
      refine tr_aload_n (pc' := 95) (show decode cX10_countsRing 94 = .ok (.aload_n 0, 1) by decide +kernel) rfl rfl rfl ?_
      refine tr_getR (pc' := 98) fl_HandRingModel_83 (show decode cX10_countsRing 95 = .ok (.getfield 83, 3) by decide +kernel) rfl (la_o hL (by decide) rfl) (la_r hL 136 rfl) ?_
      refine tr_bipush (pc' := 100) (v := (8 : Int32)) (show decode cX10_countsRing 98 = .ok (.bipush 8, 2) by decide +kernel) rfl (by decide) ?_
      refine tr_iload_n (pc' := 101) (show decode cX10_countsRing 100 = .ok (.iload_n 2, 1) by decide +kernel) rfl rfl rfl ?_
      refine tr_iload_n (pc' := 102) (show decode cX10_countsRing 101 = .ok (.iload_n 3, 1) by decide +kernel) rfl rfl rfl ?_
      obtain ⟨x10, ex10, h⟩ := hm_bs h
      have cx10 := ok_X10_lesser (fr := fr - 1) (ν := ν) (by omega) x6 x9 μ1 hL ex10
      refine tp_callS (pc' := 105) (As := [.int x6, .int x9]) (fr1 := fr - 1) okm_X10_lesser lk_HandRingModel_340 (show decode cX10_countsRing 102 = .ok (.invokestatic 340, 3) by decide +kernel) rfl rfl rfl (Nat.le_of_ble_eq_true rfl) (by omega) cx10 (st' := [.int x10, .int (8 : Int32), .ref 199]) rfl ?_
      refine tr_imul (pc' := 106) (show decode cX10_countsRing 105 = .ok (.imul, 1) by decide +kernel) rfl ?_
      refine tr_iload_n (pc' := 107) (show decode cX10_countsRing 106 = .ok (.iload_n 2, 1) by decide +kernel) rfl rfl rfl ?_
      refine tr_iload_n (pc' := 108) (show decode cX10_countsRing 107 = .ok (.iload_n 3, 1) by decide +kernel) rfl rfl rfl ?_
      obtain ⟨x11, ex11, h⟩ := hm_bs h
      have cx11 := ok_X10_greater (fr := fr - 1) (ν := ν) (by omega) x6 x9 μ1 hL ex11
      refine tp_callS (pc' := 111) (As := [.int x6, .int x9]) (fr1 := fr - 1) okm_X10_greater lk_HandRingModel_343 (show decode cX10_countsRing 108 = .ok (.invokestatic 343, 3) by decide +kernel) rfl rfl rfl (Nat.le_of_ble_eq_true rfl) (by omega) cx11 (st' := [.int x11, .int ((8 : Int32) * x10), .ref 199]) rfl ?_
      refine tr_iadd (pc' := 112) (show decode cX10_countsRing 111 = .ok (.iadd, 1) by decide +kernel) rfl ?_
      refine tr_dup2 (pc' := 113) (show decode cX10_countsRing 112 = .ok (.dup2, 1) by decide +kernel) rfl rfl rfl ?_
      obtain ⟨x12, ex12, h⟩ := hm_bs h
      refine tp_ldI (pc' := 114) (show decode cX10_countsRing 113 = .ok (.iaload, 1) by decide +kernel) rfl (la_a hL (by decide) rfl) ex12 ?_
      refine tr_iconst (pc' := 115) (v := (1 : Int32)) (show decode cX10_countsRing 114 = .ok (.iconst 1, 1) by decide +kernel) rfl (by decide) ?_
      refine tr_iadd (pc' := 116) (show decode cX10_countsRing 115 = .ok (.iadd, 1) by decide +kernel) rfl ?_
      obtain ⟨μ13, eμ13, h⟩ := hm_bs h
      refine tp_sdI (pc' := 117) (show decode cX10_countsRing 116 = .ok (.iastore, 1) by decide +kernel) rfl (la_a hL (by decide) rfl) eμ13 ?_
      replace hL := hL.same (hm_sd_s eμ13)
      refine tr_iinc (pc' := 120) (v := y1 + (1 : Int32)) (lv' := [some (.ref 179), some (.int (y1 + (1 : Int32))), some (.int x6), some (.int x9)]) (show decode cX10_countsRing 117 = .ok (.iinc 1 1, 3) by decide +kernel) rfl rfl rfl (Nat.le_of_ble_eq_true rfl) rfl rfl ?_
      refine tr_goto (tgt := 65) (show decode cX10_countsRing 120 = .ok (.goto (-55), 3) by decide +kernel) rfl ?_
      refine hm_fgt [true, true, false, false] (lv' := [some (.ref 179), some (.int (y1 + (1 : Int32))), none, none]) rfl ?_
      exact ih (y1 + (1 : Int32)) μ13 hL h
def f_X10_countsRing_J53 (μ1 : hm_M) : Option hm_M :=
  Option.bind (hm_pI μ1 179 42 ((μ1.1 179 42) + (1 : Int32))) fun μ4 =>
  f_X10_countsRing_L65 (fun μz14 => some μz14) hm_fu (0 : Int32) μ4
theorem ok_X10_countsRing_J53 {fr : Nat} (hfr : 3 ≤ fr) {ν : hm_N} {μR : hm_M}       (μ1 : hm_M) (hL : hm_LL ν μ1) (h : f_X10_countsRing_J53 μ1 = some μR) : hm_T (hm_LL ν) m_X10_countsRing fr 0 0 none μR 53 [some (.ref 179), none, none, none] [] μ1 := by
  unfold f_X10_countsRing_J53 at h
  refine tr_aload_n (pc' := 54) (show decode cX10_countsRing 53 = .ok (.aload_n 0, 1) by decide +kernel) rfl rfl rfl ?_
  refine tr_dup (pc' := 55) (show decode cX10_countsRing 54 = .ok (.dup, 1) by decide +kernel) rfl rfl ?_
  refine tr_getI (pc' := 58) fl_HandRingModel_439 (show decode cX10_countsRing 55 = .ok (.getfield 439, 3) by decide +kernel) rfl (la_o hL (by decide) rfl) ?_
  refine tr_iconst (pc' := 59) (v := (1 : Int32)) (show decode cX10_countsRing 58 = .ok (.iconst 1, 1) by decide +kernel) rfl (by decide) ?_
  refine tr_iadd (pc' := 60) (show decode cX10_countsRing 59 = .ok (.iadd, 1) by decide +kernel) rfl ?_
  obtain ⟨μ4, eμ4, h⟩ := hm_bs h
  refine tp_pI (pc' := 63) fl_HandRingModel_439 (show decode cX10_countsRing 60 = .ok (.putfield 439, 3) by decide +kernel) rfl (la_o hL (by decide) rfl) eμ4 ?_
  replace hL := hL.same (hm_pI_s eμ4)
  refine tr_iconst (pc' := 64) (v := (0 : Int32)) (show decode cX10_countsRing 63 = .ok (.iconst 0, 1) by decide +kernel) rfl (by decide) ?_
  refine tr_istore_n (pc' := 65) (lv' := [some (.ref 179), some (.int (0 : Int32)), none, none]) (show decode cX10_countsRing 64 = .ok (.istore_n 1, 1) by decide +kernel) rfl rfl (Nat.le_of_ble_eq_true rfl) rfl rfl ?_
  refine ok_X10_countsRing_L65 hfr _ ?_ _ (0 : Int32) μ4 hL h
  · intro μz14 hL h
    cases h
    exact tr_vret rfl (show decode cX10_countsRing 123 = .ok (.return_, 1) by decide +kernel) hL
def f_X10_countsRing_L27 (e53 : hm_M → Option hm_M) : Nat → Int32 → hm_M → Option hm_M
  | 0, _, _ => none
  | n + 1, y1, μ1 => Option.bind (f_X10_many μ1) fun x15 =>
  (if x15 ≤ y1 then
  e53 μ1
  else
  Option.bind (hm_ld μ1 197 8 y1) fun x16 =>
  Option.bind (hm_sd μ1 198 8 y1 x16) fun μ17 =>
  (f_X10_countsRing_L27 e53 n) (y1 + (1 : Int32)) μ17)
theorem ok_X10_countsRing_L27 {fr : Nat} (hfr : 3 ≤ fr) {ν : hm_N} {μR : hm_M}   (e53 : hm_M → Option hm_M)  (he53 : ∀   (μ1 : hm_M), hm_LL ν μ1 → e53 μ1 = some μR → hm_T (hm_LL ν) m_X10_countsRing fr 0 0 none μR 53 [some (.ref 179), none, none, none] [] μ1)  : ∀ (n : Nat) (y1 : Int32)  (μ1 : hm_M), hm_LL ν μ1 → f_X10_countsRing_L27 e53 n y1 μ1 = some μR → hm_T (hm_LL ν) m_X10_countsRing fr 0 0 none μR 27 [some (.ref 179), some (.int y1), none, none] [] μ1 := by
  intro n
  induction n with
  | zero =>
    intro y1 μ1 hL h
    unfold f_X10_countsRing_L27 at h
    cases h
  | succ n ih =>
    intro y1 μ1 hL h
    unfold f_X10_countsRing_L27 at h
    refine tr_iload_n (pc' := 28) (show decode cX10_countsRing 27 = .ok (.iload_n 1, 1) by decide +kernel) rfl rfl rfl ?_
    refine tr_aload_n (pc' := 29) (show decode cX10_countsRing 28 = .ok (.aload_n 0, 1) by decide +kernel) rfl rfl rfl ?_
    obtain ⟨x15, ex15, h⟩ := hm_bs h
    have cx15 := ok_X10_many (fr := fr - 1) (ν := ν) (by omega) μ1 hL ex15
    refine tp_callV (pc' := 32) (As := []) (fr1 := fr - 1) (ci := 10) okm_X10_many lk_HandRingModel_118 (show decode cX10_countsRing 29 = .ok (.invokevirtual 118, 3) by decide +kernel) rfl rfl rfl (by decide) (la_o hL (by decide) rfl) rfl rfl (Nat.le_of_ble_eq_true rfl) (by omega) cx15 (st' := [.int x15, .int y1]) rfl ?_
    rcases hm_is h with ⟨hc, h⟩ | ⟨hc, h⟩
    · refine tr_icmp_ge_t (tgt := 53) hc (show decode cX10_countsRing 32 = .ok (.if_icmp .ge 21, 3) by decide +kernel) (by decide) ?_
      refine hm_fgt [true, false, false, false] (lv' := [some (.ref 179), none, none, none]) rfl ?_
      exact he53 μ1 hL h
    · refine tr_icmp_ge_f (tgt := 53) (pc' := 35) hc (show decode cX10_countsRing 32 = .ok (.if_icmp .ge 21, 3) by decide +kernel) (by decide) rfl ?_
      refine tr_aload_n (pc' := 36) (show decode cX10_countsRing 35 = .ok (.aload_n 0, 1) by decide +kernel) rfl rfl rfl ?_
      refine tr_getR (pc' := 39) fl_HandRingModel_80 (show decode cX10_countsRing 36 = .ok (.getfield 80, 3) by decide +kernel) rfl (la_o hL (by decide) rfl) (la_r hL 135 rfl) ?_
      refine tr_iload_n (pc' := 40) (show decode cX10_countsRing 39 = .ok (.iload_n 1, 1) by decide +kernel) rfl rfl rfl ?_
      refine tr_aload_n (pc' := 41) (show decode cX10_countsRing 40 = .ok (.aload_n 0, 1) by decide +kernel) rfl rfl rfl ?_
      refine tr_getR (pc' := 44) fl_HandRingModel_77 (show decode cX10_countsRing 41 = .ok (.getfield 77, 3) by decide +kernel) rfl (la_o hL (by decide) rfl) (la_r hL 134 rfl) ?_
      refine tr_iload_n (pc' := 45) (show decode cX10_countsRing 44 = .ok (.iload_n 1, 1) by decide +kernel) rfl rfl rfl ?_
      obtain ⟨x16, ex16, h⟩ := hm_bs h
      refine tp_ldI (pc' := 46) (show decode cX10_countsRing 45 = .ok (.iaload, 1) by decide +kernel) rfl (la_a hL (by decide) rfl) ex16 ?_
      obtain ⟨μ17, eμ17, h⟩ := hm_bs h
      refine tp_sdI (pc' := 47) (show decode cX10_countsRing 46 = .ok (.iastore, 1) by decide +kernel) rfl (la_a hL (by decide) rfl) eμ17 ?_
      replace hL := hL.same (hm_sd_s eμ17)
      refine tr_iinc (pc' := 50) (v := y1 + (1 : Int32)) (lv' := [some (.ref 179), some (.int (y1 + (1 : Int32))), none, none]) (show decode cX10_countsRing 47 = .ok (.iinc 1 1, 3) by decide +kernel) rfl rfl rfl (Nat.le_of_ble_eq_true rfl) rfl rfl ?_
      refine tr_goto (tgt := 27) (show decode cX10_countsRing 50 = .ok (.goto (-23), 3) by decide +kernel) rfl ?_
      exact ih (y1 + (1 : Int32)) μ17 hL h
def f_X10_countsRing (μ : hm_M) : Option hm_M :=
  Option.bind (hm_pI μ 179 41 ((μ.1 179 41) + (1 : Int32))) fun μ2 =>
  Option.bind (f_X10_isSo μ2) fun x3 =>
  (if x3 = 0 then
  some μ2
  else
  (if (μ2.1 179 42) = 0 then
  f_X10_countsRing_L27 (fun μz18 => f_X10_countsRing_J53 μz18) hm_fu (0 : Int32) μ2
  else
  f_X10_countsRing_J53 μ2))
set_option maxRecDepth 100000 in
theorem ok_X10_countsRing {fr : Nat} (hfr : 3 ≤ fr) {ν : hm_N} {μR : hm_M}    (μ : hm_M) (hL : hm_LL ν μ) (h : f_X10_countsRing μ = some μR) : hm_CC (hm_LL ν) m_X10_countsRing fr 0 0 [.ref 179] μ none μR := by
  refine hm_enter (lv := [some (.ref 179), none, none, none]) (by decide) rfl (Nat.le_of_ble_eq_true rfl) ?_
  unfold f_X10_countsRing at h
  refine tr_aload_n (pc' := 1) (show decode cX10_countsRing 0 = .ok (.aload_n 0, 1) by decide +kernel) rfl rfl rfl ?_
  refine tr_dup (pc' := 2) (show decode cX10_countsRing 1 = .ok (.dup, 1) by decide +kernel) rfl rfl ?_
  refine tr_getI (pc' := 5) fl_HandRingModel_433 (show decode cX10_countsRing 2 = .ok (.getfield 433, 3) by decide +kernel) rfl (la_o hL (by decide) rfl) ?_
  refine tr_iconst (pc' := 6) (v := (1 : Int32)) (show decode cX10_countsRing 5 = .ok (.iconst 1, 1) by decide +kernel) rfl (by decide) ?_
  refine tr_iadd (pc' := 7) (show decode cX10_countsRing 6 = .ok (.iadd, 1) by decide +kernel) rfl ?_
  obtain ⟨μ2, eμ2, h⟩ := hm_bs h
  refine tp_pI (pc' := 10) fl_HandRingModel_433 (show decode cX10_countsRing 7 = .ok (.putfield 433, 3) by decide +kernel) rfl (la_o hL (by decide) rfl) eμ2 ?_
  replace hL := hL.same (hm_pI_s eμ2)
  refine tr_aload_n (pc' := 11) (show decode cX10_countsRing 10 = .ok (.aload_n 0, 1) by decide +kernel) rfl rfl rfl ?_
  obtain ⟨x3, ex3, h⟩ := hm_bs h
  have cx3 := ok_X10_isSo (fr := fr - 1) (ν := ν) (by omega) μ2 hL ex3
  refine tp_callV (pc' := 14) (As := []) (fr1 := fr - 1) (ci := 10) okm_X10_isSo lk_HandRingModel_436 (show decode cX10_countsRing 11 = .ok (.invokevirtual 436, 3) by decide +kernel) rfl rfl rfl (by decide) (la_o hL (by decide) rfl) rfl rfl (Nat.le_of_ble_eq_true rfl) (by omega) cx3 (st' := [.int x3]) rfl ?_
  rcases hm_is h with ⟨hc, h⟩ | ⟨hc, h⟩
  · refine tr_if_ne_f (tgt := 18) (pc' := 17) hc (show decode cX10_countsRing 14 = .ok (.ifCond .ne 4, 3) by decide +kernel) (by decide) rfl ?_
    cases h
    exact tr_vret rfl (show decode cX10_countsRing 17 = .ok (.return_, 1) by decide +kernel) hL
  · refine tr_if_ne_t (tgt := 18) hc (show decode cX10_countsRing 14 = .ok (.ifCond .ne 4, 3) by decide +kernel) (by decide) ?_
    refine tr_aload_n (pc' := 19) (show decode cX10_countsRing 18 = .ok (.aload_n 0, 1) by decide +kernel) rfl rfl rfl ?_
    refine tr_getI (pc' := 22) fl_HandRingModel_439 (show decode cX10_countsRing 19 = .ok (.getfield 439, 3) by decide +kernel) rfl (la_o hL (by decide) rfl) ?_
    rcases hm_is h with ⟨hc, h⟩ | ⟨hc, h⟩
    · refine tr_if_ne_f (tgt := 53) (pc' := 25) hc (show decode cX10_countsRing 22 = .ok (.ifCond .ne 31, 3) by decide +kernel) (by decide) rfl ?_
      refine tr_iconst (pc' := 26) (v := (0 : Int32)) (show decode cX10_countsRing 25 = .ok (.iconst 0, 1) by decide +kernel) rfl (by decide) ?_
      refine tr_istore_n (pc' := 27) (lv' := [some (.ref 179), some (.int (0 : Int32)), none, none]) (show decode cX10_countsRing 26 = .ok (.istore_n 1, 1) by decide +kernel) rfl rfl (Nat.le_of_ble_eq_true rfl) rfl rfl ?_
      refine ok_X10_countsRing_L27 hfr _ ?_ _ (0 : Int32) μ2 hL h
      · intro μz18 hL h
        exact ok_X10_countsRing_J53 hfr μz18 hL h
    · refine tr_if_ne_t (tgt := 53) hc (show decode cX10_countsRing 22 = .ok (.ifCond .ne 31, 3) by decide +kernel) (by decide) ?_
      exact ok_X10_countsRing_J53 hfr μ2 hL h
def f_X10_goesThrough_J114 (k_X10_goesThrough : Int32 → Int32 → hm_M → Option hm_M) (v1 : Int32) (v2 : Int32) (c53 : Int32 → hm_M → Option hm_M) (e120 : hm_M → Option hm_M) (y3 : Int32) (μ1 : hm_M) : Option hm_M :=
  c53 (y3 + (1 : Int32)) μ1
theorem ok_X10_goesThrough_J114 {fr : Nat} (hfr : 5 ≤ fr) {ν : hm_N} {μR : hm_M} (k_X10_goesThrough : Int32 → Int32 → hm_M → Option hm_M) (hk_X10_goesThrough : ∀ {μR : hm_M} (v1 : Int32) (v2 : Int32)  (μ : hm_M), hm_LL ν μ → k_X10_goesThrough v1 v2 μ = some μR → hm_CC (hm_LL ν) m_X10_goesThrough (fr - 1) 0 0 [.ref 179, .int v1, .int v2] μ none μR) (v1 : Int32) (v2 : Int32) (c53 : Int32 → hm_M → Option hm_M) (e120 : hm_M → Option hm_M) (hc53 : ∀ (y3 : Int32)  (μ1 : hm_M), hm_LL ν μ1 → c53 y3 μ1 = some μR → hm_T (hm_LL ν) m_X10_goesThrough fr 0 0 none μR 53 [some (.ref 179), some (.int v1), some (.int v2), some (.int y3)] [] μ1) (he120 : ∀   (μ1 : hm_M), hm_LL ν μ1 → e120 μ1 = some μR → hm_T (hm_LL ν) m_X10_goesThrough fr 0 0 none μR 120 [none, none, none, none] [] μ1)  (y3 : Int32) (μ1 : hm_M) (hL : hm_LL ν μ1) (h : f_X10_goesThrough_J114 k_X10_goesThrough v1 v2 c53 e120 y3 μ1 = some μR) : hm_T (hm_LL ν) m_X10_goesThrough fr 0 0 none μR 114 [some (.ref 179), some (.int v1), some (.int v2), some (.int y3)] [] μ1 := by
  unfold f_X10_goesThrough_J114 at h
  refine tr_iinc (pc' := 117) (v := y3 + (1 : Int32)) (lv' := [some (.ref 179), some (.int v1), some (.int v2), some (.int (y3 + (1 : Int32)))]) (show decode cX10_goesThrough 114 = .ok (.iinc 3 1, 3) by decide +kernel) rfl rfl rfl (Nat.le_of_ble_eq_true rfl) rfl rfl ?_
  refine tr_goto (tgt := 53) (show decode cX10_goesThrough 117 = .ok (.goto (-64), 3) by decide +kernel) rfl ?_
  exact hc53 (y3 + (1 : Int32)) μ1 hL h
def f_X10_goesThrough_L53 (k_X10_goesThrough : Int32 → Int32 → hm_M → Option hm_M) (v1 : Int32) (v2 : Int32) (e120 : hm_M → Option hm_M) : Nat → Int32 → hm_M → Option hm_M
  | 0, _, _ => none
  | n + 1, y3, μ1 => Option.bind (f_X10_many μ1) fun x3 =>
  (if x3 ≤ y3 then
  e120 μ1
  else
  Option.bind (f_X10_isIn v2 y3) fun x4 =>
  (if x4 = 0 then
  Option.bind (hm_ld μ1 197 8 (v1 - (1 : Int32))) fun x5 =>
  Option.bind (hm_ld μ1 196 64 (((8 : Int32) * x5) + y3)) fun x6 =>
  (if x6 = (1000000 : Int32) then
  f_X10_goesThrough_J114 k_X10_goesThrough v1 v2 (f_X10_goesThrough_L53 k_X10_goesThrough v1 v2 e120 n) e120 y3 μ1
  else
  Option.bind (hm_sd μ1 197 8 v1 y3) fun μ7 =>
  Option.bind (k_X10_goesThrough (v1 + (1 : Int32)) (v2 ||| ((1 : Int32) <<< (y3 &&& 31))) μ7) fun μ9 =>
  f_X10_goesThrough_J114 k_X10_goesThrough v1 v2 (f_X10_goesThrough_L53 k_X10_goesThrough v1 v2 e120 n) e120 y3 μ9)
  else
  f_X10_goesThrough_J114 k_X10_goesThrough v1 v2 (f_X10_goesThrough_L53 k_X10_goesThrough v1 v2 e120 n) e120 y3 μ1))
theorem ok_X10_goesThrough_L53 {fr : Nat} (hfr : 5 ≤ fr) {ν : hm_N} {μR : hm_M} (k_X10_goesThrough : Int32 → Int32 → hm_M → Option hm_M) (hk_X10_goesThrough : ∀ {μR : hm_M} (v1 : Int32) (v2 : Int32)  (μ : hm_M), hm_LL ν μ → k_X10_goesThrough v1 v2 μ = some μR → hm_CC (hm_LL ν) m_X10_goesThrough (fr - 1) 0 0 [.ref 179, .int v1, .int v2] μ none μR) (v1 : Int32) (v2 : Int32) (e120 : hm_M → Option hm_M)  (he120 : ∀   (μ1 : hm_M), hm_LL ν μ1 → e120 μ1 = some μR → hm_T (hm_LL ν) m_X10_goesThrough fr 0 0 none μR 120 [none, none, none, none] [] μ1)  : ∀ (n : Nat) (y3 : Int32)  (μ1 : hm_M), hm_LL ν μ1 → f_X10_goesThrough_L53 k_X10_goesThrough v1 v2 e120 n y3 μ1 = some μR → hm_T (hm_LL ν) m_X10_goesThrough fr 0 0 none μR 53 [some (.ref 179), some (.int v1), some (.int v2), some (.int y3)] [] μ1 := by
  intro n
  induction n with
  | zero =>
    intro y3 μ1 hL h
    unfold f_X10_goesThrough_L53 at h
    cases h
  | succ n ih =>
    intro y3 μ1 hL h
    unfold f_X10_goesThrough_L53 at h
    refine tr_iload_n (pc' := 54) (show decode cX10_goesThrough 53 = .ok (.iload_n 3, 1) by decide +kernel) rfl rfl rfl ?_
    refine tr_aload_n (pc' := 55) (show decode cX10_goesThrough 54 = .ok (.aload_n 0, 1) by decide +kernel) rfl rfl rfl ?_
    obtain ⟨x3, ex3, h⟩ := hm_bs h
    have cx3 := ok_X10_many (fr := fr - 1) (ν := ν) (by omega) μ1 hL ex3
    refine tp_callV (pc' := 58) (As := []) (fr1 := fr - 1) (ci := 10) okm_X10_many lk_HandRingModel_118 (show decode cX10_goesThrough 55 = .ok (.invokevirtual 118, 3) by decide +kernel) rfl rfl rfl (by decide) (la_o hL (by decide) rfl) rfl rfl (Nat.le_of_ble_eq_true rfl) (by omega) cx3 (st' := [.int x3, .int y3]) rfl ?_
    rcases hm_is h with ⟨hc, h⟩ | ⟨hc, h⟩
    · refine tr_icmp_ge_t (tgt := 120) hc (show decode cX10_goesThrough 58 = .ok (.if_icmp .ge 62, 3) by decide +kernel) (by decide) ?_
      refine hm_fgt [false, false, false, false] (lv' := [none, none, none, none]) rfl ?_
      exact he120 μ1 hL h
    · refine tr_icmp_ge_f (tgt := 120) (pc' := 61) hc (show decode cX10_goesThrough 58 = .ok (.if_icmp .ge 62, 3) by decide +kernel) (by decide) rfl ?_
      refine tr_iload_n (pc' := 62) (show decode cX10_goesThrough 61 = .ok (.iload_n 2, 1) by decide +kernel) rfl rfl rfl ?_
      refine tr_iload_n (pc' := 63) (show decode cX10_goesThrough 62 = .ok (.iload_n 3, 1) by decide +kernel) rfl rfl rfl ?_
      obtain ⟨x4, ex4, h⟩ := hm_bs h
      have cx4 := ok_X10_isIn (fr := fr - 1) (ν := ν) (by omega) v2 y3 μ1 hL ex4
      refine tp_callS (pc' := 66) (As := [.int v2, .int y3]) (fr1 := fr - 1) okm_X10_isIn lk_HandRingModel_356 (show decode cX10_goesThrough 63 = .ok (.invokestatic 356, 3) by decide +kernel) rfl rfl rfl (Nat.le_of_ble_eq_true rfl) (by omega) cx4 (st' := [.int x4]) rfl ?_
      rcases hm_is h with ⟨hc, h⟩ | ⟨hc, h⟩
      · refine tr_if_ne_f (tgt := 114) (pc' := 69) hc (show decode cX10_goesThrough 66 = .ok (.ifCond .ne 48, 3) by decide +kernel) (by decide) rfl ?_
        refine tr_aload_n (pc' := 70) (show decode cX10_goesThrough 69 = .ok (.aload_n 0, 1) by decide +kernel) rfl rfl rfl ?_
        refine tr_getR (pc' := 73) fl_HandRingModel_74 (show decode cX10_goesThrough 70 = .ok (.getfield 74, 3) by decide +kernel) rfl (la_o hL (by decide) rfl) (la_r hL 133 rfl) ?_
        refine tr_bipush (pc' := 75) (v := (8 : Int32)) (show decode cX10_goesThrough 73 = .ok (.bipush 8, 2) by decide +kernel) rfl (by decide) ?_
        refine tr_aload_n (pc' := 76) (show decode cX10_goesThrough 75 = .ok (.aload_n 0, 1) by decide +kernel) rfl rfl rfl ?_
        refine tr_getR (pc' := 79) fl_HandRingModel_77 (show decode cX10_goesThrough 76 = .ok (.getfield 77, 3) by decide +kernel) rfl (la_o hL (by decide) rfl) (la_r hL 134 rfl) ?_
        refine tr_iload_n (pc' := 80) (show decode cX10_goesThrough 79 = .ok (.iload_n 1, 1) by decide +kernel) rfl rfl rfl ?_
        refine tr_iconst (pc' := 81) (v := (1 : Int32)) (show decode cX10_goesThrough 80 = .ok (.iconst 1, 1) by decide +kernel) rfl (by decide) ?_
        refine tr_isub (pc' := 82) (show decode cX10_goesThrough 81 = .ok (.isub, 1) by decide +kernel) rfl ?_
        obtain ⟨x5, ex5, h⟩ := hm_bs h
        refine tp_ldI (pc' := 83) (show decode cX10_goesThrough 82 = .ok (.iaload, 1) by decide +kernel) rfl (la_a hL (by decide) rfl) ex5 ?_
        refine tr_imul (pc' := 84) (show decode cX10_goesThrough 83 = .ok (.imul, 1) by decide +kernel) rfl ?_
        refine tr_iload_n (pc' := 85) (show decode cX10_goesThrough 84 = .ok (.iload_n 3, 1) by decide +kernel) rfl rfl rfl ?_
        refine tr_iadd (pc' := 86) (show decode cX10_goesThrough 85 = .ok (.iadd, 1) by decide +kernel) rfl ?_
        obtain ⟨x6, ex6, h⟩ := hm_bs h
        refine tp_ldI (pc' := 87) (show decode cX10_goesThrough 86 = .ok (.iaload, 1) by decide +kernel) rfl (la_a hL (by decide) rfl) ex6 ?_
        refine tr_ldc (pc' := 89) (v := (1000000 : Int32)) (show decode cX10_goesThrough 87 = .ok (.ldc 180, 2) by decide +kernel) rfl kc_HandRingModel_180 ?_
        rcases hm_is h with ⟨hc, h⟩ | ⟨hc, h⟩
        · refine tr_icmp_ne_f (tgt := 95) (pc' := 92) hc (show decode cX10_goesThrough 89 = .ok (.if_icmp .ne 6, 3) by decide +kernel) (by decide) rfl ?_
          refine tr_goto (tgt := 114) (show decode cX10_goesThrough 92 = .ok (.goto 22, 3) by decide +kernel) rfl ?_
          exact ok_X10_goesThrough_J114 hfr k_X10_goesThrough hk_X10_goesThrough _ _ (f_X10_goesThrough_L53 k_X10_goesThrough v1 v2 e120 n) e120 ih he120 y3 μ1 hL h
        · refine tr_icmp_ne_t (tgt := 95) hc (show decode cX10_goesThrough 89 = .ok (.if_icmp .ne 6, 3) by decide +kernel) (by decide) ?_
          refine tr_aload_n (pc' := 96) (show decode cX10_goesThrough 95 = .ok (.aload_n 0, 1) by decide +kernel) rfl rfl rfl ?_
          refine tr_getR (pc' := 99) fl_HandRingModel_77 (show decode cX10_goesThrough 96 = .ok (.getfield 77, 3) by decide +kernel) rfl (la_o hL (by decide) rfl) (la_r hL 134 rfl) ?_
          refine tr_iload_n (pc' := 100) (show decode cX10_goesThrough 99 = .ok (.iload_n 1, 1) by decide +kernel) rfl rfl rfl ?_
          refine tr_iload_n (pc' := 101) (show decode cX10_goesThrough 100 = .ok (.iload_n 3, 1) by decide +kernel) rfl rfl rfl ?_
          obtain ⟨μ7, eμ7, h⟩ := hm_bs h
          refine tp_sdI (pc' := 102) (show decode cX10_goesThrough 101 = .ok (.iastore, 1) by decide +kernel) rfl (la_a hL (by decide) rfl) eμ7 ?_
          replace hL := hL.same (hm_sd_s eμ7)
          refine tr_aload_n (pc' := 103) (show decode cX10_goesThrough 102 = .ok (.aload_n 0, 1) by decide +kernel) rfl rfl rfl ?_
          refine tr_iload_n (pc' := 104) (show decode cX10_goesThrough 103 = .ok (.iload_n 1, 1) by decide +kernel) rfl rfl rfl ?_
          refine tr_iconst (pc' := 105) (v := (1 : Int32)) (show decode cX10_goesThrough 104 = .ok (.iconst 1, 1) by decide +kernel) rfl (by decide) ?_
          refine tr_iadd (pc' := 106) (show decode cX10_goesThrough 105 = .ok (.iadd, 1) by decide +kernel) rfl ?_
          refine tr_iload_n (pc' := 107) (show decode cX10_goesThrough 106 = .ok (.iload_n 2, 1) by decide +kernel) rfl rfl rfl ?_
          refine tr_iconst (pc' := 108) (v := (1 : Int32)) (show decode cX10_goesThrough 107 = .ok (.iconst 1, 1) by decide +kernel) rfl (by decide) ?_
          refine tr_iload_n (pc' := 109) (show decode cX10_goesThrough 108 = .ok (.iload_n 3, 1) by decide +kernel) rfl rfl rfl ?_
          refine tr_ishl (pc' := 110) (show decode cX10_goesThrough 109 = .ok (.ishl, 1) by decide +kernel) rfl ?_
          refine tr_ior (pc' := 111) (show decode cX10_goesThrough 110 = .ok (.ior, 1) by decide +kernel) rfl ?_
          obtain ⟨μ9, ex8, h⟩ := hm_bs h
          have cx8 := hk_X10_goesThrough (v1 + (1 : Int32)) (v2 ||| ((1 : Int32) <<< (y3 &&& 31))) μ7 hL ex8
          refine tp_callV (pc' := 114) (As := [.int (v1 + (1 : Int32)), .int (v2 ||| ((1 : Int32) <<< (y3 &&& 31)))]) (fr1 := fr - 1) (ci := 10) okm_X10_goesThrough lk_HandRingModel_445 (show decode cX10_goesThrough 111 = .ok (.invokevirtual 445, 3) by decide +kernel) rfl rfl rfl (by decide) (la_o hL (by decide) rfl) rfl rfl (Nat.le_of_ble_eq_true rfl) (by omega) cx8 (st' := []) rfl ?_
          replace hL := cx8.1
          exact ok_X10_goesThrough_J114 hfr k_X10_goesThrough hk_X10_goesThrough _ _ (f_X10_goesThrough_L53 k_X10_goesThrough v1 v2 e120 n) e120 ih he120 y3 μ9 hL h
      · refine tr_if_ne_t (tgt := 114) hc (show decode cX10_goesThrough 66 = .ok (.ifCond .ne 48, 3) by decide +kernel) (by decide) ?_
        exact ok_X10_goesThrough_J114 hfr k_X10_goesThrough hk_X10_goesThrough _ _ (f_X10_goesThrough_L53 k_X10_goesThrough v1 v2 e120 n) e120 ih he120 y3 μ1 hL h
def f_X10_goesThrough (k_X10_goesThrough : Int32 → Int32 → hm_M → Option hm_M) (v1 : Int32) (v2 : Int32) (μ : hm_M) : Option hm_M :=
  Option.bind (f_X10_many μ) fun x2 =>
  (if v1 = x2 then
  Option.bind (hm_ld μ 197 8 (1 : Int32)) fun x11 =>
  Option.bind (hm_ld μ 197 8 (v1 - (1 : Int32))) fun x12 =>
  (if x12 ≤ x11 then
  some μ
  else
  Option.bind (hm_ld μ 197 8 (v1 - (1 : Int32))) fun x13 =>
  Option.bind (hm_ld μ 196 64 ((8 : Int32) * x13)) fun x14 =>
  (if (1000000 : Int32) ≤ x14 then
  some μ
  else
  Option.bind (f_X10_countsRing μ) fun μ16 =>
  some μ16))
  else
  f_X10_goesThrough_L53 k_X10_goesThrough v1 v2 (fun μz10 => some μz10) hm_fu (1 : Int32) μ)
set_option maxRecDepth 100000 in
theorem ok_X10_goesThrough {fr : Nat} (hfr : 5 ≤ fr) {ν : hm_N} {μR : hm_M} (k_X10_goesThrough : Int32 → Int32 → hm_M → Option hm_M) (hk_X10_goesThrough : ∀ {μR : hm_M} (v1 : Int32) (v2 : Int32)  (μ : hm_M), hm_LL ν μ → k_X10_goesThrough v1 v2 μ = some μR → hm_CC (hm_LL ν) m_X10_goesThrough (fr - 1) 0 0 [.ref 179, .int v1, .int v2] μ none μR) (v1 : Int32) (v2 : Int32)  (μ : hm_M) (hL : hm_LL ν μ) (h : f_X10_goesThrough k_X10_goesThrough v1 v2 μ = some μR) : hm_CC (hm_LL ν) m_X10_goesThrough fr 0 0 [.ref 179, .int v1, .int v2] μ none μR := by
  refine hm_enter (lv := [some (.ref 179), some (.int v1), some (.int v2), none]) (by decide) rfl (Nat.le_of_ble_eq_true rfl) ?_
  unfold f_X10_goesThrough at h
  refine tr_iload_n (pc' := 1) (show decode cX10_goesThrough 0 = .ok (.iload_n 1, 1) by decide +kernel) rfl rfl rfl ?_
  refine tr_aload_n (pc' := 2) (show decode cX10_goesThrough 1 = .ok (.aload_n 0, 1) by decide +kernel) rfl rfl rfl ?_
  obtain ⟨x2, ex2, h⟩ := hm_bs h
  have cx2 := ok_X10_many (fr := fr - 1) (ν := ν) (by omega) μ hL ex2
  refine tp_callV (pc' := 5) (As := []) (fr1 := fr - 1) (ci := 10) okm_X10_many lk_HandRingModel_118 (show decode cX10_goesThrough 2 = .ok (.invokevirtual 118, 3) by decide +kernel) rfl rfl rfl (by decide) (la_o hL (by decide) rfl) rfl rfl (Nat.le_of_ble_eq_true rfl) (by omega) cx2 (st' := [.int x2, .int v1]) rfl ?_
  rcases hm_is h with ⟨hc, h⟩ | ⟨hc, h⟩
  · refine tr_icmp_ne_f (tgt := 51) (pc' := 8) hc (show decode cX10_goesThrough 5 = .ok (.if_icmp .ne 46, 3) by decide +kernel) (by decide) rfl ?_
    refine tr_aload_n (pc' := 9) (show decode cX10_goesThrough 8 = .ok (.aload_n 0, 1) by decide +kernel) rfl rfl rfl ?_
    refine tr_getR (pc' := 12) fl_HandRingModel_77 (show decode cX10_goesThrough 9 = .ok (.getfield 77, 3) by decide +kernel) rfl (la_o hL (by decide) rfl) (la_r hL 134 rfl) ?_
    refine tr_iconst (pc' := 13) (v := (1 : Int32)) (show decode cX10_goesThrough 12 = .ok (.iconst 1, 1) by decide +kernel) rfl (by decide) ?_
    obtain ⟨x11, ex11, h⟩ := hm_bs h
    refine tp_ldI (pc' := 14) (show decode cX10_goesThrough 13 = .ok (.iaload, 1) by decide +kernel) rfl (la_a hL (by decide) rfl) ex11 ?_
    refine tr_aload_n (pc' := 15) (show decode cX10_goesThrough 14 = .ok (.aload_n 0, 1) by decide +kernel) rfl rfl rfl ?_
    refine tr_getR (pc' := 18) fl_HandRingModel_77 (show decode cX10_goesThrough 15 = .ok (.getfield 77, 3) by decide +kernel) rfl (la_o hL (by decide) rfl) (la_r hL 134 rfl) ?_
    refine tr_iload_n (pc' := 19) (show decode cX10_goesThrough 18 = .ok (.iload_n 1, 1) by decide +kernel) rfl rfl rfl ?_
    refine tr_iconst (pc' := 20) (v := (1 : Int32)) (show decode cX10_goesThrough 19 = .ok (.iconst 1, 1) by decide +kernel) rfl (by decide) ?_
    refine tr_isub (pc' := 21) (show decode cX10_goesThrough 20 = .ok (.isub, 1) by decide +kernel) rfl ?_
    obtain ⟨x12, ex12, h⟩ := hm_bs h
    refine tp_ldI (pc' := 22) (show decode cX10_goesThrough 21 = .ok (.iaload, 1) by decide +kernel) rfl (la_a hL (by decide) rfl) ex12 ?_
    rcases hm_is h with ⟨hc, h⟩ | ⟨hc, h⟩
    · refine tr_icmp_ge_t (tgt := 50) hc (show decode cX10_goesThrough 22 = .ok (.if_icmp .ge 28, 3) by decide +kernel) (by decide) ?_
      cases h
      exact tr_vret rfl (show decode cX10_goesThrough 50 = .ok (.return_, 1) by decide +kernel) hL
    · refine tr_icmp_ge_f (tgt := 50) (pc' := 25) hc (show decode cX10_goesThrough 22 = .ok (.if_icmp .ge 28, 3) by decide +kernel) (by decide) rfl ?_
      refine tr_aload_n (pc' := 26) (show decode cX10_goesThrough 25 = .ok (.aload_n 0, 1) by decide +kernel) rfl rfl rfl ?_
      refine tr_getR (pc' := 29) fl_HandRingModel_74 (show decode cX10_goesThrough 26 = .ok (.getfield 74, 3) by decide +kernel) rfl (la_o hL (by decide) rfl) (la_r hL 133 rfl) ?_
      refine tr_bipush (pc' := 31) (v := (8 : Int32)) (show decode cX10_goesThrough 29 = .ok (.bipush 8, 2) by decide +kernel) rfl (by decide) ?_
      refine tr_aload_n (pc' := 32) (show decode cX10_goesThrough 31 = .ok (.aload_n 0, 1) by decide +kernel) rfl rfl rfl ?_
      refine tr_getR (pc' := 35) fl_HandRingModel_77 (show decode cX10_goesThrough 32 = .ok (.getfield 77, 3) by decide +kernel) rfl (la_o hL (by decide) rfl) (la_r hL 134 rfl) ?_
      refine tr_iload_n (pc' := 36) (show decode cX10_goesThrough 35 = .ok (.iload_n 1, 1) by decide +kernel) rfl rfl rfl ?_
      refine tr_iconst (pc' := 37) (v := (1 : Int32)) (show decode cX10_goesThrough 36 = .ok (.iconst 1, 1) by decide +kernel) rfl (by decide) ?_
      refine tr_isub (pc' := 38) (show decode cX10_goesThrough 37 = .ok (.isub, 1) by decide +kernel) rfl ?_
      obtain ⟨x13, ex13, h⟩ := hm_bs h
      refine tp_ldI (pc' := 39) (show decode cX10_goesThrough 38 = .ok (.iaload, 1) by decide +kernel) rfl (la_a hL (by decide) rfl) ex13 ?_
      refine tr_imul (pc' := 40) (show decode cX10_goesThrough 39 = .ok (.imul, 1) by decide +kernel) rfl ?_
      obtain ⟨x14, ex14, h⟩ := hm_bs h
      refine tp_ldI (pc' := 41) (show decode cX10_goesThrough 40 = .ok (.iaload, 1) by decide +kernel) rfl (la_a hL (by decide) rfl) ex14 ?_
      refine tr_ldc (pc' := 43) (v := (1000000 : Int32)) (show decode cX10_goesThrough 41 = .ok (.ldc 180, 2) by decide +kernel) rfl kc_HandRingModel_180 ?_
      rcases hm_is h with ⟨hc, h⟩ | ⟨hc, h⟩
      · refine tr_icmp_ge_t (tgt := 50) hc (show decode cX10_goesThrough 43 = .ok (.if_icmp .ge 7, 3) by decide +kernel) (by decide) ?_
        cases h
        exact tr_vret rfl (show decode cX10_goesThrough 50 = .ok (.return_, 1) by decide +kernel) hL
      · refine tr_icmp_ge_f (tgt := 50) (pc' := 46) hc (show decode cX10_goesThrough 43 = .ok (.if_icmp .ge 7, 3) by decide +kernel) (by decide) rfl ?_
        refine tr_aload_n (pc' := 47) (show decode cX10_goesThrough 46 = .ok (.aload_n 0, 1) by decide +kernel) rfl rfl rfl ?_
        obtain ⟨μ16, ex15, h⟩ := hm_bs h
        have cx15 := ok_X10_countsRing (fr := fr - 1) (ν := ν) (by omega) μ hL ex15
        refine tp_callV (pc' := 50) (As := []) (fr1 := fr - 1) (ci := 10) okm_X10_countsRing lk_HandRingModel_442 (show decode cX10_goesThrough 47 = .ok (.invokevirtual 442, 3) by decide +kernel) rfl rfl rfl (by decide) (la_o hL (by decide) rfl) rfl rfl (Nat.le_of_ble_eq_true rfl) (by omega) cx15 (st' := []) rfl ?_
        replace hL := cx15.1
        cases h
        exact tr_vret rfl (show decode cX10_goesThrough 50 = .ok (.return_, 1) by decide +kernel) hL
  · refine tr_icmp_ne_t (tgt := 51) hc (show decode cX10_goesThrough 5 = .ok (.if_icmp .ne 46, 3) by decide +kernel) (by decide) ?_
    refine tr_iconst (pc' := 52) (v := (1 : Int32)) (show decode cX10_goesThrough 51 = .ok (.iconst 1, 1) by decide +kernel) rfl (by decide) ?_
    refine tr_istore_n (pc' := 53) (lv' := [some (.ref 179), some (.int v1), some (.int v2), some (.int (1 : Int32))]) (show decode cX10_goesThrough 52 = .ok (.istore_n 3, 1) by decide +kernel) rfl rfl (Nat.le_of_ble_eq_true rfl) rfl rfl ?_
    refine ok_X10_goesThrough_L53 hfr k_X10_goesThrough hk_X10_goesThrough _ _ _ ?_ _ (1 : Int32) μ hL h
    · intro μz10 hL h
      cases h
      exact tr_vret rfl (show decode cX10_goesThrough 120 = .ok (.return_, 1) by decide +kernel) hL
def K_X10_goesThrough : Nat → (Int32 → Int32 → hm_M → Option hm_M)
  | 0 => fun _ _ _ => none
  | n + 1 => f_X10_goesThrough (K_X10_goesThrough n)
theorem KK_X10_goesThrough {ν : hm_N} : ∀ (n fr : Nat), n + 5 ≤ fr → (∀ {μR : hm_M} (v1 : Int32) (v2 : Int32)  (μ : hm_M), hm_LL ν μ → (K_X10_goesThrough n) v1 v2 μ = some μR → hm_CC (hm_LL ν) m_X10_goesThrough (fr) 0 0 [.ref 179, .int v1, .int v2] μ none μR) := by
  intro n
  induction n with
  | zero =>
    intro fr _
    exact (by intros; rename_i h; exact absurd (show none = some _ from h) (fun z => by cases z))
  | succ n ih =>
    intro fr hf
    have I := @ih (fr - 1) (by omega)
    exact (fun {_} v1 v2  μ hL h => ok_X10_goesThrough (by omega) (K_X10_goesThrough n) I v1 v2  μ hL h)
def F_X10_goesThrough (v1 : Int32) (v2 : Int32) (μ : hm_M) : Option hm_M := (K_X10_goesThrough 40) v1 v2 μ
theorem OK_X10_goesThrough {fr : Nat} (hfr : 45 ≤ fr) {ν : hm_N} {μR : hm_M} (v1 : Int32) (v2 : Int32)  (μ : hm_M) (hL : hm_LL ν μ) (h : F_X10_goesThrough v1 v2 μ = some μR) : hm_CC (hm_LL ν) m_X10_goesThrough fr 0 0 [.ref 179, .int v1, .int v2] μ none μR := (KK_X10_goesThrough 40 fr (by omega)) v1 v2  μ hL h
def f_X10_laysRings_L24 (e43 : hm_M → Option hm_M) : Nat → Int32 → hm_M → Option hm_M
  | 0, _, _ => none
  | n + 1, y1, μ1 => (if (64 : Int32) ≤ y1 then
  e43 μ1
  else
  Option.bind (hm_sd μ1 199 64 y1 (0 : Int32)) fun μ7 =>
  (f_X10_laysRings_L24 e43 n) (y1 + (1 : Int32)) μ7)
theorem ok_X10_laysRings_L24 {fr : Nat} (hfr : 91 ≤ fr) {ν : hm_N} {μR : hm_M}   (e43 : hm_M → Option hm_M)  (he43 : ∀   (μ1 : hm_M), hm_LL ν μ1 → e43 μ1 = some μR → hm_T (hm_LL ν) m_X10_laysRings fr 0 0 none μR 43 [some (.ref 179), none] [] μ1)  : ∀ (n : Nat) (y1 : Int32)  (μ1 : hm_M), hm_LL ν μ1 → f_X10_laysRings_L24 e43 n y1 μ1 = some μR → hm_T (hm_LL ν) m_X10_laysRings fr 0 0 none μR 24 [some (.ref 179), some (.int y1)] [] μ1 := by
  intro n
  induction n with
  | zero =>
    intro y1 μ1 hL h
    unfold f_X10_laysRings_L24 at h
    cases h
  | succ n ih =>
    intro y1 μ1 hL h
    unfold f_X10_laysRings_L24 at h
    refine tr_iload_n (pc' := 25) (show decode cX10_laysRings 24 = .ok (.iload_n 1, 1) by decide +kernel) rfl rfl rfl ?_
    refine tr_bipush (pc' := 27) (v := (64 : Int32)) (show decode cX10_laysRings 25 = .ok (.bipush 64, 2) by decide +kernel) rfl (by decide) ?_
    rcases hm_is h with ⟨hc, h⟩ | ⟨hc, h⟩
    · refine tr_icmp_ge_t (tgt := 43) hc (show decode cX10_laysRings 27 = .ok (.if_icmp .ge 16, 3) by decide +kernel) (by decide) ?_
      refine hm_fgt [true, false] (lv' := [some (.ref 179), none]) rfl ?_
      exact he43 μ1 hL h
    · refine tr_icmp_ge_f (tgt := 43) (pc' := 30) hc (show decode cX10_laysRings 27 = .ok (.if_icmp .ge 16, 3) by decide +kernel) (by decide) rfl ?_
      refine tr_aload_n (pc' := 31) (show decode cX10_laysRings 30 = .ok (.aload_n 0, 1) by decide +kernel) rfl rfl rfl ?_
      refine tr_getR (pc' := 34) fl_HandRingModel_83 (show decode cX10_laysRings 31 = .ok (.getfield 83, 3) by decide +kernel) rfl (la_o hL (by decide) rfl) (la_r hL 136 rfl) ?_
      refine tr_iload_n (pc' := 35) (show decode cX10_laysRings 34 = .ok (.iload_n 1, 1) by decide +kernel) rfl rfl rfl ?_
      refine tr_iconst (pc' := 36) (v := (0 : Int32)) (show decode cX10_laysRings 35 = .ok (.iconst 0, 1) by decide +kernel) rfl (by decide) ?_
      obtain ⟨μ7, eμ7, h⟩ := hm_bs h
      refine tp_sdI (pc' := 37) (show decode cX10_laysRings 36 = .ok (.iastore, 1) by decide +kernel) rfl (la_a hL (by decide) rfl) eμ7 ?_
      replace hL := hL.same (hm_sd_s eμ7)
      refine tr_iinc (pc' := 40) (v := y1 + (1 : Int32)) (lv' := [some (.ref 179), some (.int (y1 + (1 : Int32)))]) (show decode cX10_laysRings 37 = .ok (.iinc 1 1, 3) by decide +kernel) rfl rfl rfl (Nat.le_of_ble_eq_true rfl) rfl rfl ?_
      refine tr_goto (tgt := 24) (show decode cX10_laysRings 40 = .ok (.goto (-16), 3) by decide +kernel) rfl ?_
      exact ih (y1 + (1 : Int32)) μ7 hL h
def f_X10_laysRings (μ : hm_M) : Option hm_M :=
  Option.bind (f_X10_laysCosts (0 : Int32) μ) fun μ3 =>
  Option.bind (hm_pI μ3 179 41 (0 : Int32)) fun μ4 =>
  Option.bind (hm_pI μ4 179 42 (0 : Int32)) fun μ5 =>
  Option.bind (hm_sd μ5 197 8 (0 : Int32) (0 : Int32)) fun μ6 =>
  f_X10_laysRings_L24 (fun μz8 => Option.bind (f_X10_many μz8) fun x9 =>
  (if x9 < (3 : Int32) then
  some μz8
  else
  Option.bind (F_X10_goesThrough (1 : Int32) (1 : Int32) μz8) fun μ11 =>
  some μ11)) hm_fu (0 : Int32) μ6
set_option maxRecDepth 100000 in
theorem ok_X10_laysRings {fr : Nat} (hfr : 91 ≤ fr) {ν : hm_N} {μR : hm_M}    (μ : hm_M) (hL : hm_LL ν μ) (h : f_X10_laysRings μ = some μR) : hm_CC (hm_LL ν) m_X10_laysRings fr 0 0 [.ref 179] μ none μR := by
  refine hm_enter (lv := [some (.ref 179), none]) (by decide) rfl (Nat.le_of_ble_eq_true rfl) ?_
  unfold f_X10_laysRings at h
  refine tr_aload_n (pc' := 1) (show decode cX10_laysRings 0 = .ok (.aload_n 0, 1) by decide +kernel) rfl rfl rfl ?_
  refine tr_iconst (pc' := 2) (v := (0 : Int32)) (show decode cX10_laysRings 1 = .ok (.iconst 0, 1) by decide +kernel) rfl (by decide) ?_
  obtain ⟨μ3, ex2, h⟩ := hm_bs h
  have cx2 := ok_X10_laysCosts (fr := fr - 1) (ν := ν) (by omega) (0 : Int32) μ hL ex2
  refine tp_callV (pc' := 5) (As := [.int (0 : Int32)]) (fr1 := fr - 1) (ci := 10) okm_X10_laysCosts lk_HandRingModel_420 (show decode cX10_laysRings 2 = .ok (.invokevirtual 420, 3) by decide +kernel) rfl rfl rfl (by decide) (la_o hL (by decide) rfl) rfl rfl (Nat.le_of_ble_eq_true rfl) (by omega) cx2 (st' := []) rfl ?_
  replace hL := cx2.1
  refine tr_aload_n (pc' := 6) (show decode cX10_laysRings 5 = .ok (.aload_n 0, 1) by decide +kernel) rfl rfl rfl ?_
  refine tr_iconst (pc' := 7) (v := (0 : Int32)) (show decode cX10_laysRings 6 = .ok (.iconst 0, 1) by decide +kernel) rfl (by decide) ?_
  obtain ⟨μ4, eμ4, h⟩ := hm_bs h
  refine tp_pI (pc' := 10) fl_HandRingModel_433 (show decode cX10_laysRings 7 = .ok (.putfield 433, 3) by decide +kernel) rfl (la_o hL (by decide) rfl) eμ4 ?_
  replace hL := hL.same (hm_pI_s eμ4)
  refine tr_aload_n (pc' := 11) (show decode cX10_laysRings 10 = .ok (.aload_n 0, 1) by decide +kernel) rfl rfl rfl ?_
  refine tr_iconst (pc' := 12) (v := (0 : Int32)) (show decode cX10_laysRings 11 = .ok (.iconst 0, 1) by decide +kernel) rfl (by decide) ?_
  obtain ⟨μ5, eμ5, h⟩ := hm_bs h
  refine tp_pI (pc' := 15) fl_HandRingModel_439 (show decode cX10_laysRings 12 = .ok (.putfield 439, 3) by decide +kernel) rfl (la_o hL (by decide) rfl) eμ5 ?_
  replace hL := hL.same (hm_pI_s eμ5)
  refine tr_aload_n (pc' := 16) (show decode cX10_laysRings 15 = .ok (.aload_n 0, 1) by decide +kernel) rfl rfl rfl ?_
  refine tr_getR (pc' := 19) fl_HandRingModel_77 (show decode cX10_laysRings 16 = .ok (.getfield 77, 3) by decide +kernel) rfl (la_o hL (by decide) rfl) (la_r hL 134 rfl) ?_
  refine tr_iconst (pc' := 20) (v := (0 : Int32)) (show decode cX10_laysRings 19 = .ok (.iconst 0, 1) by decide +kernel) rfl (by decide) ?_
  refine tr_iconst (pc' := 21) (v := (0 : Int32)) (show decode cX10_laysRings 20 = .ok (.iconst 0, 1) by decide +kernel) rfl (by decide) ?_
  obtain ⟨μ6, eμ6, h⟩ := hm_bs h
  refine tp_sdI (pc' := 22) (show decode cX10_laysRings 21 = .ok (.iastore, 1) by decide +kernel) rfl (la_a hL (by decide) rfl) eμ6 ?_
  replace hL := hL.same (hm_sd_s eμ6)
  refine tr_iconst (pc' := 23) (v := (0 : Int32)) (show decode cX10_laysRings 22 = .ok (.iconst 0, 1) by decide +kernel) rfl (by decide) ?_
  refine tr_istore_n (pc' := 24) (lv' := [some (.ref 179), some (.int (0 : Int32))]) (show decode cX10_laysRings 23 = .ok (.istore_n 1, 1) by decide +kernel) rfl rfl (Nat.le_of_ble_eq_true rfl) rfl rfl ?_
  refine ok_X10_laysRings_L24 hfr _ ?_ _ (0 : Int32) μ6 hL h
  · intro μz8 hL h
    refine tr_aload_n (pc' := 44) (show decode cX10_laysRings 43 = .ok (.aload_n 0, 1) by decide +kernel) rfl rfl rfl ?_
    obtain ⟨x9, ex9, h⟩ := hm_bs h
    have cx9 := ok_X10_many (fr := fr - 1) (ν := ν) (by omega) μz8 hL ex9
    refine tp_callV (pc' := 47) (As := []) (fr1 := fr - 1) (ci := 10) okm_X10_many lk_HandRingModel_118 (show decode cX10_laysRings 44 = .ok (.invokevirtual 118, 3) by decide +kernel) rfl rfl rfl (by decide) (la_o hL (by decide) rfl) rfl rfl (Nat.le_of_ble_eq_true rfl) (by omega) cx9 (st' := [.int x9]) rfl ?_
    refine tr_iconst (pc' := 48) (v := (3 : Int32)) (show decode cX10_laysRings 47 = .ok (.iconst 3, 1) by decide +kernel) rfl (by decide) ?_
    rcases hm_is h with ⟨hc, h⟩ | ⟨hc, h⟩
    · refine tr_icmp_lt_t (tgt := 57) hc (show decode cX10_laysRings 48 = .ok (.if_icmp .lt 9, 3) by decide +kernel) (by decide) ?_
      cases h
      exact tr_vret rfl (show decode cX10_laysRings 57 = .ok (.return_, 1) by decide +kernel) hL
    · refine tr_icmp_lt_f (tgt := 57) (pc' := 51) hc (show decode cX10_laysRings 48 = .ok (.if_icmp .lt 9, 3) by decide +kernel) (by decide) rfl ?_
      refine tr_aload_n (pc' := 52) (show decode cX10_laysRings 51 = .ok (.aload_n 0, 1) by decide +kernel) rfl rfl rfl ?_
      refine tr_iconst (pc' := 53) (v := (1 : Int32)) (show decode cX10_laysRings 52 = .ok (.iconst 1, 1) by decide +kernel) rfl (by decide) ?_
      refine tr_iconst (pc' := 54) (v := (1 : Int32)) (show decode cX10_laysRings 53 = .ok (.iconst 1, 1) by decide +kernel) rfl (by decide) ?_
      obtain ⟨μ11, ex10, h⟩ := hm_bs h
      have cx10 := OK_X10_goesThrough (fr := fr - 1) (ν := ν) (by omega) (1 : Int32) (1 : Int32) μz8 hL ex10
      refine tp_callV (pc' := 57) (As := [.int (1 : Int32), .int (1 : Int32)]) (fr1 := fr - 1) (ci := 10) okm_X10_goesThrough lk_HandRingModel_445 (show decode cX10_laysRings 54 = .ok (.invokevirtual 445, 3) by decide +kernel) rfl rfl rfl (by decide) (la_o hL (by decide) rfl) rfl rfl (Nat.le_of_ble_eq_true rfl) (by omega) cx10 (st' := []) rfl ?_
      replace hL := cx10.1
      cases h
      exact tr_vret rfl (show decode cX10_laysRings 57 = .ok (.return_, 1) by decide +kernel) hL
