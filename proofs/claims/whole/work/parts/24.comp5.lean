def f_X9_gaps (μ : hm_M) : Option Int32 :=
  some (μ.1 64 15)
set_option maxRecDepth 100000 in
theorem ok_X9_gaps {fr : Nat} (hfr : 0 ≤ fr) {ν : hm_N} {r : Int32}    (μ : hm_M) (hL : hm_LL ν μ) (h : f_X9_gaps μ = some r) : hm_CC (hm_LL ν) m_X9_gaps fr 0 0 [.ref 64] μ (some (.int r)) μ := by
  refine hm_enter (lv := [some (.ref 64)]) (by decide) rfl (Nat.le_of_ble_eq_true rfl) ?_
  unfold f_X9_gaps at h
  refine tr_aload_n (pc' := 1) (show decode cX9_gaps 0 = .ok (.aload_n 0, 1) by decide +kernel) rfl rfl rfl ?_
  refine tr_getI (pc' := 4) fl_HandRing_169 (show decode cX9_gaps 1 = .ok (.getfield 169, 3) by decide +kernel) rfl (la_o hL (by decide) rfl) ?_
  cases h
  exact tr_iret rfl (show decode cX9_gaps 4 = .ok (.ireturn, 1) by decide +kernel) hL
def f_X9_orders_L86 (w86_3 : Int32) (w86_4 : Int32) (c67 : Int32 → hm_M → Option (Int32 × hm_M)) (e152 : hm_M → Option (Int32 × hm_M)) (e146 : hm_M → Option (Int32 × hm_M)) : Nat → Int32 → hm_M → Option (Int32 × hm_M)
  | 0, _, _ => none
  | n + 1, y5, μ1 => (if w86_4 ≤ y5 then
  e146 μ1
  else
  hm_b2 (f_X2_runOnce w86_3 65 87 μ1) fun x11 μ12 =>
  (if x11 = 0 then
  Option.bind (f_X2_takeBack 65 87 μ12) fun μ14 =>
  Option.bind (hm_pI μ14 64 14 w86_3) fun μ15 =>
  hm_b2 (f_X9_refused (-3 : Int32) μ15) fun x16 μ17 =>
  some (x16, μ17)
  else
  (f_X9_orders_L86 w86_3 w86_4 c67 e152 e146 n) (y5 + (1 : Int32)) μ12))
theorem ok_X9_orders_L86 {fr : Nat} (hfr : 94 ≤ fr) {ν : hm_N} {r : Int32} {μR : hm_M}  (w86_3 : Int32) (w86_4 : Int32) (c67 : Int32 → hm_M → Option (Int32 × hm_M)) (e152 : hm_M → Option (Int32 × hm_M)) (e146 : hm_M → Option (Int32 × hm_M)) (hc67 : ∀ (y3 : Int32)  (μ1 : hm_M), hm_LL ν μ1 → c67 y3 μ1 = some (r, μR) → hm_T (hm_LL ν) m_X9_orders fr 0 0 (some (.int r)) μR 67 [some (.ref 64), none, some (.ref 151), some (.int y3), none, none] [] μ1) (he152 : ∀   (μ1 : hm_M), hm_LL ν μ1 → e152 μ1 = some (r, μR) → hm_T (hm_LL ν) m_X9_orders fr 0 0 (some (.int r)) μR 152 [some (.ref 64), none, none, none, none, none] [] μ1) (he146 : ∀   (μ1 : hm_M), hm_LL ν μ1 → e146 μ1 = some (r, μR) → hm_T (hm_LL ν) m_X9_orders fr 0 0 (some (.int r)) μR 146 [some (.ref 64), none, some (.ref 151), some (.int w86_3), none, none] [] μ1) (hT : ν.1 = some 156) : ∀ (n : Nat) (y5 : Int32)  (μ1 : hm_M), hm_LL ν μ1 → f_X9_orders_L86 w86_3 w86_4 c67 e152 e146 n y5 μ1 = some (r, μR) → hm_T (hm_LL ν) m_X9_orders fr 0 0 (some (.int r)) μR 86 [some (.ref 64), none, some (.ref 151), some (.int w86_3), some (.int w86_4), some (.int y5)] [] μ1 := by
  intro n
  induction n with
  | zero =>
    intro y5 μ1 hL h
    unfold f_X9_orders_L86 at h
    cases h
  | succ n ih =>
    intro y5 μ1 hL h
    unfold f_X9_orders_L86 at h
    refine tr_iload (pc' := 88) (show decode cX9_orders 86 = .ok (.iload 5, 2) by decide +kernel) rfl rfl ?_
    refine tr_iload (pc' := 90) (show decode cX9_orders 88 = .ok (.iload 4, 2) by decide +kernel) rfl rfl ?_
    rcases hm_is h with ⟨hc, h⟩ | ⟨hc, h⟩
    · refine tr_icmp_ge_t (tgt := 146) hc (show decode cX9_orders 90 = .ok (.if_icmp .ge 56, 3) by decide +kernel) (by decide) ?_
      refine hm_fgt [true, false, true, true, false, false] (lv' := [some (.ref 64), none, some (.ref 151), some (.int w86_3), none, none]) rfl ?_
      exact he146 μ1 hL h
    · refine tr_icmp_ge_f (tgt := 146) (pc' := 93) hc (show decode cX9_orders 90 = .ok (.if_icmp .ge 56, 3) by decide +kernel) (by decide) rfl ?_
      refine tr_aload_n (pc' := 94) (show decode cX9_orders 93 = .ok (.aload_n 0, 1) by decide +kernel) rfl rfl rfl ?_
      refine tr_getR (pc' := 97) fl_HandRing_55 (show decode cX9_orders 94 = .ok (.getfield 55, 3) by decide +kernel) rfl (la_o hL (by decide) rfl) (la_r hL 7 rfl) ?_
      refine tr_aload_n (pc' := 98) (show decode cX9_orders 97 = .ok (.aload_n 2, 1) by decide +kernel) rfl rfl rfl ?_
      refine tr_iload_n (pc' := 99) (show decode cX9_orders 98 = .ok (.iload_n 3, 1) by decide +kernel) rfl rfl rfl ?_
      refine tr_aload_n (pc' := 100) (show decode cX9_orders 99 = .ok (.aload_n 0, 1) by decide +kernel) rfl rfl rfl ?_
      refine tr_getR (pc' := 103) fl_HandRing_12 (show decode cX9_orders 100 = .ok (.getfield 12, 3) by decide +kernel) rfl (la_o hL (by decide) rfl) (la_r hL 0 rfl) ?_
      refine tr_aload_n (pc' := 104) (show decode cX9_orders 103 = .ok (.aload_n 0, 1) by decide +kernel) rfl rfl rfl ?_
      refine tr_getR (pc' := 107) fl_HandRing_30 (show decode cX9_orders 104 = .ok (.getfield 30, 3) by decide +kernel) rfl (la_o hL (by decide) rfl) (la_r hL 4 rfl) ?_
      obtain ⟨x11, μ12, ex11, h⟩ := hm_b2s h
      have cx11 := ok_X2_runOnce (fr := fr - 1) (ν := ν) (by omega) w86_3 65 87 (by unfold hm_V; decide) (by unfold hm_S; decide) μ1 hL ex11
      refine tp_callV (pc' := 110) (As := [.ref 151, .int w86_3, .ref 65, .ref 87]) (fr1 := fr - 1) (ci := 2) okm_X2_runOnce lk_HandRing_202 (show decode cX9_orders 107 = .ok (.invokevirtual 202, 3) by decide +kernel) rfl rfl rfl (by decide) (la_o hL (by decide) rfl) rfl rfl (Nat.le_of_ble_eq_true rfl) (by omega) cx11 (st' := [.int x11]) rfl ?_
      replace hL := cx11.1
      rcases hm_is h with ⟨hc, h⟩ | ⟨hc, h⟩
      · refine tr_if_ne_f (tgt := 140) (pc' := 113) hc (show decode cX9_orders 110 = .ok (.ifCond .ne 30, 3) by decide +kernel) (by decide) rfl ?_
        refine tr_aload_n (pc' := 114) (show decode cX9_orders 113 = .ok (.aload_n 0, 1) by decide +kernel) rfl rfl rfl ?_
        refine tr_getR (pc' := 117) fl_HandRing_55 (show decode cX9_orders 114 = .ok (.getfield 55, 3) by decide +kernel) rfl (la_o hL (by decide) rfl) (la_r hL 7 rfl) ?_
        refine tr_aload_n (pc' := 118) (show decode cX9_orders 117 = .ok (.aload_n 0, 1) by decide +kernel) rfl rfl rfl ?_
        refine tr_getR (pc' := 121) fl_HandRing_12 (show decode cX9_orders 118 = .ok (.getfield 12, 3) by decide +kernel) rfl (la_o hL (by decide) rfl) (la_r hL 0 rfl) ?_
        refine tr_aload_n (pc' := 122) (show decode cX9_orders 121 = .ok (.aload_n 0, 1) by decide +kernel) rfl rfl rfl ?_
        refine tr_getR (pc' := 125) fl_HandRing_30 (show decode cX9_orders 122 = .ok (.getfield 30, 3) by decide +kernel) rfl (la_o hL (by decide) rfl) (la_r hL 4 rfl) ?_
        obtain ⟨μ14, ex13, h⟩ := hm_bs h
        have cx13 := ok_X2_takeBack (fr := fr - 1) (ν := ν) (by omega) 65 87 (by unfold hm_V; decide) (by unfold hm_S; decide) μ12 hL ex13
        refine tp_callV (pc' := 128) (As := [.ref 65, .ref 87]) (fr1 := fr - 1) (ci := 2) okm_X2_takeBack lk_HandRing_206 (show decode cX9_orders 125 = .ok (.invokevirtual 206, 3) by decide +kernel) rfl rfl rfl (by decide) (la_o hL (by decide) rfl) rfl rfl (Nat.le_of_ble_eq_true rfl) (by omega) cx13 (st' := []) rfl ?_
        replace hL := cx13.1
        refine tr_aload_n (pc' := 129) (show decode cX9_orders 128 = .ok (.aload_n 0, 1) by decide +kernel) rfl rfl rfl ?_
        refine tr_iload_n (pc' := 130) (show decode cX9_orders 129 = .ok (.iload_n 3, 1) by decide +kernel) rfl rfl rfl ?_
        obtain ⟨μ15, eμ15, h⟩ := hm_bs h
        refine tp_pI (pc' := 133) fl_HandRing_81 (show decode cX9_orders 130 = .ok (.putfield 81, 3) by decide +kernel) rfl (la_o hL (by decide) rfl) eμ15 ?_
        replace hL := hL.same (hm_pI_s eμ15)
        refine tr_aload_n (pc' := 134) (show decode cX9_orders 133 = .ok (.aload_n 0, 1) by decide +kernel) rfl rfl rfl ?_
        refine tr_bipush (pc' := 136) (v := (-3 : Int32)) (show decode cX9_orders 134 = .ok (.bipush (-3), 2) by decide +kernel) rfl (by decide) ?_
        obtain ⟨x16, μ17, ex16, h⟩ := hm_b2s h
        have cx16 := ok_X9_refused (fr := fr - 1) (ν := ν) (by omega) (-3 : Int32) μ15 hL ex16
        refine tp_callV (pc' := 139) (As := [.int (-3 : Int32)]) (fr1 := fr - 1) (ci := 9) okm_X9_refused lk_HandRing_96 (show decode cX9_orders 136 = .ok (.invokevirtual 96, 3) by decide +kernel) rfl rfl rfl (by decide) (la_o hL (by decide) rfl) rfl rfl (Nat.le_of_ble_eq_true rfl) (by omega) cx16 (st' := [.int x16]) rfl ?_
        replace hL := cx16.1
        cases h
        exact tr_iret rfl (show decode cX9_orders 139 = .ok (.ireturn, 1) by decide +kernel) hL
      · refine tr_if_ne_t (tgt := 140) hc (show decode cX9_orders 110 = .ok (.ifCond .ne 30, 3) by decide +kernel) (by decide) ?_
        refine tr_iinc (pc' := 143) (v := y5 + (1 : Int32)) (lv' := [some (.ref 64), none, some (.ref 151), some (.int w86_3), some (.int w86_4), some (.int (y5 + (1 : Int32)))]) (show decode cX9_orders 140 = .ok (.iinc 5 1, 3) by decide +kernel) rfl rfl rfl (Nat.le_of_ble_eq_true rfl) rfl rfl ?_
        refine tr_goto (tgt := 86) (show decode cX9_orders 143 = .ok (.goto (-57), 3) by decide +kernel) rfl ?_
        exact ih (y5 + (1 : Int32)) μ12 hL h
def f_X9_orders_L67 (e152 : hm_M → Option (Int32 × hm_M)) : Nat → Int32 → hm_M → Option (Int32 × hm_M)
  | 0, _, _ => none
  | n + 1, y3, μ1 => (if (μ1.1 151 4) ≤ y3 then
  e152 μ1
  else
  Option.bind (f_X5_clausePart 151 y3 (5 : Int32) μ1) fun x10 =>
  f_X9_orders_L86 y3 x10 (f_X9_orders_L67 e152 n) e152 (fun μz18 => (f_X9_orders_L67 e152 n) (y3 + (1 : Int32)) μz18) hm_fu (0 : Int32) μ1)
theorem ok_X9_orders_L67 {fr : Nat} (hfr : 94 ≤ fr) {ν : hm_N} {r : Int32} {μR : hm_M}   (e152 : hm_M → Option (Int32 × hm_M))  (he152 : ∀   (μ1 : hm_M), hm_LL ν μ1 → e152 μ1 = some (r, μR) → hm_T (hm_LL ν) m_X9_orders fr 0 0 (some (.int r)) μR 152 [some (.ref 64), none, none, none, none, none] [] μ1) (hT : ν.1 = some 156) : ∀ (n : Nat) (y3 : Int32)  (μ1 : hm_M), hm_LL ν μ1 → f_X9_orders_L67 e152 n y3 μ1 = some (r, μR) → hm_T (hm_LL ν) m_X9_orders fr 0 0 (some (.int r)) μR 67 [some (.ref 64), none, some (.ref 151), some (.int y3), none, none] [] μ1 := by
  intro n
  induction n with
  | zero =>
    intro y3 μ1 hL h
    unfold f_X9_orders_L67 at h
    cases h
  | succ n ih =>
    intro y3 μ1 hL h
    unfold f_X9_orders_L67 at h
    refine tr_iload_n (pc' := 68) (show decode cX9_orders 67 = .ok (.iload_n 3, 1) by decide +kernel) rfl rfl rfl ?_
    refine tr_aload_n (pc' := 69) (show decode cX9_orders 68 = .ok (.aload_n 2, 1) by decide +kernel) rfl rfl rfl ?_
    refine tr_getI (pc' := 72) fl_HandRing_196 (show decode cX9_orders 69 = .ok (.getfield 196, 3) by decide +kernel) rfl (la_o hL (by decide) rfl) ?_
    rcases hm_is h with ⟨hc, h⟩ | ⟨hc, h⟩
    · refine tr_icmp_ge_t (tgt := 152) hc (show decode cX9_orders 72 = .ok (.if_icmp .ge 80, 3) by decide +kernel) (by decide) ?_
      refine hm_fgt [true, false, false, false, false, false] (lv' := [some (.ref 64), none, none, none, none, none]) rfl ?_
      exact he152 μ1 hL h
    · refine tr_icmp_ge_f (tgt := 152) (pc' := 75) hc (show decode cX9_orders 72 = .ok (.if_icmp .ge 80, 3) by decide +kernel) (by decide) rfl ?_
      refine tr_aload_n (pc' := 76) (show decode cX9_orders 75 = .ok (.aload_n 2, 1) by decide +kernel) rfl rfl rfl ?_
      refine tr_iload_n (pc' := 77) (show decode cX9_orders 76 = .ok (.iload_n 3, 1) by decide +kernel) rfl rfl rfl ?_
      refine tr_iconst (pc' := 78) (v := (5 : Int32)) (show decode cX9_orders 77 = .ok (.iconst 5, 1) by decide +kernel) rfl (by decide) ?_
      obtain ⟨x10, ex10, h⟩ := hm_bs h
      have cx10 := ok_X5_clausePart (fr := fr - 1) (ν := ν) (by omega) 151 y3 (5 : Int32) (la_pg151 hL) μ1 hL ex10
      refine tp_callV (pc' := 81) (As := [.int y3, .int (5 : Int32)]) (fr1 := fr - 1) (ci := 5) okm_X5_clausePart lk_HandRing_199 (show decode cX9_orders 78 = .ok (.invokevirtual 199, 3) by decide +kernel) rfl rfl rfl (by decide) (la_o hL (by decide) rfl) rfl rfl (Nat.le_of_ble_eq_true rfl) (by omega) cx10 (st' := [.int x10]) rfl ?_
      refine tr_istore (pc' := 83) (lv' := [some (.ref 64), none, some (.ref 151), some (.int y3), some (.int x10), none]) (show decode cX9_orders 81 = .ok (.istore 4, 2) by decide +kernel) rfl (Nat.le_of_ble_eq_true rfl) rfl rfl ?_
      refine tr_iconst (pc' := 84) (v := (0 : Int32)) (show decode cX9_orders 83 = .ok (.iconst 0, 1) by decide +kernel) rfl (by decide) ?_
      refine tr_istore (pc' := 86) (lv' := [some (.ref 64), none, some (.ref 151), some (.int y3), some (.int x10), some (.int (0 : Int32))]) (show decode cX9_orders 84 = .ok (.istore 5, 2) by decide +kernel) rfl (Nat.le_of_ble_eq_true rfl) rfl rfl ?_
      refine ok_X9_orders_L86 hfr y3 x10 (f_X9_orders_L67 e152 n) e152 _ ih he152 ?_ hT _ (0 : Int32) μ1 hL h
      · intro μz18 hL h
        refine tr_iinc (pc' := 149) (v := y3 + (1 : Int32)) (lv' := [some (.ref 64), none, some (.ref 151), some (.int (y3 + (1 : Int32))), none, none]) (show decode cX9_orders 146 = .ok (.iinc 3 1, 3) by decide +kernel) rfl rfl rfl (Nat.le_of_ble_eq_true rfl) rfl rfl ?_
        refine tr_goto (tgt := 67) (show decode cX9_orders 149 = .ok (.goto (-82), 3) by decide +kernel) rfl ?_
        exact ih (y3 + (1 : Int32)) μz18 hL h
def f_X9_orders (μ : hm_M) : Option (Int32 × hm_M) :=
  hm_b2 (f_X9_emptiedTape μ) fun x2 μ3 =>
  Option.bind (hm_pI μ3 64 14 (-1 : Int32)) fun μ4 =>
  hm_b2 (f_X6_readText x2 (0 : Int32) μ4) fun x5 μ6 =>
  Option.bind (hm_pI μ6 64 13 x5) fun μ7 =>
  (if (μ7.1 64 13) = (-1 : Int32) then
  Option.bind (f_X2_begin 65 87 μ7) fun μ9 =>
  f_X9_orders_L67 (fun μz19 => hm_b2 (f_X9_granted (μz19.1 112 6) μz19) fun x20 μ21 =>
  some (x20, μ21)) hm_fu (0 : Int32) μ9
  else
  hm_b2 (f_X9_refused (-6 : Int32) μ7) fun x22 μ23 =>
  some (x22, μ23))
set_option maxRecDepth 100000 in
theorem ok_X9_orders {fr : Nat} (hfr : 94 ≤ fr) {ν : hm_N} {τ : Option Nat} {r : Int32} {μR : hm_M}   (hT : ν.1 = some 156) (μ : hm_M) (hL : hm_LL (τ, ν.2) μ) (h : f_X9_orders μ = some (r, μR)) : hm_CC (hm_LL ν) m_X9_orders fr 0 0 [.ref 64] μ (some (.int r)) μR := by
  refine hm_enter (lv := [some (.ref 64), none, none, none, none, none]) (by decide) rfl (Nat.le_of_ble_eq_true rfl) ?_
  unfold f_X9_orders at h
  refine tr_aload_n (pc' := 1) (show decode cX9_orders 0 = .ok (.aload_n 0, 1) by decide +kernel) rfl rfl rfl ?_
  obtain ⟨x2, μ3, ex2, h⟩ := hm_b2s h
  have cx2 := ok_X9_emptiedTape (fr := fr - 1) (ν := (τ, ν.2)) (by omega) μ hL ex2
  refine tp_callV (pc' := 4) (As := []) (fr1 := fr - 1) (ci := 9) okm_X9_emptiedTape lk_HandRing_165 (show decode cX9_orders 1 = .ok (.invokevirtual 165, 3) by decide +kernel) rfl rfl rfl (by decide) (la_o hL (by decide) rfl) rfl rfl (Nat.le_of_ble_eq_true rfl) (by omega) cx2 (st' := [.int x2]) rfl ?_
  replace hL := cx2.1
  refine tr_istore_n (pc' := 5) (lv' := [some (.ref 64), some (.int x2), none, none, none, none]) (show decode cX9_orders 4 = .ok (.istore_n 1, 1) by decide +kernel) rfl rfl (Nat.le_of_ble_eq_true rfl) rfl rfl ?_
  refine tr_aload_n (pc' := 6) (show decode cX9_orders 5 = .ok (.aload_n 0, 1) by decide +kernel) rfl rfl rfl ?_
  refine tr_iconst (pc' := 7) (v := (-1 : Int32)) (show decode cX9_orders 6 = .ok (.iconst (-1), 1) by decide +kernel) rfl (by decide) ?_
  obtain ⟨μ4, eμ4, h⟩ := hm_bs h
  refine tp_pI (pc' := 10) fl_HandRing_81 (show decode cX9_orders 7 = .ok (.putfield 81, 3) by decide +kernel) rfl (la_o hL (by decide) rfl) eμ4 ?_
  replace hL := hL.same (hm_pI_s eμ4)
  refine tr_aload_n (pc' := 11) (show decode cX9_orders 10 = .ok (.aload_n 0, 1) by decide +kernel) rfl rfl rfl ?_
  refine tr_aload_n (pc' := 12) (show decode cX9_orders 11 = .ok (.aload_n 0, 1) by decide +kernel) rfl rfl rfl ?_
  refine tr_getR (pc' := 15) fl_HandRing_69 (show decode cX9_orders 12 = .ok (.getfield 69, 3) by decide +kernel) rfl (la_o hL (by decide) rfl) (la_r hL 9 rfl) ?_
  refine tr_aload_n (pc' := 16) (show decode cX9_orders 15 = .ok (.aload_n 0, 1) by decide +kernel) rfl rfl rfl ?_
  refine tr_getR (pc' := 19) fl_HandRing_73 (show decode cX9_orders 16 = .ok (.getfield 73, 3) by decide +kernel) rfl (la_o hL (by decide) rfl) (la_r hL 10 rfl) ?_
  refine tr_iload_n (pc' := 20) (show decode cX9_orders 19 = .ok (.iload_n 1, 1) by decide +kernel) rfl rfl rfl ?_
  refine tr_iconst (pc' := 21) (v := (0 : Int32)) (show decode cX9_orders 20 = .ok (.iconst 0, 1) by decide +kernel) rfl (by decide) ?_
  obtain ⟨x5, μ6, ex5, h⟩ := hm_b2s h
  have cx5 := ok_X6_readText (fr := fr - 1) (ν := ν) (by omega) x2 (0 : Int32) hT μ4 hL ex5
  refine tp_callV (pc' := 24) (As := [.ref 156, .int x2, .int (0 : Int32)]) (fr1 := fr - 1) (ci := 6) okm_X6_readText lk_HandRing_175 (show decode cX9_orders 21 = .ok (.invokevirtual 175, 3) by decide +kernel) rfl rfl rfl (by decide) (la_o hL (by decide) rfl) rfl rfl (Nat.le_of_ble_eq_true rfl) (by omega) cx5 (st' := [.int x5, .ref 64]) rfl ?_
  replace hL := cx5.1
  obtain ⟨μ7, eμ7, h⟩ := hm_bs h
  refine tp_pI (pc' := 27) fl_HandRing_77 (show decode cX9_orders 24 = .ok (.putfield 77, 3) by decide +kernel) rfl (la_o hL (by decide) rfl) eμ7 ?_
  replace hL := hL.same (hm_pI_s eμ7)
  refine tr_aload_n (pc' := 28) (show decode cX9_orders 27 = .ok (.aload_n 0, 1) by decide +kernel) rfl rfl rfl ?_
  refine tr_getI (pc' := 31) fl_HandRing_77 (show decode cX9_orders 28 = .ok (.getfield 77, 3) by decide +kernel) rfl (la_o hL (by decide) rfl) ?_
  refine tr_iconst (pc' := 32) (v := (-1 : Int32)) (show decode cX9_orders 31 = .ok (.iconst (-1), 1) by decide +kernel) rfl (by decide) ?_
  rcases hm_is h with ⟨hc, h⟩ | ⟨hc, h⟩
  · refine tr_icmp_eq_t (tgt := 42) hc (show decode cX9_orders 32 = .ok (.if_icmp .eq 10, 3) by decide +kernel) (by decide) ?_
    refine tr_aload_n (pc' := 43) (show decode cX9_orders 42 = .ok (.aload_n 0, 1) by decide +kernel) rfl rfl rfl ?_
    refine tr_getR (pc' := 46) fl_HandRing_69 (show decode cX9_orders 43 = .ok (.getfield 69, 3) by decide +kernel) rfl (la_o hL (by decide) rfl) (la_r hL 9 rfl) ?_
    refine tr_getR (pc' := 49) fl_HandRing_179 (show decode cX9_orders 46 = .ok (.getfield 179, 3) by decide +kernel) rfl (la_o hL (by decide) rfl) (la_r hL 95 rfl) ?_
    refine tr_astore_n (pc' := 50) (lv' := [some (.ref 64), some (.int x2), some (.ref 151), none, none, none]) (show decode cX9_orders 49 = .ok (.astore_n 2, 1) by decide +kernel) rfl rfl (Nat.le_of_ble_eq_true rfl) rfl rfl ?_
    refine tr_aload_n (pc' := 51) (show decode cX9_orders 50 = .ok (.aload_n 0, 1) by decide +kernel) rfl rfl rfl ?_
    refine tr_getR (pc' := 54) fl_HandRing_55 (show decode cX9_orders 51 = .ok (.getfield 55, 3) by decide +kernel) rfl (la_o hL (by decide) rfl) (la_r hL 7 rfl) ?_
    refine tr_aload_n (pc' := 55) (show decode cX9_orders 54 = .ok (.aload_n 0, 1) by decide +kernel) rfl rfl rfl ?_
    refine tr_getR (pc' := 58) fl_HandRing_12 (show decode cX9_orders 55 = .ok (.getfield 12, 3) by decide +kernel) rfl (la_o hL (by decide) rfl) (la_r hL 0 rfl) ?_
    refine tr_aload_n (pc' := 59) (show decode cX9_orders 58 = .ok (.aload_n 0, 1) by decide +kernel) rfl rfl rfl ?_
    refine tr_getR (pc' := 62) fl_HandRing_30 (show decode cX9_orders 59 = .ok (.getfield 30, 3) by decide +kernel) rfl (la_o hL (by decide) rfl) (la_r hL 4 rfl) ?_
    obtain ⟨μ9, ex8, h⟩ := hm_bs h
    have cx8 := ok_X2_begin (fr := fr - 1) (ν := ν) (by omega) 65 87 (by unfold hm_V; decide) (by unfold hm_S; decide) μ7 hL ex8
    refine tp_callV (pc' := 65) (As := [.ref 65, .ref 87]) (fr1 := fr - 1) (ci := 2) okm_X2_begin lk_HandRing_192 (show decode cX9_orders 62 = .ok (.invokevirtual 192, 3) by decide +kernel) rfl rfl rfl (by decide) (la_o hL (by decide) rfl) rfl rfl (Nat.le_of_ble_eq_true rfl) (by omega) cx8 (st' := []) rfl ?_
    replace hL := cx8.1
    refine tr_iconst (pc' := 66) (v := (0 : Int32)) (show decode cX9_orders 65 = .ok (.iconst 0, 1) by decide +kernel) rfl (by decide) ?_
    refine tr_istore_n (pc' := 67) (lv' := [some (.ref 64), some (.int x2), some (.ref 151), some (.int (0 : Int32)), none, none]) (show decode cX9_orders 66 = .ok (.istore_n 3, 1) by decide +kernel) rfl rfl (Nat.le_of_ble_eq_true rfl) rfl rfl ?_
    refine hm_fgt [true, false, true, true, false, false] (lv' := [some (.ref 64), none, some (.ref 151), some (.int (0 : Int32)), none, none]) rfl ?_
    refine ok_X9_orders_L67 hfr _ ?_ hT _ (0 : Int32) μ9 hL h
    · intro μz19 hL h
      refine tr_aload_n (pc' := 153) (show decode cX9_orders 152 = .ok (.aload_n 0, 1) by decide +kernel) rfl rfl rfl ?_
      refine tr_aload_n (pc' := 154) (show decode cX9_orders 153 = .ok (.aload_n 0, 1) by decide +kernel) rfl rfl rfl ?_
      refine tr_getR (pc' := 157) fl_HandRing_55 (show decode cX9_orders 154 = .ok (.getfield 55, 3) by decide +kernel) rfl (la_o hL (by decide) rfl) (la_r hL 7 rfl) ?_
      refine tr_getI (pc' := 160) fl_HandRing_209 (show decode cX9_orders 157 = .ok (.getfield 209, 3) by decide +kernel) rfl (la_o hL (by decide) rfl) ?_
      obtain ⟨x20, μ21, ex20, h⟩ := hm_b2s h
      have cx20 := ok_X9_granted (fr := fr - 1) (ν := ν) (by omega) (μz19.1 112 6) μz19 hL ex20
      refine tp_callV (pc' := 163) (As := [.int (μz19.1 112 6)]) (fr1 := fr - 1) (ci := 9) okm_X9_granted lk_HandRing_110 (show decode cX9_orders 160 = .ok (.invokevirtual 110, 3) by decide +kernel) rfl rfl rfl (by decide) (la_o hL (by decide) rfl) rfl rfl (Nat.le_of_ble_eq_true rfl) (by omega) cx20 (st' := [.int x20]) rfl ?_
      replace hL := cx20.1
      cases h
      exact tr_iret rfl (show decode cX9_orders 163 = .ok (.ireturn, 1) by decide +kernel) hL
  · refine tr_icmp_eq_f (tgt := 42) (pc' := 35) hc (show decode cX9_orders 32 = .ok (.if_icmp .eq 10, 3) by decide +kernel) (by decide) rfl ?_
    refine tr_aload_n (pc' := 36) (show decode cX9_orders 35 = .ok (.aload_n 0, 1) by decide +kernel) rfl rfl rfl ?_
    refine tr_bipush (pc' := 38) (v := (-6 : Int32)) (show decode cX9_orders 36 = .ok (.bipush (-6), 2) by decide +kernel) rfl (by decide) ?_
    obtain ⟨x22, μ23, ex22, h⟩ := hm_b2s h
    have cx22 := ok_X9_refused (fr := fr - 1) (ν := ν) (by omega) (-6 : Int32) μ7 hL ex22
    refine tp_callV (pc' := 41) (As := [.int (-6 : Int32)]) (fr1 := fr - 1) (ci := 9) okm_X9_refused lk_HandRing_96 (show decode cX9_orders 38 = .ok (.invokevirtual 96, 3) by decide +kernel) rfl rfl rfl (by decide) (la_o hL (by decide) rfl) rfl rfl (Nat.le_of_ble_eq_true rfl) (by omega) cx22 (st' := [.int x22]) rfl ?_
    replace hL := cx22.1
    cases h
    exact tr_iret rfl (show decode cX9_orders 41 = .ok (.ireturn, 1) by decide +kernel) hL
def f_X9_fault (μ : hm_M) : Option Int32 :=
  some (μ.1 64 13)
set_option maxRecDepth 100000 in
theorem ok_X9_fault {fr : Nat} (hfr : 0 ≤ fr) {ν : hm_N} {r : Int32}    (μ : hm_M) (hL : hm_LL ν μ) (h : f_X9_fault μ = some r) : hm_CC (hm_LL ν) m_X9_fault fr 0 0 [.ref 64] μ (some (.int r)) μ := by
  refine hm_enter (lv := [some (.ref 64)]) (by decide) rfl (Nat.le_of_ble_eq_true rfl) ?_
  unfold f_X9_fault at h
  refine tr_aload_n (pc' := 1) (show decode cX9_fault 0 = .ok (.aload_n 0, 1) by decide +kernel) rfl rfl rfl ?_
  refine tr_getI (pc' := 4) fl_HandRing_77 (show decode cX9_fault 1 = .ok (.getfield 77, 3) by decide +kernel) rfl (la_o hL (by decide) rfl) ?_
  cases h
  exact tr_iret rfl (show decode cX9_fault 4 = .ok (.ireturn, 1) by decide +kernel) hL
def f_X9_stopped (μ : hm_M) : Option Int32 :=
  some (μ.1 64 14)
set_option maxRecDepth 100000 in
theorem ok_X9_stopped {fr : Nat} (hfr : 0 ≤ fr) {ν : hm_N} {r : Int32}    (μ : hm_M) (hL : hm_LL ν μ) (h : f_X9_stopped μ = some r) : hm_CC (hm_LL ν) m_X9_stopped fr 0 0 [.ref 64] μ (some (.int r)) μ := by
  refine hm_enter (lv := [some (.ref 64)]) (by decide) rfl (Nat.le_of_ble_eq_true rfl) ?_
  unfold f_X9_stopped at h
  refine tr_aload_n (pc' := 1) (show decode cX9_stopped 0 = .ok (.aload_n 0, 1) by decide +kernel) rfl rfl rfl ?_
  refine tr_getI (pc' := 4) fl_HandRing_81 (show decode cX9_stopped 1 = .ok (.getfield 81, 3) by decide +kernel) rfl (la_o hL (by decide) rfl) ?_
  cases h
  exact tr_iret rfl (show decode cX9_stopped 4 = .ok (.ireturn, 1) by decide +kernel) hL
def f_X9_force_J23 (v1 : Int32) (μ1 : hm_M) : Option (Int32 × hm_M) :=
  Option.bind (hm_pI μ1 65 8 v1) fun μ2 =>
  hm_b2 (f_X9_granted (μ1.1 65 8) μ2) fun x3 μ4 =>
  some (x3, μ4)
theorem ok_X9_force_J23 {fr : Nat} (hfr : 1 ≤ fr) {ν : hm_N} {r : Int32} {μR : hm_M}  (v1 : Int32)     (μ1 : hm_M) (hL : hm_LL ν μ1) (h : f_X9_force_J23 v1 μ1 = some (r, μR)) : hm_T (hm_LL ν) m_X9_force fr 0 0 (some (.int r)) μR 23 [some (.ref 64), some (.int v1), none] [] μ1 := by
  unfold f_X9_force_J23 at h
  refine tr_aload_n (pc' := 24) (show decode cX9_force 23 = .ok (.aload_n 0, 1) by decide +kernel) rfl rfl rfl ?_
  refine tr_getR (pc' := 27) fl_HandRing_12 (show decode cX9_force 24 = .ok (.getfield 12, 3) by decide +kernel) rfl (la_o hL (by decide) rfl) (la_r hL 0 rfl) ?_
  refine tr_getI (pc' := 30) fl_HandRing_215 (show decode cX9_force 27 = .ok (.getfield 215, 3) by decide +kernel) rfl (la_o hL (by decide) rfl) ?_
  refine tr_istore_n (pc' := 31) (lv' := [some (.ref 64), some (.int v1), some (.int (μ1.1 65 8))]) (show decode cX9_force 30 = .ok (.istore_n 2, 1) by decide +kernel) rfl rfl (Nat.le_of_ble_eq_true rfl) rfl rfl ?_
  refine tr_aload_n (pc' := 32) (show decode cX9_force 31 = .ok (.aload_n 0, 1) by decide +kernel) rfl rfl rfl ?_
  refine tr_getR (pc' := 35) fl_HandRing_12 (show decode cX9_force 32 = .ok (.getfield 12, 3) by decide +kernel) rfl (la_o hL (by decide) rfl) (la_r hL 0 rfl) ?_
  refine tr_iload_n (pc' := 36) (show decode cX9_force 35 = .ok (.iload_n 1, 1) by decide +kernel) rfl rfl rfl ?_
  obtain ⟨μ2, eμ2, h⟩ := hm_bs h
  refine tp_pI (pc' := 39) fl_HandRing_215 (show decode cX9_force 36 = .ok (.putfield 215, 3) by decide +kernel) rfl (la_o hL (by decide) rfl) eμ2 ?_
  replace hL := hL.same (hm_pI_s eμ2)
  refine tr_aload_n (pc' := 40) (show decode cX9_force 39 = .ok (.aload_n 0, 1) by decide +kernel) rfl rfl rfl ?_
  refine tr_iload_n (pc' := 41) (show decode cX9_force 40 = .ok (.iload_n 2, 1) by decide +kernel) rfl rfl rfl ?_
  obtain ⟨x3, μ4, ex3, h⟩ := hm_b2s h
  have cx3 := ok_X9_granted (fr := fr - 1) (ν := ν) (by omega) (μ1.1 65 8) μ2 hL ex3
  refine tp_callV (pc' := 44) (As := [.int (μ1.1 65 8)]) (fr1 := fr - 1) (ci := 9) okm_X9_granted lk_HandRing_110 (show decode cX9_force 41 = .ok (.invokevirtual 110, 3) by decide +kernel) rfl rfl rfl (by decide) (la_o hL (by decide) rfl) rfl rfl (Nat.le_of_ble_eq_true rfl) (by omega) cx3 (st' := [.int x3]) rfl ?_
  replace hL := cx3.1
  cases h
  exact tr_iret rfl (show decode cX9_force 44 = .ok (.ireturn, 1) by decide +kernel) hL
def f_X9_force (v1 : Int32) (μ : hm_M) : Option (Int32 × hm_M) :=
  (if v1 = (-1 : Int32) then
  f_X9_force_J23 v1 μ
  else
  Option.bind (f_X8_hasLaw 65 v1 μ) fun x5 =>
  (if x5 = 0 then
  hm_b2 (f_X9_refused (-2 : Int32) μ) fun x6 μ7 =>
  some (x6, μ7)
  else
  f_X9_force_J23 v1 μ))
set_option maxRecDepth 100000 in
theorem ok_X9_force {fr : Nat} (hfr : 1 ≤ fr) {ν : hm_N} {r : Int32} {μR : hm_M}  (v1 : Int32)  (μ : hm_M) (hL : hm_LL ν μ) (h : f_X9_force v1 μ = some (r, μR)) : hm_CC (hm_LL ν) m_X9_force fr 0 0 [.ref 64, .int v1] μ (some (.int r)) μR := by
  refine hm_enter (lv := [some (.ref 64), some (.int v1), none]) (by decide) rfl (Nat.le_of_ble_eq_true rfl) ?_
  unfold f_X9_force at h
  refine tr_iload_n (pc' := 1) (show decode cX9_force 0 = .ok (.iload_n 1, 1) by decide +kernel) rfl rfl rfl ?_
  refine tr_iconst (pc' := 2) (v := (-1 : Int32)) (show decode cX9_force 1 = .ok (.iconst (-1), 1) by decide +kernel) rfl (by decide) ?_
  rcases hm_is h with ⟨hc, h⟩ | ⟨hc, h⟩
  · refine tr_icmp_eq_t (tgt := 23) hc (show decode cX9_force 2 = .ok (.if_icmp .eq 21, 3) by decide +kernel) (by decide) ?_
    exact ok_X9_force_J23 hfr _ μ hL h
  · refine tr_icmp_eq_f (tgt := 23) (pc' := 5) hc (show decode cX9_force 2 = .ok (.if_icmp .eq 21, 3) by decide +kernel) (by decide) rfl ?_
    refine tr_aload_n (pc' := 6) (show decode cX9_force 5 = .ok (.aload_n 0, 1) by decide +kernel) rfl rfl rfl ?_
    refine tr_getR (pc' := 9) fl_HandRing_12 (show decode cX9_force 6 = .ok (.getfield 12, 3) by decide +kernel) rfl (la_o hL (by decide) rfl) (la_r hL 0 rfl) ?_
    refine tr_iload_n (pc' := 10) (show decode cX9_force 9 = .ok (.iload_n 1, 1) by decide +kernel) rfl rfl rfl ?_
    obtain ⟨x5, ex5, h⟩ := hm_bs h
    have cx5 := ok_X8_hasLaw (fr := fr - 1) (ν := ν) (by omega) 65 v1 (by unfold hm_V; decide) μ hL ex5
    refine tp_callV (pc' := 13) (As := [.int v1]) (fr1 := fr - 1) (ci := 8) okm_X8_hasLaw lk_HandRing_212 (show decode cX9_force 10 = .ok (.invokevirtual 212, 3) by decide +kernel) rfl rfl rfl (by decide) (la_o hL (by decide) rfl) rfl rfl (Nat.le_of_ble_eq_true rfl) (by omega) cx5 (st' := [.int x5]) rfl ?_
    rcases hm_is h with ⟨hc, h⟩ | ⟨hc, h⟩
    · refine tr_if_ne_f (tgt := 23) (pc' := 16) hc (show decode cX9_force 13 = .ok (.ifCond .ne 10, 3) by decide +kernel) (by decide) rfl ?_
      refine tr_aload_n (pc' := 17) (show decode cX9_force 16 = .ok (.aload_n 0, 1) by decide +kernel) rfl rfl rfl ?_
      refine tr_bipush (pc' := 19) (v := (-2 : Int32)) (show decode cX9_force 17 = .ok (.bipush (-2), 2) by decide +kernel) rfl (by decide) ?_
      obtain ⟨x6, μ7, ex6, h⟩ := hm_b2s h
      have cx6 := ok_X9_refused (fr := fr - 1) (ν := ν) (by omega) (-2 : Int32) μ hL ex6
      refine tp_callV (pc' := 22) (As := [.int (-2 : Int32)]) (fr1 := fr - 1) (ci := 9) okm_X9_refused lk_HandRing_96 (show decode cX9_force 19 = .ok (.invokevirtual 96, 3) by decide +kernel) rfl rfl rfl (by decide) (la_o hL (by decide) rfl) rfl rfl (Nat.le_of_ble_eq_true rfl) (by omega) cx6 (st' := [.int x6]) rfl ?_
      replace hL := cx6.1
      cases h
      exact tr_iret rfl (show decode cX9_force 22 = .ok (.ireturn, 1) by decide +kernel) hL
    · refine tr_if_ne_t (tgt := 23) hc (show decode cX9_force 13 = .ok (.ifCond .ne 10, 3) by decide +kernel) (by decide) ?_
      exact ok_X9_force_J23 hfr _ μ hL h
def f_X9_told (v1 : Int32) (μ : hm_M) : Option (Int32 × hm_M) :=
  (if 0 ≤ v1 then
  hm_b2 (f_X9_granted v1 μ) fun x2 μ3 =>
  some (x2, μ3)
  else
  hm_b2 (f_X9_refused v1 μ) fun x4 μ5 =>
  some (x4, μ5))
set_option maxRecDepth 100000 in
theorem ok_X9_told {fr : Nat} (hfr : 1 ≤ fr) {ν : hm_N} {r : Int32} {μR : hm_M}  (v1 : Int32)  (μ : hm_M) (hL : hm_LL ν μ) (h : f_X9_told v1 μ = some (r, μR)) : hm_CC (hm_LL ν) m_X9_told fr 0 0 [.ref 64, .int v1] μ (some (.int r)) μR := by
  refine hm_enter (lv := [some (.ref 64), some (.int v1)]) (by decide) rfl (Nat.le_of_ble_eq_true rfl) ?_
  unfold f_X9_told at h
  refine tr_iload_n (pc' := 1) (show decode cX9_told 0 = .ok (.iload_n 1, 1) by decide +kernel) rfl rfl rfl ?_
  rcases hm_is h with ⟨hc, h⟩ | ⟨hc, h⟩
  · refine tr_if_ge_t (tgt := 12) hc (show decode cX9_told 1 = .ok (.ifCond .ge 11, 3) by decide +kernel) (by decide) ?_
    refine tr_aload_n (pc' := 13) (show decode cX9_told 12 = .ok (.aload_n 0, 1) by decide +kernel) rfl rfl rfl ?_
    refine tr_iload_n (pc' := 14) (show decode cX9_told 13 = .ok (.iload_n 1, 1) by decide +kernel) rfl rfl rfl ?_
    obtain ⟨x2, μ3, ex2, h⟩ := hm_b2s h
    have cx2 := ok_X9_granted (fr := fr - 1) (ν := ν) (by omega) v1 μ hL ex2
    refine tp_callV (pc' := 17) (As := [.int v1]) (fr1 := fr - 1) (ci := 9) okm_X9_granted lk_HandRing_110 (show decode cX9_told 14 = .ok (.invokevirtual 110, 3) by decide +kernel) rfl rfl rfl (by decide) (la_o hL (by decide) rfl) rfl rfl (Nat.le_of_ble_eq_true rfl) (by omega) cx2 (st' := [.int x2]) rfl ?_
    replace hL := cx2.1
    cases h
    exact tr_iret rfl (show decode cX9_told 17 = .ok (.ireturn, 1) by decide +kernel) hL
  · refine tr_if_ge_f (tgt := 12) (pc' := 4) hc (show decode cX9_told 1 = .ok (.ifCond .ge 11, 3) by decide +kernel) (by decide) rfl ?_
    refine tr_aload_n (pc' := 5) (show decode cX9_told 4 = .ok (.aload_n 0, 1) by decide +kernel) rfl rfl rfl ?_
    refine tr_iload_n (pc' := 6) (show decode cX9_told 5 = .ok (.iload_n 1, 1) by decide +kernel) rfl rfl rfl ?_
    obtain ⟨x4, μ5, ex4, h⟩ := hm_b2s h
    have cx4 := ok_X9_refused (fr := fr - 1) (ν := ν) (by omega) v1 μ hL ex4
    refine tp_callV (pc' := 9) (As := [.int v1]) (fr1 := fr - 1) (ci := 9) okm_X9_refused lk_HandRing_96 (show decode cX9_told 6 = .ok (.invokevirtual 96, 3) by decide +kernel) rfl rfl rfl (by decide) (la_o hL (by decide) rfl) rfl rfl (Nat.le_of_ble_eq_true rfl) (by omega) cx4 (st' := [.int x4]) rfl ?_
    replace hL := cx4.1
    refine tr_goto (tgt := 17) (show decode cX9_told 9 = .ok (.goto 8, 3) by decide +kernel) rfl ?_
    cases h
    exact tr_iret rfl (show decode cX9_told 17 = .ok (.ireturn, 1) by decide +kernel) hL
def f_X9_take (v1 : Int32) (v2 : Int32) (μ : hm_M) : Option (Int32 × hm_M) :=
  hm_b2 (f_X1_doNoted 87 65 (0 : Int32) v1 v2 μ) fun x2 μ3 =>
  hm_b2 (f_X9_told x2 μ3) fun x4 μ5 =>
  some (x4, μ5)
set_option maxRecDepth 100000 in
theorem ok_X9_take {fr : Nat} (hfr : 7 ≤ fr) {ν : hm_N} {r : Int32} {μR : hm_M}  (v1 : Int32) (v2 : Int32)  (μ : hm_M) (hL : hm_LL ν μ) (h : f_X9_take v1 v2 μ = some (r, μR)) : hm_CC (hm_LL ν) m_X9_take fr 0 0 [.ref 64, .int v1, .int v2] μ (some (.int r)) μR := by
  refine hm_enter (lv := [some (.ref 64), some (.int v1), some (.int v2)]) (by decide) rfl (Nat.le_of_ble_eq_true rfl) ?_
  unfold f_X9_take at h
  refine tr_aload_n (pc' := 1) (show decode cX9_take 0 = .ok (.aload_n 0, 1) by decide +kernel) rfl rfl rfl ?_
  refine tr_aload_n (pc' := 2) (show decode cX9_take 1 = .ok (.aload_n 0, 1) by decide +kernel) rfl rfl rfl ?_
  refine tr_getR (pc' := 5) fl_HandRing_46 (show decode cX9_take 2 = .ok (.getfield 46, 3) by decide +kernel) rfl (la_o hL (by decide) rfl) (la_r hL 6 rfl) ?_
  refine tr_aload_n (pc' := 6) (show decode cX9_take 5 = .ok (.aload_n 0, 1) by decide +kernel) rfl rfl rfl ?_
  refine tr_getR (pc' := 9) fl_HandRing_30 (show decode cX9_take 6 = .ok (.getfield 30, 3) by decide +kernel) rfl (la_o hL (by decide) rfl) (la_r hL 4 rfl) ?_
  refine tr_aload_n (pc' := 10) (show decode cX9_take 9 = .ok (.aload_n 0, 1) by decide +kernel) rfl rfl rfl ?_
  refine tr_getR (pc' := 13) fl_HandRing_12 (show decode cX9_take 10 = .ok (.getfield 12, 3) by decide +kernel) rfl (la_o hL (by decide) rfl) (la_r hL 0 rfl) ?_
  refine tr_iconst (pc' := 14) (v := (0 : Int32)) (show decode cX9_take 13 = .ok (.iconst 0, 1) by decide +kernel) rfl (by decide) ?_
  refine tr_iload_n (pc' := 15) (show decode cX9_take 14 = .ok (.iload_n 1, 1) by decide +kernel) rfl rfl rfl ?_
  refine tr_iload_n (pc' := 16) (show decode cX9_take 15 = .ok (.iload_n 2, 1) by decide +kernel) rfl rfl rfl ?_
  obtain ⟨x2, μ3, ex2, h⟩ := hm_b2s h
  have cx2 := ok_X1_doNoted (fr := fr - 1) (ν := ν) (by omega) 87 65 (0 : Int32) v1 v2 (by unfold hm_S; decide) (by unfold hm_V; decide) μ hL ex2
  refine tp_callV (pc' := 19) (As := [.ref 87, .ref 65, .int (0 : Int32), .int v1, .int v2]) (fr1 := fr - 1) (ci := 1) okm_X1_doNoted lk_HandRing_218 (show decode cX9_take 16 = .ok (.invokevirtual 218, 3) by decide +kernel) rfl rfl rfl (by decide) (la_o hL (by decide) rfl) rfl rfl (Nat.le_of_ble_eq_true rfl) (by omega) cx2 (st' := [.int x2, .ref 64]) rfl ?_
  replace hL := cx2.1
  obtain ⟨x4, μ5, ex4, h⟩ := hm_b2s h
  have cx4 := ok_X9_told (fr := fr - 1) (ν := ν) (by omega) x2 μ3 hL ex4
  refine tp_callV (pc' := 22) (As := [.int x2]) (fr1 := fr - 1) (ci := 9) okm_X9_told lk_HandRing_222 (show decode cX9_take 19 = .ok (.invokevirtual 222, 3) by decide +kernel) rfl rfl rfl (by decide) (la_o hL (by decide) rfl) rfl rfl (Nat.le_of_ble_eq_true rfl) (by omega) cx4 (st' := [.int x4]) rfl ?_
  replace hL := cx4.1
  cases h
  exact tr_iret rfl (show decode cX9_take 22 = .ok (.ireturn, 1) by decide +kernel) hL
def f_X9_loose (v1 : Int32) (v2 : Int32) (μ : hm_M) : Option (Int32 × hm_M) :=
  hm_b2 (f_X1_doNoted 87 65 (1 : Int32) v1 v2 μ) fun x2 μ3 =>
  hm_b2 (f_X9_told x2 μ3) fun x4 μ5 =>
  some (x4, μ5)
set_option maxRecDepth 100000 in
theorem ok_X9_loose {fr : Nat} (hfr : 7 ≤ fr) {ν : hm_N} {r : Int32} {μR : hm_M}  (v1 : Int32) (v2 : Int32)  (μ : hm_M) (hL : hm_LL ν μ) (h : f_X9_loose v1 v2 μ = some (r, μR)) : hm_CC (hm_LL ν) m_X9_loose fr 0 0 [.ref 64, .int v1, .int v2] μ (some (.int r)) μR := by
  refine hm_enter (lv := [some (.ref 64), some (.int v1), some (.int v2)]) (by decide) rfl (Nat.le_of_ble_eq_true rfl) ?_
  unfold f_X9_loose at h
  refine tr_aload_n (pc' := 1) (show decode cX9_loose 0 = .ok (.aload_n 0, 1) by decide +kernel) rfl rfl rfl ?_
  refine tr_aload_n (pc' := 2) (show decode cX9_loose 1 = .ok (.aload_n 0, 1) by decide +kernel) rfl rfl rfl ?_
  refine tr_getR (pc' := 5) fl_HandRing_46 (show decode cX9_loose 2 = .ok (.getfield 46, 3) by decide +kernel) rfl (la_o hL (by decide) rfl) (la_r hL 6 rfl) ?_
  refine tr_aload_n (pc' := 6) (show decode cX9_loose 5 = .ok (.aload_n 0, 1) by decide +kernel) rfl rfl rfl ?_
  refine tr_getR (pc' := 9) fl_HandRing_30 (show decode cX9_loose 6 = .ok (.getfield 30, 3) by decide +kernel) rfl (la_o hL (by decide) rfl) (la_r hL 4 rfl) ?_
  refine tr_aload_n (pc' := 10) (show decode cX9_loose 9 = .ok (.aload_n 0, 1) by decide +kernel) rfl rfl rfl ?_
  refine tr_getR (pc' := 13) fl_HandRing_12 (show decode cX9_loose 10 = .ok (.getfield 12, 3) by decide +kernel) rfl (la_o hL (by decide) rfl) (la_r hL 0 rfl) ?_
  refine tr_iconst (pc' := 14) (v := (1 : Int32)) (show decode cX9_loose 13 = .ok (.iconst 1, 1) by decide +kernel) rfl (by decide) ?_
  refine tr_iload_n (pc' := 15) (show decode cX9_loose 14 = .ok (.iload_n 1, 1) by decide +kernel) rfl rfl rfl ?_
  refine tr_iload_n (pc' := 16) (show decode cX9_loose 15 = .ok (.iload_n 2, 1) by decide +kernel) rfl rfl rfl ?_
  obtain ⟨x2, μ3, ex2, h⟩ := hm_b2s h
  have cx2 := ok_X1_doNoted (fr := fr - 1) (ν := ν) (by omega) 87 65 (1 : Int32) v1 v2 (by unfold hm_S; decide) (by unfold hm_V; decide) μ hL ex2
  refine tp_callV (pc' := 19) (As := [.ref 87, .ref 65, .int (1 : Int32), .int v1, .int v2]) (fr1 := fr - 1) (ci := 1) okm_X1_doNoted lk_HandRing_218 (show decode cX9_loose 16 = .ok (.invokevirtual 218, 3) by decide +kernel) rfl rfl rfl (by decide) (la_o hL (by decide) rfl) rfl rfl (Nat.le_of_ble_eq_true rfl) (by omega) cx2 (st' := [.int x2, .ref 64]) rfl ?_
  replace hL := cx2.1
  obtain ⟨x4, μ5, ex4, h⟩ := hm_b2s h
  have cx4 := ok_X9_told (fr := fr - 1) (ν := ν) (by omega) x2 μ3 hL ex4
  refine tp_callV (pc' := 22) (As := [.int x2]) (fr1 := fr - 1) (ci := 9) okm_X9_told lk_HandRing_222 (show decode cX9_loose 19 = .ok (.invokevirtual 222, 3) by decide +kernel) rfl rfl rfl (by decide) (la_o hL (by decide) rfl) rfl rfl (Nat.le_of_ble_eq_true rfl) (by omega) cx4 (st' := [.int x4]) rfl ?_
  replace hL := cx4.1
  cases h
  exact tr_iret rfl (show decode cX9_loose 22 = .ok (.ireturn, 1) by decide +kernel) hL
def f_X9_walk (v1 : Int32) (v2 : Int32) (μ : hm_M) : Option (Int32 × hm_M) :=
  hm_b2 (f_X1_doNoted 87 65 (2 : Int32) v1 v2 μ) fun x2 μ3 =>
  hm_b2 (f_X9_told x2 μ3) fun x4 μ5 =>
  some (x4, μ5)
set_option maxRecDepth 100000 in
theorem ok_X9_walk {fr : Nat} (hfr : 7 ≤ fr) {ν : hm_N} {r : Int32} {μR : hm_M}  (v1 : Int32) (v2 : Int32)  (μ : hm_M) (hL : hm_LL ν μ) (h : f_X9_walk v1 v2 μ = some (r, μR)) : hm_CC (hm_LL ν) m_X9_walk fr 0 0 [.ref 64, .int v1, .int v2] μ (some (.int r)) μR := by
  refine hm_enter (lv := [some (.ref 64), some (.int v1), some (.int v2)]) (by decide) rfl (Nat.le_of_ble_eq_true rfl) ?_
  unfold f_X9_walk at h
  refine tr_aload_n (pc' := 1) (show decode cX9_walk 0 = .ok (.aload_n 0, 1) by decide +kernel) rfl rfl rfl ?_
  refine tr_aload_n (pc' := 2) (show decode cX9_walk 1 = .ok (.aload_n 0, 1) by decide +kernel) rfl rfl rfl ?_
  refine tr_getR (pc' := 5) fl_HandRing_46 (show decode cX9_walk 2 = .ok (.getfield 46, 3) by decide +kernel) rfl (la_o hL (by decide) rfl) (la_r hL 6 rfl) ?_
  refine tr_aload_n (pc' := 6) (show decode cX9_walk 5 = .ok (.aload_n 0, 1) by decide +kernel) rfl rfl rfl ?_
  refine tr_getR (pc' := 9) fl_HandRing_30 (show decode cX9_walk 6 = .ok (.getfield 30, 3) by decide +kernel) rfl (la_o hL (by decide) rfl) (la_r hL 4 rfl) ?_
  refine tr_aload_n (pc' := 10) (show decode cX9_walk 9 = .ok (.aload_n 0, 1) by decide +kernel) rfl rfl rfl ?_
  refine tr_getR (pc' := 13) fl_HandRing_12 (show decode cX9_walk 10 = .ok (.getfield 12, 3) by decide +kernel) rfl (la_o hL (by decide) rfl) (la_r hL 0 rfl) ?_
  refine tr_iconst (pc' := 14) (v := (2 : Int32)) (show decode cX9_walk 13 = .ok (.iconst 2, 1) by decide +kernel) rfl (by decide) ?_
  refine tr_iload_n (pc' := 15) (show decode cX9_walk 14 = .ok (.iload_n 1, 1) by decide +kernel) rfl rfl rfl ?_
  refine tr_iload_n (pc' := 16) (show decode cX9_walk 15 = .ok (.iload_n 2, 1) by decide +kernel) rfl rfl rfl ?_
  obtain ⟨x2, μ3, ex2, h⟩ := hm_b2s h
  have cx2 := ok_X1_doNoted (fr := fr - 1) (ν := ν) (by omega) 87 65 (2 : Int32) v1 v2 (by unfold hm_S; decide) (by unfold hm_V; decide) μ hL ex2
  refine tp_callV (pc' := 19) (As := [.ref 87, .ref 65, .int (2 : Int32), .int v1, .int v2]) (fr1 := fr - 1) (ci := 1) okm_X1_doNoted lk_HandRing_218 (show decode cX9_walk 16 = .ok (.invokevirtual 218, 3) by decide +kernel) rfl rfl rfl (by decide) (la_o hL (by decide) rfl) rfl rfl (Nat.le_of_ble_eq_true rfl) (by omega) cx2 (st' := [.int x2, .ref 64]) rfl ?_
  replace hL := cx2.1
  obtain ⟨x4, μ5, ex4, h⟩ := hm_b2s h
  have cx4 := ok_X9_told (fr := fr - 1) (ν := ν) (by omega) x2 μ3 hL ex4
  refine tp_callV (pc' := 22) (As := [.int x2]) (fr1 := fr - 1) (ci := 9) okm_X9_told lk_HandRing_222 (show decode cX9_walk 19 = .ok (.invokevirtual 222, 3) by decide +kernel) rfl rfl rfl (by decide) (la_o hL (by decide) rfl) rfl rfl (Nat.le_of_ble_eq_true rfl) (by omega) cx4 (st' := [.int x4]) rfl ?_
  replace hL := cx4.1
  cases h
  exact tr_iret rfl (show decode cX9_walk 22 = .ok (.ireturn, 1) by decide +kernel) hL
def f_X9_pass (μ : hm_M) : Option (Int32 × hm_M) :=
  hm_b2 (f_X1_doNoted 87 65 (3 : Int32) (0 : Int32) (0 : Int32) μ) fun x2 μ3 =>
  hm_b2 (f_X9_told x2 μ3) fun x4 μ5 =>
  some (x4, μ5)
set_option maxRecDepth 100000 in
theorem ok_X9_pass {fr : Nat} (hfr : 7 ≤ fr) {ν : hm_N} {r : Int32} {μR : hm_M}    (μ : hm_M) (hL : hm_LL ν μ) (h : f_X9_pass μ = some (r, μR)) : hm_CC (hm_LL ν) m_X9_pass fr 0 0 [.ref 64] μ (some (.int r)) μR := by
  refine hm_enter (lv := [some (.ref 64)]) (by decide) rfl (Nat.le_of_ble_eq_true rfl) ?_
  unfold f_X9_pass at h
  refine tr_aload_n (pc' := 1) (show decode cX9_pass 0 = .ok (.aload_n 0, 1) by decide +kernel) rfl rfl rfl ?_
  refine tr_aload_n (pc' := 2) (show decode cX9_pass 1 = .ok (.aload_n 0, 1) by decide +kernel) rfl rfl rfl ?_
  refine tr_getR (pc' := 5) fl_HandRing_46 (show decode cX9_pass 2 = .ok (.getfield 46, 3) by decide +kernel) rfl (la_o hL (by decide) rfl) (la_r hL 6 rfl) ?_
  refine tr_aload_n (pc' := 6) (show decode cX9_pass 5 = .ok (.aload_n 0, 1) by decide +kernel) rfl rfl rfl ?_
  refine tr_getR (pc' := 9) fl_HandRing_30 (show decode cX9_pass 6 = .ok (.getfield 30, 3) by decide +kernel) rfl (la_o hL (by decide) rfl) (la_r hL 4 rfl) ?_
  refine tr_aload_n (pc' := 10) (show decode cX9_pass 9 = .ok (.aload_n 0, 1) by decide +kernel) rfl rfl rfl ?_
  refine tr_getR (pc' := 13) fl_HandRing_12 (show decode cX9_pass 10 = .ok (.getfield 12, 3) by decide +kernel) rfl (la_o hL (by decide) rfl) (la_r hL 0 rfl) ?_
  refine tr_iconst (pc' := 14) (v := (3 : Int32)) (show decode cX9_pass 13 = .ok (.iconst 3, 1) by decide +kernel) rfl (by decide) ?_
  refine tr_iconst (pc' := 15) (v := (0 : Int32)) (show decode cX9_pass 14 = .ok (.iconst 0, 1) by decide +kernel) rfl (by decide) ?_
  refine tr_iconst (pc' := 16) (v := (0 : Int32)) (show decode cX9_pass 15 = .ok (.iconst 0, 1) by decide +kernel) rfl (by decide) ?_
  obtain ⟨x2, μ3, ex2, h⟩ := hm_b2s h
  have cx2 := ok_X1_doNoted (fr := fr - 1) (ν := ν) (by omega) 87 65 (3 : Int32) (0 : Int32) (0 : Int32) (by unfold hm_S; decide) (by unfold hm_V; decide) μ hL ex2
  refine tp_callV (pc' := 19) (As := [.ref 87, .ref 65, .int (3 : Int32), .int (0 : Int32), .int (0 : Int32)]) (fr1 := fr - 1) (ci := 1) okm_X1_doNoted lk_HandRing_218 (show decode cX9_pass 16 = .ok (.invokevirtual 218, 3) by decide +kernel) rfl rfl rfl (by decide) (la_o hL (by decide) rfl) rfl rfl (Nat.le_of_ble_eq_true rfl) (by omega) cx2 (st' := [.int x2, .ref 64]) rfl ?_
  replace hL := cx2.1
  obtain ⟨x4, μ5, ex4, h⟩ := hm_b2s h
  have cx4 := ok_X9_told (fr := fr - 1) (ν := ν) (by omega) x2 μ3 hL ex4
  refine tp_callV (pc' := 22) (As := [.int x2]) (fr1 := fr - 1) (ci := 9) okm_X9_told lk_HandRing_222 (show decode cX9_pass 19 = .ok (.invokevirtual 222, 3) by decide +kernel) rfl rfl rfl (by decide) (la_o hL (by decide) rfl) rfl rfl (Nat.le_of_ble_eq_true rfl) (by omega) cx4 (st' := [.int x4]) rfl ?_
  replace hL := cx4.1
  cases h
  exact tr_iret rfl (show decode cX9_pass 22 = .ok (.ireturn, 1) by decide +kernel) hL
def f_X9_undo (μ : hm_M) : Option (Int32 × hm_M) :=
  hm_b2 (f_X7_goBack 87 65 μ) fun x2 μ3 =>
  hm_b2 (f_X9_told x2 μ3) fun x4 μ5 =>
  some (x4, μ5)
set_option maxRecDepth 100000 in
theorem ok_X9_undo {fr : Nat} (hfr : 2 ≤ fr) {ν : hm_N} {r : Int32} {μR : hm_M}    (μ : hm_M) (hL : hm_LL ν μ) (h : f_X9_undo μ = some (r, μR)) : hm_CC (hm_LL ν) m_X9_undo fr 0 0 [.ref 64] μ (some (.int r)) μR := by
  refine hm_enter (lv := [some (.ref 64)]) (by decide) rfl (Nat.le_of_ble_eq_true rfl) ?_
  unfold f_X9_undo at h
  refine tr_aload_n (pc' := 1) (show decode cX9_undo 0 = .ok (.aload_n 0, 1) by decide +kernel) rfl rfl rfl ?_
  refine tr_aload_n (pc' := 2) (show decode cX9_undo 1 = .ok (.aload_n 0, 1) by decide +kernel) rfl rfl rfl ?_
  refine tr_getR (pc' := 5) fl_HandRing_30 (show decode cX9_undo 2 = .ok (.getfield 30, 3) by decide +kernel) rfl (la_o hL (by decide) rfl) (la_r hL 4 rfl) ?_
  refine tr_aload_n (pc' := 6) (show decode cX9_undo 5 = .ok (.aload_n 0, 1) by decide +kernel) rfl rfl rfl ?_
  refine tr_getR (pc' := 9) fl_HandRing_12 (show decode cX9_undo 6 = .ok (.getfield 12, 3) by decide +kernel) rfl (la_o hL (by decide) rfl) (la_r hL 0 rfl) ?_
  obtain ⟨x2, μ3, ex2, h⟩ := hm_b2s h
  have cx2 := ok_X7_goBack (fr := fr - 1) (ν := ν) (by omega) 87 65 (by unfold hm_S; decide) (by unfold hm_V; decide) μ hL ex2
  refine tp_callV (pc' := 12) (As := [.ref 65]) (fr1 := fr - 1) (ci := 7) okm_X7_goBack lk_HandRing_225 (show decode cX9_undo 9 = .ok (.invokevirtual 225, 3) by decide +kernel) rfl rfl rfl (by decide) (la_o hL (by decide) rfl) rfl rfl (Nat.le_of_ble_eq_true rfl) (by omega) cx2 (st' := [.int x2, .ref 64]) rfl ?_
  replace hL := cx2.1
  obtain ⟨x4, μ5, ex4, h⟩ := hm_b2s h
  have cx4 := ok_X9_told (fr := fr - 1) (ν := ν) (by omega) x2 μ3 hL ex4
  refine tp_callV (pc' := 15) (As := [.int x2]) (fr1 := fr - 1) (ci := 9) okm_X9_told lk_HandRing_222 (show decode cX9_undo 12 = .ok (.invokevirtual 222, 3) by decide +kernel) rfl rfl rfl (by decide) (la_o hL (by decide) rfl) rfl rfl (Nat.le_of_ble_eq_true rfl) (by omega) cx4 (st' := [.int x4]) rfl ?_
  replace hL := cx4.1
  cases h
  exact tr_iret rfl (show decode cX9_undo 15 = .ok (.ireturn, 1) by decide +kernel) hL
def f_X9_lights (v1 : Int32) (μ : hm_M) : Option (Int32 × hm_M) :=
  (if v1 < (0 : Int32) ∨ (2 : Int32) < v1 then
  some ((-1 : Int32), μ)
  else
  (if v1 = (0 : Int32) then
  Option.bind (f_X8_holdsGoRound 65 μ) fun x5 =>
  (if x5 = 0 then
  some ((0 : Int32), μ)
  else
  hm_b2 (f_X3_lostInHolds 65 μ) fun x6 μ7 =>
  Option.bind (hm_ld μ7 70 4 (3 : Int32)) fun x8 =>
  (if x8 < x6 then
  some ((0 : Int32), μ7)
  else
  some ((1 : Int32), μ7)))
  else
  (if v1 = (1 : Int32) then
  hm_b2 (f_X3_lostInHolds 65 μ) fun x3 μ4 =>
  some (x3, μ4)
  else
  (if v1 = (2 : Int32) then
  Option.bind (f_X8_comesTo 65 μ) fun x2 =>
  some (x2, μ)
  else
  none))))
set_option maxRecDepth 100000 in
theorem ok_X9_lights {fr : Nat} (hfr : 5 ≤ fr) {ν : hm_N} {r : Int32} {μR : hm_M}  (v1 : Int32)  (μ : hm_M) (hL : hm_LL ν μ) (h : f_X9_lights v1 μ = some (r, μR)) : hm_CC (hm_LL ν) m_X9_lights fr 0 0 [.ref 64, .int v1] μ (some (.int r)) μR := by
  refine hm_enter (lv := [some (.ref 64), some (.int v1)]) (by decide) rfl (Nat.le_of_ble_eq_true rfl) ?_
  unfold f_X9_lights at h
  refine tr_iload_n (pc' := 1) (show decode cX9_lights 0 = .ok (.iload_n 1, 1) by decide +kernel) rfl rfl rfl ?_
  rcases hm_is h with ⟨hc, h⟩ | ⟨-, h⟩
  · refine tp_tout (tgt := 87) hc (by decide) (by decide) (show decode cX9_lights 1 = .ok (.tableswitch 86 0 2 #[27, 66, 78], 27) by decide +kernel) (by decide) ?_
    refine tr_iconst (pc' := 88) (v := (-1 : Int32)) (show decode cX9_lights 87 = .ok (.iconst (-1), 1) by decide +kernel) rfl (by decide) ?_
    cases h
    exact tr_iret rfl (show decode cX9_lights 88 = .ok (.ireturn, 1) by decide +kernel) hL
  · rcases hm_is h with ⟨hc, h⟩ | ⟨-, h⟩
    · refine tp_tin (tgt := 28) (off := 27) hc (show decode cX9_lights 1 = .ok (.tableswitch 86 0 2 #[27, 66, 78], 27) by decide +kernel) (by decide) (by decide) (by decide) (by decide) ?_
      refine tr_aload_n (pc' := 29) (show decode cX9_lights 28 = .ok (.aload_n 0, 1) by decide +kernel) rfl rfl rfl ?_
      refine tr_getR (pc' := 32) fl_HandRing_12 (show decode cX9_lights 29 = .ok (.getfield 12, 3) by decide +kernel) rfl (la_o hL (by decide) rfl) (la_r hL 0 rfl) ?_
      obtain ⟨x5, ex5, h⟩ := hm_bs h
      have cx5 := ok_X8_holdsGoRound (fr := fr - 1) (ν := ν) (by omega) 65 (by unfold hm_V; decide) μ hL ex5
      refine tp_callV (pc' := 35) (As := []) (fr1 := fr - 1) (ci := 8) okm_X8_holdsGoRound lk_HandRing_229 (show decode cX9_lights 32 = .ok (.invokevirtual 229, 3) by decide +kernel) rfl rfl rfl (by decide) (la_o hL (by decide) rfl) rfl rfl (Nat.le_of_ble_eq_true rfl) (by omega) cx5 (st' := [.int x5]) rfl ?_
      rcases hm_is h with ⟨hc, h⟩ | ⟨hc, h⟩
      · refine tr_if_eq_t (tgt := 65) hc (show decode cX9_lights 35 = .ok (.ifCond .eq 30, 3) by decide +kernel) (by decide) ?_
        refine tr_iconst (pc' := 66) (v := (0 : Int32)) (show decode cX9_lights 65 = .ok (.iconst 0, 1) by decide +kernel) rfl (by decide) ?_
        cases h
        exact tr_iret rfl (show decode cX9_lights 66 = .ok (.ireturn, 1) by decide +kernel) hL
      · refine tr_if_eq_f (tgt := 65) (pc' := 38) hc (show decode cX9_lights 35 = .ok (.ifCond .eq 30, 3) by decide +kernel) (by decide) rfl ?_
        refine tr_aload_n (pc' := 39) (show decode cX9_lights 38 = .ok (.aload_n 0, 1) by decide +kernel) rfl rfl rfl ?_
        refine tr_getR (pc' := 42) fl_HandRing_37 (show decode cX9_lights 39 = .ok (.getfield 37, 3) by decide +kernel) rfl (la_o hL (by decide) rfl) (la_r hL 5 rfl) ?_
        refine tr_aload_n (pc' := 43) (show decode cX9_lights 42 = .ok (.aload_n 0, 1) by decide +kernel) rfl rfl rfl ?_
        refine tr_getR (pc' := 46) fl_HandRing_12 (show decode cX9_lights 43 = .ok (.getfield 12, 3) by decide +kernel) rfl (la_o hL (by decide) rfl) (la_r hL 0 rfl) ?_
        obtain ⟨x6, μ7, ex6, h⟩ := hm_b2s h
        have cx6 := ok_X3_lostInHolds (fr := fr - 1) (ν := ν) (by omega) 65 (by unfold hm_V; decide) μ hL ex6
        refine tp_callV (pc' := 49) (As := [.ref 65]) (fr1 := fr - 1) (ci := 3) okm_X3_lostInHolds lk_HandRing_233 (show decode cX9_lights 46 = .ok (.invokevirtual 233, 3) by decide +kernel) rfl rfl rfl (by decide) (la_o hL (by decide) rfl) rfl rfl (Nat.le_of_ble_eq_true rfl) (by omega) cx6 (st' := [.int x6]) rfl ?_
        replace hL := cx6.1
        refine tr_aload_n (pc' := 50) (show decode cX9_lights 49 = .ok (.aload_n 0, 1) by decide +kernel) rfl rfl rfl ?_
        refine tr_getR (pc' := 53) fl_HandRing_12 (show decode cX9_lights 50 = .ok (.getfield 12, 3) by decide +kernel) rfl (la_o hL (by decide) rfl) (la_r hL 0 rfl) ?_
        refine tr_getR (pc' := 56) fl_HandRing_155 (show decode cX9_lights 53 = .ok (.getfield 155, 3) by decide +kernel) rfl (la_o hL (by decide) rfl) (la_r hL 17 rfl) ?_
        refine tr_iconst (pc' := 57) (v := (3 : Int32)) (show decode cX9_lights 56 = .ok (.iconst 3, 1) by decide +kernel) rfl (by decide) ?_
        obtain ⟨x8, ex8, h⟩ := hm_bs h
        refine tp_ldI (pc' := 58) (show decode cX9_lights 57 = .ok (.iaload, 1) by decide +kernel) rfl (la_a hL (by decide) rfl) ex8 ?_
        rcases hm_is h with ⟨hc, h⟩ | ⟨hc, h⟩
        · refine tr_icmp_gt_t (tgt := 65) hc (show decode cX9_lights 58 = .ok (.if_icmp .gt 7, 3) by decide +kernel) (by decide) ?_
          refine tr_iconst (pc' := 66) (v := (0 : Int32)) (show decode cX9_lights 65 = .ok (.iconst 0, 1) by decide +kernel) rfl (by decide) ?_
          cases h
          exact tr_iret rfl (show decode cX9_lights 66 = .ok (.ireturn, 1) by decide +kernel) hL
        · refine tr_icmp_gt_f (tgt := 65) (pc' := 61) hc (show decode cX9_lights 58 = .ok (.if_icmp .gt 7, 3) by decide +kernel) (by decide) rfl ?_
          refine tr_iconst (pc' := 62) (v := (1 : Int32)) (show decode cX9_lights 61 = .ok (.iconst 1, 1) by decide +kernel) rfl (by decide) ?_
          refine tr_goto (tgt := 66) (show decode cX9_lights 62 = .ok (.goto 4, 3) by decide +kernel) rfl ?_
          cases h
          exact tr_iret rfl (show decode cX9_lights 66 = .ok (.ireturn, 1) by decide +kernel) hL
    · rcases hm_is h with ⟨hc, h⟩ | ⟨-, h⟩
      · refine tp_tin (tgt := 67) (off := 66) hc (show decode cX9_lights 1 = .ok (.tableswitch 86 0 2 #[27, 66, 78], 27) by decide +kernel) (by decide) (by decide) (by decide) (by decide) ?_
        refine tr_aload_n (pc' := 68) (show decode cX9_lights 67 = .ok (.aload_n 0, 1) by decide +kernel) rfl rfl rfl ?_
        refine tr_getR (pc' := 71) fl_HandRing_37 (show decode cX9_lights 68 = .ok (.getfield 37, 3) by decide +kernel) rfl (la_o hL (by decide) rfl) (la_r hL 5 rfl) ?_
        refine tr_aload_n (pc' := 72) (show decode cX9_lights 71 = .ok (.aload_n 0, 1) by decide +kernel) rfl rfl rfl ?_
        refine tr_getR (pc' := 75) fl_HandRing_12 (show decode cX9_lights 72 = .ok (.getfield 12, 3) by decide +kernel) rfl (la_o hL (by decide) rfl) (la_r hL 0 rfl) ?_
        obtain ⟨x3, μ4, ex3, h⟩ := hm_b2s h
        have cx3 := ok_X3_lostInHolds (fr := fr - 1) (ν := ν) (by omega) 65 (by unfold hm_V; decide) μ hL ex3
        refine tp_callV (pc' := 78) (As := [.ref 65]) (fr1 := fr - 1) (ci := 3) okm_X3_lostInHolds lk_HandRing_233 (show decode cX9_lights 75 = .ok (.invokevirtual 233, 3) by decide +kernel) rfl rfl rfl (by decide) (la_o hL (by decide) rfl) rfl rfl (Nat.le_of_ble_eq_true rfl) (by omega) cx3 (st' := [.int x3]) rfl ?_
        replace hL := cx3.1
        cases h
        exact tr_iret rfl (show decode cX9_lights 78 = .ok (.ireturn, 1) by decide +kernel) hL
      · rcases hm_is h with ⟨hc, h⟩ | ⟨-, h⟩
        · refine tp_tin (tgt := 79) (off := 78) hc (show decode cX9_lights 1 = .ok (.tableswitch 86 0 2 #[27, 66, 78], 27) by decide +kernel) (by decide) (by decide) (by decide) (by decide) ?_
          refine tr_aload_n (pc' := 80) (show decode cX9_lights 79 = .ok (.aload_n 0, 1) by decide +kernel) rfl rfl rfl ?_
          refine tr_getR (pc' := 83) fl_HandRing_12 (show decode cX9_lights 80 = .ok (.getfield 12, 3) by decide +kernel) rfl (la_o hL (by decide) rfl) (la_r hL 0 rfl) ?_
          obtain ⟨x2, ex2, h⟩ := hm_bs h
          have cx2 := ok_X8_comesTo (fr := fr - 1) (ν := ν) (by omega) 65 (by unfold hm_V; decide) μ hL ex2
          refine tp_callV (pc' := 86) (As := []) (fr1 := fr - 1) (ci := 8) okm_X8_comesTo lk_HandRing_236 (show decode cX9_lights 83 = .ok (.invokevirtual 236, 3) by decide +kernel) rfl rfl rfl (by decide) (la_o hL (by decide) rfl) rfl rfl (Nat.le_of_ble_eq_true rfl) (by omega) cx2 (st' := [.int x2]) rfl ?_
          cases h
          exact tr_iret rfl (show decode cX9_lights 86 = .ok (.ireturn, 1) by decide +kernel) hL
        · cases h
def f_X9_ring (v1 : Int32) (μ : hm_M) : Option (Int32 × hm_M) :=
  Option.bind (f_X8_lawInForce 65 μ) fun x2 =>
  Option.bind (f_X0_draw 65 x2 (0 : Int32) μ) fun μ4 =>
  hm_b2 (f_X0_tellRow (0 : Int32) v1 μ4) fun x5 μ6 =>
  some (x5, μ6)
set_option maxRecDepth 100000 in
theorem ok_X9_ring {fr : Nat} (hfr : 6 ≤ fr) {ν : hm_N} {r : Int32} {μR : hm_M}  (v1 : Int32)  (μ : hm_M) (hL : hm_LL ν μ) (h : f_X9_ring v1 μ = some (r, μR)) : hm_CC (hm_LL ν) m_X9_ring fr 0 0 [.ref 64, .int v1] μ (some (.int r)) μR := by
  refine hm_enter (lv := [some (.ref 64), some (.int v1)]) (by decide) rfl (Nat.le_of_ble_eq_true rfl) ?_
  unfold f_X9_ring at h
  refine tr_aload_n (pc' := 1) (show decode cX9_ring 0 = .ok (.aload_n 0, 1) by decide +kernel) rfl rfl rfl ?_
  refine tr_getR (pc' := 4) fl_HandRing_62 (show decode cX9_ring 1 = .ok (.getfield 62, 3) by decide +kernel) rfl (la_o hL (by decide) rfl) (la_r hL 8 rfl) ?_
  refine tr_aload_n (pc' := 5) (show decode cX9_ring 4 = .ok (.aload_n 0, 1) by decide +kernel) rfl rfl rfl ?_
  refine tr_getR (pc' := 8) fl_HandRing_12 (show decode cX9_ring 5 = .ok (.getfield 12, 3) by decide +kernel) rfl (la_o hL (by decide) rfl) (la_r hL 0 rfl) ?_
  refine tr_aload_n (pc' := 9) (show decode cX9_ring 8 = .ok (.aload_n 0, 1) by decide +kernel) rfl rfl rfl ?_
  refine tr_getR (pc' := 12) fl_HandRing_12 (show decode cX9_ring 9 = .ok (.getfield 12, 3) by decide +kernel) rfl (la_o hL (by decide) rfl) (la_r hL 0 rfl) ?_
  obtain ⟨x2, ex2, h⟩ := hm_bs h
  have cx2 := ok_X8_lawInForce (fr := fr - 1) (ν := ν) (by omega) 65 (by unfold hm_V; decide) μ hL ex2
  refine tp_callV (pc' := 15) (As := []) (fr1 := fr - 1) (ci := 8) okm_X8_lawInForce lk_HandRing_129 (show decode cX9_ring 12 = .ok (.invokevirtual 129, 3) by decide +kernel) rfl rfl rfl (by decide) (la_o hL (by decide) rfl) rfl rfl (Nat.le_of_ble_eq_true rfl) (by omega) cx2 (st' := [va_rf x2, .ref 65, .ref 145]) rfl ?_
  have hx2 := la_lif hL (by unfold hm_V; decide) ex2
  refine tr_iconst (pc' := 16) (v := (0 : Int32)) (show decode cX9_ring 15 = .ok (.iconst 0, 1) by decide +kernel) rfl (by decide) ?_
  obtain ⟨μ4, ex3, h⟩ := hm_bs h
  have cx3 := ok_X0_draw (fr := fr - 1) (ν := ν) (by omega) 65 x2 (0 : Int32) (by unfold hm_V; decide) hx2 μ hL ex3
  refine tp_callV (pc' := 19) (As := [.ref 65, va_rf x2, .int (0 : Int32)]) (fr1 := fr - 1) (ci := 0) okm_X0_draw lk_HandRing_239 (show decode cX9_ring 16 = .ok (.invokevirtual 239, 3) by decide +kernel) rfl rfl rfl (by decide) (la_o hL (by decide) rfl) rfl rfl (Nat.le_of_ble_eq_true rfl) (by omega) cx3 (st' := []) rfl ?_
  replace hL := cx3.1
  refine tr_aload_n (pc' := 20) (show decode cX9_ring 19 = .ok (.aload_n 0, 1) by decide +kernel) rfl rfl rfl ?_
  refine tr_getR (pc' := 23) fl_HandRing_62 (show decode cX9_ring 20 = .ok (.getfield 62, 3) by decide +kernel) rfl (la_o hL (by decide) rfl) (la_r hL 8 rfl) ?_
  refine tr_iconst (pc' := 24) (v := (0 : Int32)) (show decode cX9_ring 23 = .ok (.iconst 0, 1) by decide +kernel) rfl (by decide) ?_
  refine tr_iload_n (pc' := 25) (show decode cX9_ring 24 = .ok (.iload_n 1, 1) by decide +kernel) rfl rfl rfl ?_
  obtain ⟨x5, μ6, ex5, h⟩ := hm_b2s h
  have cx5 := ok_X0_tellRow (fr := fr - 1) (ν := ν) (by omega) (0 : Int32) v1 μ4 hL ex5
  refine tp_callV (pc' := 28) (As := [.int (0 : Int32), .int v1]) (fr1 := fr - 1) (ci := 0) okm_X0_tellRow lk_HandRing_243 (show decode cX9_ring 25 = .ok (.invokevirtual 243, 3) by decide +kernel) rfl rfl rfl (by decide) (la_o hL (by decide) rfl) rfl rfl (Nat.le_of_ble_eq_true rfl) (by omega) cx5 (st' := [.int x5]) rfl ?_
  replace hL := cx5.1
  cases h
  exact tr_iret rfl (show decode cX9_ring 28 = .ok (.ireturn, 1) by decide +kernel) hL
def f_X9_rings (μ : hm_M) : Option (Int32 × hm_M) :=
  Option.bind (f_X8_lawInForce 65 μ) fun x2 =>
  Option.bind (f_X0_draw 65 x2 (2 : Int32) μ) fun μ4 =>
  Option.bind (f_X0_solve (0 : Int32) μ4) fun μ6 =>
  Option.bind (f_X0_everybody μ6) fun x7 =>
  Option.bind (f_X0_leastRound x7 μ6) fun x8 =>
  Option.bind (f_X0_countRounds x8 μ6) fun x9 =>
  some (x9, μ6)
set_option maxRecDepth 100000 in
theorem ok_X9_rings {fr : Nat} (hfr : 6 ≤ fr) {ν : hm_N} {r : Int32} {μR : hm_M}    (μ : hm_M) (hL : hm_LL ν μ) (h : f_X9_rings μ = some (r, μR)) : hm_CC (hm_LL ν) m_X9_rings fr 0 0 [.ref 64] μ (some (.int r)) μR := by
  refine hm_enter (lv := [some (.ref 64)]) (by decide) rfl (Nat.le_of_ble_eq_true rfl) ?_
  unfold f_X9_rings at h
  refine tr_aload_n (pc' := 1) (show decode cX9_rings 0 = .ok (.aload_n 0, 1) by decide +kernel) rfl rfl rfl ?_
  refine tr_getR (pc' := 4) fl_HandRing_62 (show decode cX9_rings 1 = .ok (.getfield 62, 3) by decide +kernel) rfl (la_o hL (by decide) rfl) (la_r hL 8 rfl) ?_
  refine tr_aload_n (pc' := 5) (show decode cX9_rings 4 = .ok (.aload_n 0, 1) by decide +kernel) rfl rfl rfl ?_
  refine tr_getR (pc' := 8) fl_HandRing_12 (show decode cX9_rings 5 = .ok (.getfield 12, 3) by decide +kernel) rfl (la_o hL (by decide) rfl) (la_r hL 0 rfl) ?_
  refine tr_aload_n (pc' := 9) (show decode cX9_rings 8 = .ok (.aload_n 0, 1) by decide +kernel) rfl rfl rfl ?_
  refine tr_getR (pc' := 12) fl_HandRing_12 (show decode cX9_rings 9 = .ok (.getfield 12, 3) by decide +kernel) rfl (la_o hL (by decide) rfl) (la_r hL 0 rfl) ?_
  obtain ⟨x2, ex2, h⟩ := hm_bs h
  have cx2 := ok_X8_lawInForce (fr := fr - 1) (ν := ν) (by omega) 65 (by unfold hm_V; decide) μ hL ex2
  refine tp_callV (pc' := 15) (As := []) (fr1 := fr - 1) (ci := 8) okm_X8_lawInForce lk_HandRing_129 (show decode cX9_rings 12 = .ok (.invokevirtual 129, 3) by decide +kernel) rfl rfl rfl (by decide) (la_o hL (by decide) rfl) rfl rfl (Nat.le_of_ble_eq_true rfl) (by omega) cx2 (st' := [va_rf x2, .ref 65, .ref 145]) rfl ?_
  have hx2 := la_lif hL (by unfold hm_V; decide) ex2
  refine tr_iconst (pc' := 16) (v := (2 : Int32)) (show decode cX9_rings 15 = .ok (.iconst 2, 1) by decide +kernel) rfl (by decide) ?_
  obtain ⟨μ4, ex3, h⟩ := hm_bs h
  have cx3 := ok_X0_draw (fr := fr - 1) (ν := ν) (by omega) 65 x2 (2 : Int32) (by unfold hm_V; decide) hx2 μ hL ex3
  refine tp_callV (pc' := 19) (As := [.ref 65, va_rf x2, .int (2 : Int32)]) (fr1 := fr - 1) (ci := 0) okm_X0_draw lk_HandRing_239 (show decode cX9_rings 16 = .ok (.invokevirtual 239, 3) by decide +kernel) rfl rfl rfl (by decide) (la_o hL (by decide) rfl) rfl rfl (Nat.le_of_ble_eq_true rfl) (by omega) cx3 (st' := []) rfl ?_
  replace hL := cx3.1
  refine tr_aload_n (pc' := 20) (show decode cX9_rings 19 = .ok (.aload_n 0, 1) by decide +kernel) rfl rfl rfl ?_
  refine tr_getR (pc' := 23) fl_HandRing_62 (show decode cX9_rings 20 = .ok (.getfield 62, 3) by decide +kernel) rfl (la_o hL (by decide) rfl) (la_r hL 8 rfl) ?_
  refine tr_iconst (pc' := 24) (v := (0 : Int32)) (show decode cX9_rings 23 = .ok (.iconst 0, 1) by decide +kernel) rfl (by decide) ?_
  obtain ⟨μ6, ex5, h⟩ := hm_bs h
  have cx5 := ok_X0_solve (fr := fr - 1) (ν := ν) (by omega) (0 : Int32) μ4 hL ex5
  refine tp_callV (pc' := 27) (As := [.int (0 : Int32)]) (fr1 := fr - 1) (ci := 0) okm_X0_solve lk_HandRing_247 (show decode cX9_rings 24 = .ok (.invokevirtual 247, 3) by decide +kernel) rfl rfl rfl (by decide) (la_o hL (by decide) rfl) rfl rfl (Nat.le_of_ble_eq_true rfl) (by omega) cx5 (st' := []) rfl ?_
  replace hL := cx5.1
  refine tr_aload_n (pc' := 28) (show decode cX9_rings 27 = .ok (.aload_n 0, 1) by decide +kernel) rfl rfl rfl ?_
  refine tr_getR (pc' := 31) fl_HandRing_62 (show decode cX9_rings 28 = .ok (.getfield 62, 3) by decide +kernel) rfl (la_o hL (by decide) rfl) (la_r hL 8 rfl) ?_
  refine tr_aload_n (pc' := 32) (show decode cX9_rings 31 = .ok (.aload_n 0, 1) by decide +kernel) rfl rfl rfl ?_
  refine tr_getR (pc' := 35) fl_HandRing_62 (show decode cX9_rings 32 = .ok (.getfield 62, 3) by decide +kernel) rfl (la_o hL (by decide) rfl) (la_r hL 8 rfl) ?_
  refine tr_aload_n (pc' := 36) (show decode cX9_rings 35 = .ok (.aload_n 0, 1) by decide +kernel) rfl rfl rfl ?_
  refine tr_getR (pc' := 39) fl_HandRing_62 (show decode cX9_rings 36 = .ok (.getfield 62, 3) by decide +kernel) rfl (la_o hL (by decide) rfl) (la_r hL 8 rfl) ?_
  obtain ⟨x7, ex7, h⟩ := hm_bs h
  have cx7 := ok_X0_everybody (fr := fr - 1) (ν := ν) (by omega) μ6 hL ex7
  refine tp_callV (pc' := 42) (As := []) (fr1 := fr - 1) (ci := 0) okm_X0_everybody lk_HandRing_251 (show decode cX9_rings 39 = .ok (.invokevirtual 251, 3) by decide +kernel) rfl rfl rfl (by decide) (la_o hL (by decide) rfl) rfl rfl (Nat.le_of_ble_eq_true rfl) (by omega) cx7 (st' := [.int x7, .ref 145, .ref 145]) rfl ?_
  obtain ⟨x8, ex8, h⟩ := hm_bs h
  have cx8 := ok_X0_leastRound (fr := fr - 1) (ν := ν) (by omega) x7 μ6 hL ex8
  refine tp_callV (pc' := 45) (As := [.int x7]) (fr1 := fr - 1) (ci := 0) okm_X0_leastRound lk_HandRing_254 (show decode cX9_rings 42 = .ok (.invokevirtual 254, 3) by decide +kernel) rfl rfl rfl (by decide) (la_o hL (by decide) rfl) rfl rfl (Nat.le_of_ble_eq_true rfl) (by omega) cx8 (st' := [.int x8, .ref 145]) rfl ?_
  obtain ⟨x9, ex9, h⟩ := hm_bs h
  have cx9 := ok_X0_countRounds (fr := fr - 1) (ν := ν) (by omega) x8 μ6 hL ex9
  refine tp_callV (pc' := 48) (As := [.int x8]) (fr1 := fr - 1) (ci := 0) okm_X0_countRounds lk_HandRing_257 (show decode cX9_rings 45 = .ok (.invokevirtual 257, 3) by decide +kernel) rfl rfl rfl (by decide) (la_o hL (by decide) rfl) rfl rfl (Nat.le_of_ble_eq_true rfl) (by omega) cx9 (st' := [.int x9]) rfl ?_
  cases h
  exact tr_iret rfl (show decode cX9_rings 48 = .ok (.ireturn, 1) by decide +kernel) hL
def f_X9_narrow (v1 : Int32) (μ : hm_M) : Option (Int32 × hm_M) :=
  Option.bind (f_X8_lawInForce 65 μ) fun x2 =>
  Option.bind (f_X0_draw 65 x2 (0 : Int32) μ) fun μ4 =>
  hm_b2 (f_X0_tellRow (1 : Int32) v1 μ4) fun x5 μ6 =>
  some (x5, μ6)
set_option maxRecDepth 100000 in
theorem ok_X9_narrow {fr : Nat} (hfr : 6 ≤ fr) {ν : hm_N} {r : Int32} {μR : hm_M}  (v1 : Int32)  (μ : hm_M) (hL : hm_LL ν μ) (h : f_X9_narrow v1 μ = some (r, μR)) : hm_CC (hm_LL ν) m_X9_narrow fr 0 0 [.ref 64, .int v1] μ (some (.int r)) μR := by
  refine hm_enter (lv := [some (.ref 64), some (.int v1)]) (by decide) rfl (Nat.le_of_ble_eq_true rfl) ?_
  unfold f_X9_narrow at h
  refine tr_aload_n (pc' := 1) (show decode cX9_narrow 0 = .ok (.aload_n 0, 1) by decide +kernel) rfl rfl rfl ?_
  refine tr_getR (pc' := 4) fl_HandRing_62 (show decode cX9_narrow 1 = .ok (.getfield 62, 3) by decide +kernel) rfl (la_o hL (by decide) rfl) (la_r hL 8 rfl) ?_
  refine tr_aload_n (pc' := 5) (show decode cX9_narrow 4 = .ok (.aload_n 0, 1) by decide +kernel) rfl rfl rfl ?_
  refine tr_getR (pc' := 8) fl_HandRing_12 (show decode cX9_narrow 5 = .ok (.getfield 12, 3) by decide +kernel) rfl (la_o hL (by decide) rfl) (la_r hL 0 rfl) ?_
  refine tr_aload_n (pc' := 9) (show decode cX9_narrow 8 = .ok (.aload_n 0, 1) by decide +kernel) rfl rfl rfl ?_
  refine tr_getR (pc' := 12) fl_HandRing_12 (show decode cX9_narrow 9 = .ok (.getfield 12, 3) by decide +kernel) rfl (la_o hL (by decide) rfl) (la_r hL 0 rfl) ?_
  obtain ⟨x2, ex2, h⟩ := hm_bs h
  have cx2 := ok_X8_lawInForce (fr := fr - 1) (ν := ν) (by omega) 65 (by unfold hm_V; decide) μ hL ex2
  refine tp_callV (pc' := 15) (As := []) (fr1 := fr - 1) (ci := 8) okm_X8_lawInForce lk_HandRing_129 (show decode cX9_narrow 12 = .ok (.invokevirtual 129, 3) by decide +kernel) rfl rfl rfl (by decide) (la_o hL (by decide) rfl) rfl rfl (Nat.le_of_ble_eq_true rfl) (by omega) cx2 (st' := [va_rf x2, .ref 65, .ref 145]) rfl ?_
  have hx2 := la_lif hL (by unfold hm_V; decide) ex2
  refine tr_iconst (pc' := 16) (v := (0 : Int32)) (show decode cX9_narrow 15 = .ok (.iconst 0, 1) by decide +kernel) rfl (by decide) ?_
  obtain ⟨μ4, ex3, h⟩ := hm_bs h
  have cx3 := ok_X0_draw (fr := fr - 1) (ν := ν) (by omega) 65 x2 (0 : Int32) (by unfold hm_V; decide) hx2 μ hL ex3
  refine tp_callV (pc' := 19) (As := [.ref 65, va_rf x2, .int (0 : Int32)]) (fr1 := fr - 1) (ci := 0) okm_X0_draw lk_HandRing_239 (show decode cX9_narrow 16 = .ok (.invokevirtual 239, 3) by decide +kernel) rfl rfl rfl (by decide) (la_o hL (by decide) rfl) rfl rfl (Nat.le_of_ble_eq_true rfl) (by omega) cx3 (st' := []) rfl ?_
  replace hL := cx3.1
  refine tr_aload_n (pc' := 20) (show decode cX9_narrow 19 = .ok (.aload_n 0, 1) by decide +kernel) rfl rfl rfl ?_
  refine tr_getR (pc' := 23) fl_HandRing_62 (show decode cX9_narrow 20 = .ok (.getfield 62, 3) by decide +kernel) rfl (la_o hL (by decide) rfl) (la_r hL 8 rfl) ?_
  refine tr_iconst (pc' := 24) (v := (1 : Int32)) (show decode cX9_narrow 23 = .ok (.iconst 1, 1) by decide +kernel) rfl (by decide) ?_
  refine tr_iload_n (pc' := 25) (show decode cX9_narrow 24 = .ok (.iload_n 1, 1) by decide +kernel) rfl rfl rfl ?_
  obtain ⟨x5, μ6, ex5, h⟩ := hm_b2s h
  have cx5 := ok_X0_tellRow (fr := fr - 1) (ν := ν) (by omega) (1 : Int32) v1 μ4 hL ex5
  refine tp_callV (pc' := 28) (As := [.int (1 : Int32), .int v1]) (fr1 := fr - 1) (ci := 0) okm_X0_tellRow lk_HandRing_243 (show decode cX9_narrow 25 = .ok (.invokevirtual 243, 3) by decide +kernel) rfl rfl rfl (by decide) (la_o hL (by decide) rfl) rfl rfl (Nat.le_of_ble_eq_true rfl) (by omega) cx5 (st' := [.int x5]) rfl ?_
  replace hL := cx5.1
  cases h
  exact tr_iret rfl (show decode cX9_narrow 28 = .ok (.ireturn, 1) by decide +kernel) hL
def f_X9_gloves (v1 : Int32) (μ : hm_M) : Option (Int32 × hm_M) :=
  Option.bind (f_X8_lawInForce 65 μ) fun x2 =>
  Option.bind (f_X0_draw 65 x2 (1 : Int32) μ) fun μ4 =>
  hm_b2 (f_X0_tellRow (0 : Int32) v1 μ4) fun x5 μ6 =>
  some (x5, μ6)
set_option maxRecDepth 100000 in
theorem ok_X9_gloves {fr : Nat} (hfr : 6 ≤ fr) {ν : hm_N} {r : Int32} {μR : hm_M}  (v1 : Int32)  (μ : hm_M) (hL : hm_LL ν μ) (h : f_X9_gloves v1 μ = some (r, μR)) : hm_CC (hm_LL ν) m_X9_gloves fr 0 0 [.ref 64, .int v1] μ (some (.int r)) μR := by
  refine hm_enter (lv := [some (.ref 64), some (.int v1)]) (by decide) rfl (Nat.le_of_ble_eq_true rfl) ?_
  unfold f_X9_gloves at h
  refine tr_aload_n (pc' := 1) (show decode cX9_gloves 0 = .ok (.aload_n 0, 1) by decide +kernel) rfl rfl rfl ?_
  refine tr_getR (pc' := 4) fl_HandRing_62 (show decode cX9_gloves 1 = .ok (.getfield 62, 3) by decide +kernel) rfl (la_o hL (by decide) rfl) (la_r hL 8 rfl) ?_
  refine tr_aload_n (pc' := 5) (show decode cX9_gloves 4 = .ok (.aload_n 0, 1) by decide +kernel) rfl rfl rfl ?_
  refine tr_getR (pc' := 8) fl_HandRing_12 (show decode cX9_gloves 5 = .ok (.getfield 12, 3) by decide +kernel) rfl (la_o hL (by decide) rfl) (la_r hL 0 rfl) ?_
  refine tr_aload_n (pc' := 9) (show decode cX9_gloves 8 = .ok (.aload_n 0, 1) by decide +kernel) rfl rfl rfl ?_
  refine tr_getR (pc' := 12) fl_HandRing_12 (show decode cX9_gloves 9 = .ok (.getfield 12, 3) by decide +kernel) rfl (la_o hL (by decide) rfl) (la_r hL 0 rfl) ?_
  obtain ⟨x2, ex2, h⟩ := hm_bs h
  have cx2 := ok_X8_lawInForce (fr := fr - 1) (ν := ν) (by omega) 65 (by unfold hm_V; decide) μ hL ex2
  refine tp_callV (pc' := 15) (As := []) (fr1 := fr - 1) (ci := 8) okm_X8_lawInForce lk_HandRing_129 (show decode cX9_gloves 12 = .ok (.invokevirtual 129, 3) by decide +kernel) rfl rfl rfl (by decide) (la_o hL (by decide) rfl) rfl rfl (Nat.le_of_ble_eq_true rfl) (by omega) cx2 (st' := [va_rf x2, .ref 65, .ref 145]) rfl ?_
  have hx2 := la_lif hL (by unfold hm_V; decide) ex2
  refine tr_iconst (pc' := 16) (v := (1 : Int32)) (show decode cX9_gloves 15 = .ok (.iconst 1, 1) by decide +kernel) rfl (by decide) ?_
  obtain ⟨μ4, ex3, h⟩ := hm_bs h
  have cx3 := ok_X0_draw (fr := fr - 1) (ν := ν) (by omega) 65 x2 (1 : Int32) (by unfold hm_V; decide) hx2 μ hL ex3
  refine tp_callV (pc' := 19) (As := [.ref 65, va_rf x2, .int (1 : Int32)]) (fr1 := fr - 1) (ci := 0) okm_X0_draw lk_HandRing_239 (show decode cX9_gloves 16 = .ok (.invokevirtual 239, 3) by decide +kernel) rfl rfl rfl (by decide) (la_o hL (by decide) rfl) rfl rfl (Nat.le_of_ble_eq_true rfl) (by omega) cx3 (st' := []) rfl ?_
  replace hL := cx3.1
  refine tr_aload_n (pc' := 20) (show decode cX9_gloves 19 = .ok (.aload_n 0, 1) by decide +kernel) rfl rfl rfl ?_
  refine tr_getR (pc' := 23) fl_HandRing_62 (show decode cX9_gloves 20 = .ok (.getfield 62, 3) by decide +kernel) rfl (la_o hL (by decide) rfl) (la_r hL 8 rfl) ?_
  refine tr_iconst (pc' := 24) (v := (0 : Int32)) (show decode cX9_gloves 23 = .ok (.iconst 0, 1) by decide +kernel) rfl (by decide) ?_
  refine tr_iload_n (pc' := 25) (show decode cX9_gloves 24 = .ok (.iload_n 1, 1) by decide +kernel) rfl rfl rfl ?_
  obtain ⟨x5, μ6, ex5, h⟩ := hm_b2s h
  have cx5 := ok_X0_tellRow (fr := fr - 1) (ν := ν) (by omega) (0 : Int32) v1 μ4 hL ex5
  refine tp_callV (pc' := 28) (As := [.int (0 : Int32), .int v1]) (fr1 := fr - 1) (ci := 0) okm_X0_tellRow lk_HandRing_243 (show decode cX9_gloves 25 = .ok (.invokevirtual 243, 3) by decide +kernel) rfl rfl rfl (by decide) (la_o hL (by decide) rfl) rfl rfl (Nat.le_of_ble_eq_true rfl) (by omega) cx5 (st' := [.int x5]) rfl ?_
  replace hL := cx5.1
  cases h
  exact tr_iret rfl (show decode cX9_gloves 28 = .ok (.ireturn, 1) by decide +kernel) hL
def f_X9_kept_J11 (v1 : Int32) (μ1 : hm_M) : Option (Int32 × hm_M) :=
  Option.bind (f_X8_lawInForce 65 μ1) fun x2 =>
  Option.bind (f_X0_draw 65 x2 (2 : Int32) μ1) fun μ4 =>
  Option.bind (f_X0_solve (0 : Int32) μ4) fun μ6 =>
  Option.bind (f_X0_mostKept μ6) fun x7 =>
  (if v1 = 0 then
  (if x7 = (-1 : Int32) then
  some (x7, μ6)
  else
  Option.bind (f_J6_bitCount_0f7a4 x7) fun x8 =>
  some (x8, μ6))
  else
  some (x7, μ6))
theorem ok_X9_kept_J11 {fr : Nat} (hfr : 6 ≤ fr) {ν : hm_N} {r : Int32} {μR : hm_M}  (v1 : Int32)     (μ1 : hm_M) (hL : hm_LL ν μ1) (h : f_X9_kept_J11 v1 μ1 = some (r, μR)) : hm_T (hm_LL ν) m_X9_kept fr 0 0 (some (.int r)) μR 11 [some (.ref 64), some (.int v1), none] [] μ1 := by
  unfold f_X9_kept_J11 at h
  refine tr_aload_n (pc' := 12) (show decode cX9_kept 11 = .ok (.aload_n 0, 1) by decide +kernel) rfl rfl rfl ?_
  refine tr_getR (pc' := 15) fl_HandRing_62 (show decode cX9_kept 12 = .ok (.getfield 62, 3) by decide +kernel) rfl (la_o hL (by decide) rfl) (la_r hL 8 rfl) ?_
  refine tr_aload_n (pc' := 16) (show decode cX9_kept 15 = .ok (.aload_n 0, 1) by decide +kernel) rfl rfl rfl ?_
  refine tr_getR (pc' := 19) fl_HandRing_12 (show decode cX9_kept 16 = .ok (.getfield 12, 3) by decide +kernel) rfl (la_o hL (by decide) rfl) (la_r hL 0 rfl) ?_
  refine tr_aload_n (pc' := 20) (show decode cX9_kept 19 = .ok (.aload_n 0, 1) by decide +kernel) rfl rfl rfl ?_
  refine tr_getR (pc' := 23) fl_HandRing_12 (show decode cX9_kept 20 = .ok (.getfield 12, 3) by decide +kernel) rfl (la_o hL (by decide) rfl) (la_r hL 0 rfl) ?_
  obtain ⟨x2, ex2, h⟩ := hm_bs h
  have cx2 := ok_X8_lawInForce (fr := fr - 1) (ν := ν) (by omega) 65 (by unfold hm_V; decide) μ1 hL ex2
  refine tp_callV (pc' := 26) (As := []) (fr1 := fr - 1) (ci := 8) okm_X8_lawInForce lk_HandRing_129 (show decode cX9_kept 23 = .ok (.invokevirtual 129, 3) by decide +kernel) rfl rfl rfl (by decide) (la_o hL (by decide) rfl) rfl rfl (Nat.le_of_ble_eq_true rfl) (by omega) cx2 (st' := [va_rf x2, .ref 65, .ref 145]) rfl ?_
  have hx2 := la_lif hL (by unfold hm_V; decide) ex2
  refine tr_iconst (pc' := 27) (v := (2 : Int32)) (show decode cX9_kept 26 = .ok (.iconst 2, 1) by decide +kernel) rfl (by decide) ?_
  obtain ⟨μ4, ex3, h⟩ := hm_bs h
  have cx3 := ok_X0_draw (fr := fr - 1) (ν := ν) (by omega) 65 x2 (2 : Int32) (by unfold hm_V; decide) hx2 μ1 hL ex3
  refine tp_callV (pc' := 30) (As := [.ref 65, va_rf x2, .int (2 : Int32)]) (fr1 := fr - 1) (ci := 0) okm_X0_draw lk_HandRing_239 (show decode cX9_kept 27 = .ok (.invokevirtual 239, 3) by decide +kernel) rfl rfl rfl (by decide) (la_o hL (by decide) rfl) rfl rfl (Nat.le_of_ble_eq_true rfl) (by omega) cx3 (st' := []) rfl ?_
  replace hL := cx3.1
  refine tr_aload_n (pc' := 31) (show decode cX9_kept 30 = .ok (.aload_n 0, 1) by decide +kernel) rfl rfl rfl ?_
  refine tr_getR (pc' := 34) fl_HandRing_62 (show decode cX9_kept 31 = .ok (.getfield 62, 3) by decide +kernel) rfl (la_o hL (by decide) rfl) (la_r hL 8 rfl) ?_
  refine tr_iconst (pc' := 35) (v := (0 : Int32)) (show decode cX9_kept 34 = .ok (.iconst 0, 1) by decide +kernel) rfl (by decide) ?_
  obtain ⟨μ6, ex5, h⟩ := hm_bs h
  have cx5 := ok_X0_solve (fr := fr - 1) (ν := ν) (by omega) (0 : Int32) μ4 hL ex5
  refine tp_callV (pc' := 38) (As := [.int (0 : Int32)]) (fr1 := fr - 1) (ci := 0) okm_X0_solve lk_HandRing_247 (show decode cX9_kept 35 = .ok (.invokevirtual 247, 3) by decide +kernel) rfl rfl rfl (by decide) (la_o hL (by decide) rfl) rfl rfl (Nat.le_of_ble_eq_true rfl) (by omega) cx5 (st' := []) rfl ?_
  replace hL := cx5.1
  refine tr_aload_n (pc' := 39) (show decode cX9_kept 38 = .ok (.aload_n 0, 1) by decide +kernel) rfl rfl rfl ?_
  refine tr_getR (pc' := 42) fl_HandRing_62 (show decode cX9_kept 39 = .ok (.getfield 62, 3) by decide +kernel) rfl (la_o hL (by decide) rfl) (la_r hL 8 rfl) ?_
  obtain ⟨x7, ex7, h⟩ := hm_bs h
  have cx7 := ok_X0_mostKept (fr := fr - 1) (ν := ν) (by omega) μ6 hL ex7
  refine tp_callV (pc' := 45) (As := []) (fr1 := fr - 1) (ci := 0) okm_X0_mostKept lk_HandRing_260 (show decode cX9_kept 42 = .ok (.invokevirtual 260, 3) by decide +kernel) rfl rfl rfl (by decide) (la_o hL (by decide) rfl) rfl rfl (Nat.le_of_ble_eq_true rfl) (by omega) cx7 (st' := [.int x7]) rfl ?_
  refine tr_istore_n (pc' := 46) (lv' := [some (.ref 64), some (.int v1), some (.int x7)]) (show decode cX9_kept 45 = .ok (.istore_n 2, 1) by decide +kernel) rfl rfl (Nat.le_of_ble_eq_true rfl) rfl rfl ?_
  refine tr_iload_n (pc' := 47) (show decode cX9_kept 46 = .ok (.iload_n 1, 1) by decide +kernel) rfl rfl rfl ?_
  rcases hm_is h with ⟨hc, h⟩ | ⟨hc, h⟩
  · refine tr_if_ne_f (tgt := 62) (pc' := 50) hc (show decode cX9_kept 47 = .ok (.ifCond .ne 15, 3) by decide +kernel) (by decide) rfl ?_
    refine tr_iload_n (pc' := 51) (show decode cX9_kept 50 = .ok (.iload_n 2, 1) by decide +kernel) rfl rfl rfl ?_
    refine tr_iconst (pc' := 52) (v := (-1 : Int32)) (show decode cX9_kept 51 = .ok (.iconst (-1), 1) by decide +kernel) rfl (by decide) ?_
    rcases hm_is h with ⟨hc, h⟩ | ⟨hc, h⟩
    · refine tr_icmp_eq_t (tgt := 62) hc (show decode cX9_kept 52 = .ok (.if_icmp .eq 10, 3) by decide +kernel) (by decide) ?_
      refine tr_iload_n (pc' := 63) (show decode cX9_kept 62 = .ok (.iload_n 2, 1) by decide +kernel) rfl rfl rfl ?_
      cases h
      exact tr_iret rfl (show decode cX9_kept 63 = .ok (.ireturn, 1) by decide +kernel) hL
    · refine tr_icmp_eq_f (tgt := 62) (pc' := 55) hc (show decode cX9_kept 52 = .ok (.if_icmp .eq 10, 3) by decide +kernel) (by decide) rfl ?_
      refine tr_iload_n (pc' := 56) (show decode cX9_kept 55 = .ok (.iload_n 2, 1) by decide +kernel) rfl rfl rfl ?_
      obtain ⟨x8, ex8, h⟩ := hm_bs h
      have cx8 := ok_J6_bitCount_0f7a4 (fr := fr - 1) (ν := ν) (by omega) x7 μ6 hL ex8
      refine tp_callS (pc' := 59) (As := [.int x7]) (fr1 := fr - 1) okm_J6_bitCount_0f7a4 lk_HandRing_263 (show decode cX9_kept 56 = .ok (.invokestatic 263, 3) by decide +kernel) rfl rfl rfl (Nat.le_of_ble_eq_true rfl) (by omega) cx8 (st' := [.int x8]) rfl ?_
      refine tr_goto (tgt := 63) (show decode cX9_kept 59 = .ok (.goto 4, 3) by decide +kernel) rfl ?_
      cases h
      exact tr_iret rfl (show decode cX9_kept 63 = .ok (.ireturn, 1) by decide +kernel) hL
  · refine tr_if_ne_t (tgt := 62) hc (show decode cX9_kept 47 = .ok (.ifCond .ne 15, 3) by decide +kernel) (by decide) ?_
    refine tr_iload_n (pc' := 63) (show decode cX9_kept 62 = .ok (.iload_n 2, 1) by decide +kernel) rfl rfl rfl ?_
    cases h
    exact tr_iret rfl (show decode cX9_kept 63 = .ok (.ireturn, 1) by decide +kernel) hL
def f_X9_kept (v1 : Int32) (μ : hm_M) : Option (Int32 × hm_M) :=
  (if v1 = 0 then
  f_X9_kept_J11 v1 μ
  else
  (if v1 = (1 : Int32) then
  f_X9_kept_J11 v1 μ
  else
  some ((-1 : Int32), μ)))
set_option maxRecDepth 100000 in
theorem ok_X9_kept {fr : Nat} (hfr : 6 ≤ fr) {ν : hm_N} {r : Int32} {μR : hm_M}  (v1 : Int32)  (μ : hm_M) (hL : hm_LL ν μ) (h : f_X9_kept v1 μ = some (r, μR)) : hm_CC (hm_LL ν) m_X9_kept fr 0 0 [.ref 64, .int v1] μ (some (.int r)) μR := by
  refine hm_enter (lv := [some (.ref 64), some (.int v1), none]) (by decide) rfl (Nat.le_of_ble_eq_true rfl) ?_
  unfold f_X9_kept at h
  refine tr_iload_n (pc' := 1) (show decode cX9_kept 0 = .ok (.iload_n 1, 1) by decide +kernel) rfl rfl rfl ?_
  rcases hm_is h with ⟨hc, h⟩ | ⟨hc, h⟩
  · refine tr_if_eq_t (tgt := 11) hc (show decode cX9_kept 1 = .ok (.ifCond .eq 10, 3) by decide +kernel) (by decide) ?_
    exact ok_X9_kept_J11 hfr _ μ hL h
  · refine tr_if_eq_f (tgt := 11) (pc' := 4) hc (show decode cX9_kept 1 = .ok (.ifCond .eq 10, 3) by decide +kernel) (by decide) rfl ?_
    refine tr_iload_n (pc' := 5) (show decode cX9_kept 4 = .ok (.iload_n 1, 1) by decide +kernel) rfl rfl rfl ?_
    refine tr_iconst (pc' := 6) (v := (1 : Int32)) (show decode cX9_kept 5 = .ok (.iconst 1, 1) by decide +kernel) rfl (by decide) ?_
    rcases hm_is h with ⟨hc, h⟩ | ⟨hc, h⟩
    · refine tr_icmp_eq_t (tgt := 11) hc (show decode cX9_kept 6 = .ok (.if_icmp .eq 5, 3) by decide +kernel) (by decide) ?_
      exact ok_X9_kept_J11 hfr _ μ hL h
    · refine tr_icmp_eq_f (tgt := 11) (pc' := 9) hc (show decode cX9_kept 6 = .ok (.if_icmp .eq 5, 3) by decide +kernel) (by decide) rfl ?_
      refine tr_iconst (pc' := 10) (v := (-1 : Int32)) (show decode cX9_kept 9 = .ok (.iconst (-1), 1) by decide +kernel) rfl (by decide) ?_
      cases h
      exact tr_iret rfl (show decode cX9_kept 10 = .ok (.ireturn, 1) by decide +kernel) hL
def f_X9_two_J11 (v1 : Int32) (μ1 : hm_M) : Option (Int32 × hm_M) :=
  Option.bind (f_X8_lawInForce 65 μ1) fun x2 =>
  Option.bind (f_X0_draw 65 x2 (0 : Int32) μ1) fun μ4 =>
  Option.bind (f_X0_solve (0 : Int32) μ4) fun μ6 =>
  Option.bind (f_X0_bestPart μ6) fun x7 =>
  (if v1 = 0 then
  (if x7 = (-1 : Int32) then
  some (x7, μ6)
  else
  Option.bind (f_X0_lostInBoth x7 μ6) fun x8 =>
  some (x8, μ6))
  else
  some (x7, μ6))
theorem ok_X9_two_J11 {fr : Nat} (hfr : 6 ≤ fr) {ν : hm_N} {r : Int32} {μR : hm_M}  (v1 : Int32)     (μ1 : hm_M) (hL : hm_LL ν μ1) (h : f_X9_two_J11 v1 μ1 = some (r, μR)) : hm_T (hm_LL ν) m_X9_two fr 0 0 (some (.int r)) μR 11 [some (.ref 64), some (.int v1), none] [] μ1 := by
  unfold f_X9_two_J11 at h
  refine tr_aload_n (pc' := 12) (show decode cX9_two 11 = .ok (.aload_n 0, 1) by decide +kernel) rfl rfl rfl ?_
  refine tr_getR (pc' := 15) fl_HandRing_62 (show decode cX9_two 12 = .ok (.getfield 62, 3) by decide +kernel) rfl (la_o hL (by decide) rfl) (la_r hL 8 rfl) ?_
  refine tr_aload_n (pc' := 16) (show decode cX9_two 15 = .ok (.aload_n 0, 1) by decide +kernel) rfl rfl rfl ?_
  refine tr_getR (pc' := 19) fl_HandRing_12 (show decode cX9_two 16 = .ok (.getfield 12, 3) by decide +kernel) rfl (la_o hL (by decide) rfl) (la_r hL 0 rfl) ?_
  refine tr_aload_n (pc' := 20) (show decode cX9_two 19 = .ok (.aload_n 0, 1) by decide +kernel) rfl rfl rfl ?_
  refine tr_getR (pc' := 23) fl_HandRing_12 (show decode cX9_two 20 = .ok (.getfield 12, 3) by decide +kernel) rfl (la_o hL (by decide) rfl) (la_r hL 0 rfl) ?_
  obtain ⟨x2, ex2, h⟩ := hm_bs h
  have cx2 := ok_X8_lawInForce (fr := fr - 1) (ν := ν) (by omega) 65 (by unfold hm_V; decide) μ1 hL ex2
  refine tp_callV (pc' := 26) (As := []) (fr1 := fr - 1) (ci := 8) okm_X8_lawInForce lk_HandRing_129 (show decode cX9_two 23 = .ok (.invokevirtual 129, 3) by decide +kernel) rfl rfl rfl (by decide) (la_o hL (by decide) rfl) rfl rfl (Nat.le_of_ble_eq_true rfl) (by omega) cx2 (st' := [va_rf x2, .ref 65, .ref 145]) rfl ?_
  have hx2 := la_lif hL (by unfold hm_V; decide) ex2
  refine tr_iconst (pc' := 27) (v := (0 : Int32)) (show decode cX9_two 26 = .ok (.iconst 0, 1) by decide +kernel) rfl (by decide) ?_
  obtain ⟨μ4, ex3, h⟩ := hm_bs h
  have cx3 := ok_X0_draw (fr := fr - 1) (ν := ν) (by omega) 65 x2 (0 : Int32) (by unfold hm_V; decide) hx2 μ1 hL ex3
  refine tp_callV (pc' := 30) (As := [.ref 65, va_rf x2, .int (0 : Int32)]) (fr1 := fr - 1) (ci := 0) okm_X0_draw lk_HandRing_239 (show decode cX9_two 27 = .ok (.invokevirtual 239, 3) by decide +kernel) rfl rfl rfl (by decide) (la_o hL (by decide) rfl) rfl rfl (Nat.le_of_ble_eq_true rfl) (by omega) cx3 (st' := []) rfl ?_
  replace hL := cx3.1
  refine tr_aload_n (pc' := 31) (show decode cX9_two 30 = .ok (.aload_n 0, 1) by decide +kernel) rfl rfl rfl ?_
  refine tr_getR (pc' := 34) fl_HandRing_62 (show decode cX9_two 31 = .ok (.getfield 62, 3) by decide +kernel) rfl (la_o hL (by decide) rfl) (la_r hL 8 rfl) ?_
  refine tr_iconst (pc' := 35) (v := (0 : Int32)) (show decode cX9_two 34 = .ok (.iconst 0, 1) by decide +kernel) rfl (by decide) ?_
  obtain ⟨μ6, ex5, h⟩ := hm_bs h
  have cx5 := ok_X0_solve (fr := fr - 1) (ν := ν) (by omega) (0 : Int32) μ4 hL ex5
  refine tp_callV (pc' := 38) (As := [.int (0 : Int32)]) (fr1 := fr - 1) (ci := 0) okm_X0_solve lk_HandRing_247 (show decode cX9_two 35 = .ok (.invokevirtual 247, 3) by decide +kernel) rfl rfl rfl (by decide) (la_o hL (by decide) rfl) rfl rfl (Nat.le_of_ble_eq_true rfl) (by omega) cx5 (st' := []) rfl ?_
  replace hL := cx5.1
  refine tr_aload_n (pc' := 39) (show decode cX9_two 38 = .ok (.aload_n 0, 1) by decide +kernel) rfl rfl rfl ?_
  refine tr_getR (pc' := 42) fl_HandRing_62 (show decode cX9_two 39 = .ok (.getfield 62, 3) by decide +kernel) rfl (la_o hL (by decide) rfl) (la_r hL 8 rfl) ?_
  obtain ⟨x7, ex7, h⟩ := hm_bs h
  have cx7 := ok_X0_bestPart (fr := fr - 1) (ν := ν) (by omega) μ6 hL ex7
  refine tp_callV (pc' := 45) (As := []) (fr1 := fr - 1) (ci := 0) okm_X0_bestPart lk_HandRing_268 (show decode cX9_two 42 = .ok (.invokevirtual 268, 3) by decide +kernel) rfl rfl rfl (by decide) (la_o hL (by decide) rfl) rfl rfl (Nat.le_of_ble_eq_true rfl) (by omega) cx7 (st' := [.int x7]) rfl ?_
  refine tr_istore_n (pc' := 46) (lv' := [some (.ref 64), some (.int v1), some (.int x7)]) (show decode cX9_two 45 = .ok (.istore_n 2, 1) by decide +kernel) rfl rfl (Nat.le_of_ble_eq_true rfl) rfl rfl ?_
  refine tr_iload_n (pc' := 47) (show decode cX9_two 46 = .ok (.iload_n 1, 1) by decide +kernel) rfl rfl rfl ?_
  rcases hm_is h with ⟨hc, h⟩ | ⟨hc, h⟩
  · refine tr_if_ne_f (tgt := 66) (pc' := 50) hc (show decode cX9_two 47 = .ok (.ifCond .ne 19, 3) by decide +kernel) (by decide) rfl ?_
    refine tr_iload_n (pc' := 51) (show decode cX9_two 50 = .ok (.iload_n 2, 1) by decide +kernel) rfl rfl rfl ?_
    refine tr_iconst (pc' := 52) (v := (-1 : Int32)) (show decode cX9_two 51 = .ok (.iconst (-1), 1) by decide +kernel) rfl (by decide) ?_
    rcases hm_is h with ⟨hc, h⟩ | ⟨hc, h⟩
    · refine tr_icmp_eq_t (tgt := 66) hc (show decode cX9_two 52 = .ok (.if_icmp .eq 14, 3) by decide +kernel) (by decide) ?_
      refine tr_iload_n (pc' := 67) (show decode cX9_two 66 = .ok (.iload_n 2, 1) by decide +kernel) rfl rfl rfl ?_
      cases h
      exact tr_iret rfl (show decode cX9_two 67 = .ok (.ireturn, 1) by decide +kernel) hL
    · refine tr_icmp_eq_f (tgt := 66) (pc' := 55) hc (show decode cX9_two 52 = .ok (.if_icmp .eq 14, 3) by decide +kernel) (by decide) rfl ?_
      refine tr_aload_n (pc' := 56) (show decode cX9_two 55 = .ok (.aload_n 0, 1) by decide +kernel) rfl rfl rfl ?_
      refine tr_getR (pc' := 59) fl_HandRing_62 (show decode cX9_two 56 = .ok (.getfield 62, 3) by decide +kernel) rfl (la_o hL (by decide) rfl) (la_r hL 8 rfl) ?_
      refine tr_iload_n (pc' := 60) (show decode cX9_two 59 = .ok (.iload_n 2, 1) by decide +kernel) rfl rfl rfl ?_
      obtain ⟨x8, ex8, h⟩ := hm_bs h
      have cx8 := ok_X0_lostInBoth (fr := fr - 1) (ν := ν) (by omega) x7 μ6 hL ex8
      refine tp_callV (pc' := 63) (As := [.int x7]) (fr1 := fr - 1) (ci := 0) okm_X0_lostInBoth lk_HandRing_271 (show decode cX9_two 60 = .ok (.invokevirtual 271, 3) by decide +kernel) rfl rfl rfl (by decide) (la_o hL (by decide) rfl) rfl rfl (Nat.le_of_ble_eq_true rfl) (by omega) cx8 (st' := [.int x8]) rfl ?_
      refine tr_goto (tgt := 67) (show decode cX9_two 63 = .ok (.goto 4, 3) by decide +kernel) rfl ?_
      cases h
      exact tr_iret rfl (show decode cX9_two 67 = .ok (.ireturn, 1) by decide +kernel) hL
  · refine tr_if_ne_t (tgt := 66) hc (show decode cX9_two 47 = .ok (.ifCond .ne 19, 3) by decide +kernel) (by decide) ?_
    refine tr_iload_n (pc' := 67) (show decode cX9_two 66 = .ok (.iload_n 2, 1) by decide +kernel) rfl rfl rfl ?_
    cases h
    exact tr_iret rfl (show decode cX9_two 67 = .ok (.ireturn, 1) by decide +kernel) hL
def f_X9_two (v1 : Int32) (μ : hm_M) : Option (Int32 × hm_M) :=
  (if v1 = 0 then
  f_X9_two_J11 v1 μ
  else
  (if v1 = (1 : Int32) then
  f_X9_two_J11 v1 μ
  else
  some ((-1 : Int32), μ)))
set_option maxRecDepth 100000 in
theorem ok_X9_two {fr : Nat} (hfr : 6 ≤ fr) {ν : hm_N} {r : Int32} {μR : hm_M}  (v1 : Int32)  (μ : hm_M) (hL : hm_LL ν μ) (h : f_X9_two v1 μ = some (r, μR)) : hm_CC (hm_LL ν) m_X9_two fr 0 0 [.ref 64, .int v1] μ (some (.int r)) μR := by
  refine hm_enter (lv := [some (.ref 64), some (.int v1), none]) (by decide) rfl (Nat.le_of_ble_eq_true rfl) ?_
  unfold f_X9_two at h
  refine tr_iload_n (pc' := 1) (show decode cX9_two 0 = .ok (.iload_n 1, 1) by decide +kernel) rfl rfl rfl ?_
  rcases hm_is h with ⟨hc, h⟩ | ⟨hc, h⟩
  · refine tr_if_eq_t (tgt := 11) hc (show decode cX9_two 1 = .ok (.ifCond .eq 10, 3) by decide +kernel) (by decide) ?_
    exact ok_X9_two_J11 hfr _ μ hL h
  · refine tr_if_eq_f (tgt := 11) (pc' := 4) hc (show decode cX9_two 1 = .ok (.ifCond .eq 10, 3) by decide +kernel) (by decide) rfl ?_
    refine tr_iload_n (pc' := 5) (show decode cX9_two 4 = .ok (.iload_n 1, 1) by decide +kernel) rfl rfl rfl ?_
    refine tr_iconst (pc' := 6) (v := (1 : Int32)) (show decode cX9_two 5 = .ok (.iconst 1, 1) by decide +kernel) rfl (by decide) ?_
    rcases hm_is h with ⟨hc, h⟩ | ⟨hc, h⟩
    · refine tr_icmp_eq_t (tgt := 11) hc (show decode cX9_two 6 = .ok (.if_icmp .eq 5, 3) by decide +kernel) (by decide) ?_
      exact ok_X9_two_J11 hfr _ μ hL h
    · refine tr_icmp_eq_f (tgt := 11) (pc' := 9) hc (show decode cX9_two 6 = .ok (.if_icmp .eq 5, 3) by decide +kernel) (by decide) rfl ?_
      refine tr_iconst (pc' := 10) (v := (-1 : Int32)) (show decode cX9_two 9 = .ok (.iconst (-1), 1) by decide +kernel) rfl (by decide) ?_
      cases h
      exact tr_iret rfl (show decode cX9_two 10 = .ok (.ireturn, 1) by decide +kernel) hL
def f_X9_stays_L2 (e47 : hm_M → Option (Int32 × hm_M)) : Nat → Int32 → hm_M → Option (Int32 × hm_M)
  | 0, _, _ => none
  | n + 1, y1, μ1 => (if (μ1.1 65 0) ≤ y1 then
  e47 μ1
  else
  Option.bind (f_X8_lawInForce 65 μ1) fun x2 =>
  hm_b2 (f_X3_canBits 65 x2 y1 μ1) fun x3 μ4 =>
  Option.bind (hm_sd μ4 149 8 y1 x3) fun μ5 =>
  (f_X9_stays_L2 e47 n) (y1 + (1 : Int32)) μ5)
theorem ok_X9_stays_L2 {fr : Nat} (hfr : 5 ≤ fr) {ν : hm_N} {r : Int32} {μR : hm_M}   (e47 : hm_M → Option (Int32 × hm_M))  (he47 : ∀   (μ1 : hm_M), hm_LL ν μ1 → e47 μ1 = some (r, μR) → hm_T (hm_LL ν) m_X9_stays fr 0 0 (some (.int r)) μR 47 [some (.ref 64), none, none] [] μ1)  : ∀ (n : Nat) (y1 : Int32)  (μ1 : hm_M), hm_LL ν μ1 → f_X9_stays_L2 e47 n y1 μ1 = some (r, μR) → hm_T (hm_LL ν) m_X9_stays fr 0 0 (some (.int r)) μR 2 [some (.ref 64), some (.int y1), none] [] μ1 := by
  intro n
  induction n with
  | zero =>
    intro y1 μ1 hL h
    unfold f_X9_stays_L2 at h
    cases h
  | succ n ih =>
    intro y1 μ1 hL h
    unfold f_X9_stays_L2 at h
    refine tr_iload_n (pc' := 3) (show decode cX9_stays 2 = .ok (.iload_n 1, 1) by decide +kernel) rfl rfl rfl ?_
    refine tr_aload_n (pc' := 4) (show decode cX9_stays 3 = .ok (.aload_n 0, 1) by decide +kernel) rfl rfl rfl ?_
    refine tr_getR (pc' := 7) fl_HandRing_12 (show decode cX9_stays 4 = .ok (.getfield 12, 3) by decide +kernel) rfl (la_o hL (by decide) rfl) (la_r hL 0 rfl) ?_
    refine tr_getI (pc' := 10) fl_HandRing_100 (show decode cX9_stays 7 = .ok (.getfield 100, 3) by decide +kernel) rfl (la_o hL (by decide) rfl) ?_
    rcases hm_is h with ⟨hc, h⟩ | ⟨hc, h⟩
    · refine tr_icmp_ge_t (tgt := 47) hc (show decode cX9_stays 10 = .ok (.if_icmp .ge 37, 3) by decide +kernel) (by decide) ?_
      refine hm_fgt [true, false, false] (lv' := [some (.ref 64), none, none]) rfl ?_
      exact he47 μ1 hL h
    · refine tr_icmp_ge_f (tgt := 47) (pc' := 13) hc (show decode cX9_stays 10 = .ok (.if_icmp .ge 37, 3) by decide +kernel) (by decide) rfl ?_
      refine tr_aload_n (pc' := 14) (show decode cX9_stays 13 = .ok (.aload_n 0, 1) by decide +kernel) rfl rfl rfl ?_
      refine tr_getR (pc' := 17) fl_HandRing_62 (show decode cX9_stays 14 = .ok (.getfield 62, 3) by decide +kernel) rfl (la_o hL (by decide) rfl) (la_r hL 8 rfl) ?_
      refine tr_getR (pc' := 20) fl_HandRing_274 (show decode cX9_stays 17 = .ok (.getfield 274, 3) by decide +kernel) rfl (la_o hL (by decide) rfl) (la_r hL 94 rfl) ?_
      refine tr_iload_n (pc' := 21) (show decode cX9_stays 20 = .ok (.iload_n 1, 1) by decide +kernel) rfl rfl rfl ?_
      refine tr_aload_n (pc' := 22) (show decode cX9_stays 21 = .ok (.aload_n 0, 1) by decide +kernel) rfl rfl rfl ?_
      refine tr_getR (pc' := 25) fl_HandRing_37 (show decode cX9_stays 22 = .ok (.getfield 37, 3) by decide +kernel) rfl (la_o hL (by decide) rfl) (la_r hL 5 rfl) ?_
      refine tr_aload_n (pc' := 26) (show decode cX9_stays 25 = .ok (.aload_n 0, 1) by decide +kernel) rfl rfl rfl ?_
      refine tr_getR (pc' := 29) fl_HandRing_12 (show decode cX9_stays 26 = .ok (.getfield 12, 3) by decide +kernel) rfl (la_o hL (by decide) rfl) (la_r hL 0 rfl) ?_
      refine tr_aload_n (pc' := 30) (show decode cX9_stays 29 = .ok (.aload_n 0, 1) by decide +kernel) rfl rfl rfl ?_
      refine tr_getR (pc' := 33) fl_HandRing_12 (show decode cX9_stays 30 = .ok (.getfield 12, 3) by decide +kernel) rfl (la_o hL (by decide) rfl) (la_r hL 0 rfl) ?_
      obtain ⟨x2, ex2, h⟩ := hm_bs h
      have cx2 := ok_X8_lawInForce (fr := fr - 1) (ν := ν) (by omega) 65 (by unfold hm_V; decide) μ1 hL ex2
      refine tp_callV (pc' := 36) (As := []) (fr1 := fr - 1) (ci := 8) okm_X8_lawInForce lk_HandRing_129 (show decode cX9_stays 33 = .ok (.invokevirtual 129, 3) by decide +kernel) rfl rfl rfl (by decide) (la_o hL (by decide) rfl) rfl rfl (Nat.le_of_ble_eq_true rfl) (by omega) cx2 (st' := [va_rf x2, .ref 65, .ref 106, .int y1, .ref 149]) rfl ?_
      have hx2 := la_lif hL (by unfold hm_V; decide) ex2
      refine tr_iload_n (pc' := 37) (show decode cX9_stays 36 = .ok (.iload_n 1, 1) by decide +kernel) rfl rfl rfl ?_
      obtain ⟨x3, μ4, ex3, h⟩ := hm_b2s h
      have cx3 := ok_X3_canBits (fr := fr - 1) (ν := ν) (by omega) 65 x2 y1 (by unfold hm_V; decide) hx2 μ1 hL ex3
      refine tp_callV (pc' := 40) (As := [.ref 65, va_rf x2, .int y1]) (fr1 := fr - 1) (ci := 3) okm_X3_canBits lk_HandRing_133 (show decode cX9_stays 37 = .ok (.invokevirtual 133, 3) by decide +kernel) rfl rfl rfl (by decide) (la_o hL (by decide) rfl) rfl rfl (Nat.le_of_ble_eq_true rfl) (by omega) cx3 (st' := [.int x3, .int y1, .ref 149]) rfl ?_
      replace hL := cx3.1
      obtain ⟨μ5, eμ5, h⟩ := hm_bs h
      refine tp_sdI (pc' := 41) (show decode cX9_stays 40 = .ok (.iastore, 1) by decide +kernel) rfl (la_a hL (by decide) rfl) eμ5 ?_
      replace hL := hL.same (hm_sd_s eμ5)
      refine tr_iinc (pc' := 44) (v := y1 + (1 : Int32)) (lv' := [some (.ref 64), some (.int (y1 + (1 : Int32))), none]) (show decode cX9_stays 41 = .ok (.iinc 1 1, 3) by decide +kernel) rfl rfl rfl (Nat.le_of_ble_eq_true rfl) rfl rfl ?_
      refine tr_goto (tgt := 2) (show decode cX9_stays 44 = .ok (.goto (-42), 3) by decide +kernel) rfl ?_
      exact ih (y1 + (1 : Int32)) μ5 hL h
def f_X9_stays_J86 (c51 : Int32 → Int32 → hm_M → Option (Int32 × hm_M)) (e92 : Int32 → hm_M → Option (Int32 × hm_M)) (y1 : Int32) (y2 : Int32) (μ1 : hm_M) : Option (Int32 × hm_M) :=
  c51 y1 (y2 + (1 : Int32)) μ1
theorem ok_X9_stays_J86 {fr : Nat} (hfr : 5 ≤ fr) {ν : hm_N} {r : Int32} {μR : hm_M}   (c51 : Int32 → Int32 → hm_M → Option (Int32 × hm_M)) (e92 : Int32 → hm_M → Option (Int32 × hm_M)) (hc51 : ∀ (y1 : Int32) (y2 : Int32)  (μ1 : hm_M), hm_LL ν μ1 → c51 y1 y2 μ1 = some (r, μR) → hm_T (hm_LL ν) m_X9_stays fr 0 0 (some (.int r)) μR 51 [some (.ref 64), some (.int y1), some (.int y2)] [] μ1) (he92 : ∀ (y1 : Int32)  (μ1 : hm_M), hm_LL ν μ1 → e92 y1 μ1 = some (r, μR) → hm_T (hm_LL ν) m_X9_stays fr 0 0 (some (.int r)) μR 92 [none, some (.int y1), none] [] μ1)  (y1 : Int32) (y2 : Int32) (μ1 : hm_M) (hL : hm_LL ν μ1) (h : f_X9_stays_J86 c51 e92 y1 y2 μ1 = some (r, μR)) : hm_T (hm_LL ν) m_X9_stays fr 0 0 (some (.int r)) μR 86 [some (.ref 64), some (.int y1), some (.int y2)] [] μ1 := by
  unfold f_X9_stays_J86 at h
  refine tr_iinc (pc' := 89) (v := y2 + (1 : Int32)) (lv' := [some (.ref 64), some (.int y1), some (.int (y2 + (1 : Int32)))]) (show decode cX9_stays 86 = .ok (.iinc 2 1, 3) by decide +kernel) rfl rfl rfl (Nat.le_of_ble_eq_true rfl) rfl rfl ?_
  refine tr_goto (tgt := 51) (show decode cX9_stays 89 = .ok (.goto (-38), 3) by decide +kernel) rfl ?_
  exact hc51 y1 (y2 + (1 : Int32)) μ1 hL h
def f_X9_stays_L51 (e92 : Int32 → hm_M → Option (Int32 × hm_M)) : Nat → Int32 → Int32 → hm_M → Option (Int32 × hm_M)
  | 0, _, _, _ => none
  | n + 1, y1, y2, μ1 => (if (μ1.1 65 0) ≤ y2 then
  e92 y1 μ1
  else
  Option.bind (f_X0_fallsApartWithout y2 (μ1.1 65 0) μ1) fun x7 =>
  (if x7 = 0 then
  f_X9_stays_J86 (f_X9_stays_L51 e92 n) e92 y1 y2 μ1
  else
  Option.bind (some (y1 ||| ((1 : Int32) <<< (y2 &&& 31)))) fun x8 =>
  f_X9_stays_J86 (f_X9_stays_L51 e92 n) e92 x8 y2 μ1))
theorem ok_X9_stays_L51 {fr : Nat} (hfr : 5 ≤ fr) {ν : hm_N} {r : Int32} {μR : hm_M}   (e92 : Int32 → hm_M → Option (Int32 × hm_M))  (he92 : ∀ (y1 : Int32)  (μ1 : hm_M), hm_LL ν μ1 → e92 y1 μ1 = some (r, μR) → hm_T (hm_LL ν) m_X9_stays fr 0 0 (some (.int r)) μR 92 [none, some (.int y1), none] [] μ1)  : ∀ (n : Nat) (y1 : Int32) (y2 : Int32)  (μ1 : hm_M), hm_LL ν μ1 → f_X9_stays_L51 e92 n y1 y2 μ1 = some (r, μR) → hm_T (hm_LL ν) m_X9_stays fr 0 0 (some (.int r)) μR 51 [some (.ref 64), some (.int y1), some (.int y2)] [] μ1 := by
  intro n
  induction n with
  | zero =>
    intro y1 y2 μ1 hL h
    unfold f_X9_stays_L51 at h
    cases h
  | succ n ih =>
    intro y1 y2 μ1 hL h
    unfold f_X9_stays_L51 at h
    refine tr_iload_n (pc' := 52) (show decode cX9_stays 51 = .ok (.iload_n 2, 1) by decide +kernel) rfl rfl rfl ?_
    refine tr_aload_n (pc' := 53) (show decode cX9_stays 52 = .ok (.aload_n 0, 1) by decide +kernel) rfl rfl rfl ?_
    refine tr_getR (pc' := 56) fl_HandRing_12 (show decode cX9_stays 53 = .ok (.getfield 12, 3) by decide +kernel) rfl (la_o hL (by decide) rfl) (la_r hL 0 rfl) ?_
    refine tr_getI (pc' := 59) fl_HandRing_100 (show decode cX9_stays 56 = .ok (.getfield 100, 3) by decide +kernel) rfl (la_o hL (by decide) rfl) ?_
    rcases hm_is h with ⟨hc, h⟩ | ⟨hc, h⟩
    · refine tr_icmp_ge_t (tgt := 92) hc (show decode cX9_stays 59 = .ok (.if_icmp .ge 33, 3) by decide +kernel) (by decide) ?_
      refine hm_fgt [false, true, false] (lv' := [none, some (.int y1), none]) rfl ?_
      exact he92 y1 μ1 hL h
    · refine tr_icmp_ge_f (tgt := 92) (pc' := 62) hc (show decode cX9_stays 59 = .ok (.if_icmp .ge 33, 3) by decide +kernel) (by decide) rfl ?_
      refine tr_aload_n (pc' := 63) (show decode cX9_stays 62 = .ok (.aload_n 0, 1) by decide +kernel) rfl rfl rfl ?_
      refine tr_getR (pc' := 66) fl_HandRing_62 (show decode cX9_stays 63 = .ok (.getfield 62, 3) by decide +kernel) rfl (la_o hL (by decide) rfl) (la_r hL 8 rfl) ?_
      refine tr_iload_n (pc' := 67) (show decode cX9_stays 66 = .ok (.iload_n 2, 1) by decide +kernel) rfl rfl rfl ?_
      refine tr_aload_n (pc' := 68) (show decode cX9_stays 67 = .ok (.aload_n 0, 1) by decide +kernel) rfl rfl rfl ?_
      refine tr_getR (pc' := 71) fl_HandRing_12 (show decode cX9_stays 68 = .ok (.getfield 12, 3) by decide +kernel) rfl (la_o hL (by decide) rfl) (la_r hL 0 rfl) ?_
      refine tr_getI (pc' := 74) fl_HandRing_100 (show decode cX9_stays 71 = .ok (.getfield 100, 3) by decide +kernel) rfl (la_o hL (by decide) rfl) ?_
      obtain ⟨x7, ex7, h⟩ := hm_bs h
      have cx7 := ok_X0_fallsApartWithout (fr := fr - 1) (ν := ν) (by omega) y2 (μ1.1 65 0) μ1 hL ex7
      refine tp_callV (pc' := 77) (As := [.int y2, .int (μ1.1 65 0)]) (fr1 := fr - 1) (ci := 0) okm_X0_fallsApartWithout lk_HandRing_277 (show decode cX9_stays 74 = .ok (.invokevirtual 277, 3) by decide +kernel) rfl rfl rfl (by decide) (la_o hL (by decide) rfl) rfl rfl (Nat.le_of_ble_eq_true rfl) (by omega) cx7 (st' := [.int x7]) rfl ?_
      rcases hm_is h with ⟨hc, h⟩ | ⟨hc, h⟩
      · refine tr_if_eq_t (tgt := 86) hc (show decode cX9_stays 77 = .ok (.ifCond .eq 9, 3) by decide +kernel) (by decide) ?_
        exact ok_X9_stays_J86 hfr (f_X9_stays_L51 e92 n) e92 ih he92 y1 y2 μ1 hL h
      · refine tr_if_eq_f (tgt := 86) (pc' := 80) hc (show decode cX9_stays 77 = .ok (.ifCond .eq 9, 3) by decide +kernel) (by decide) rfl ?_
        refine tr_iload_n (pc' := 81) (show decode cX9_stays 80 = .ok (.iload_n 1, 1) by decide +kernel) rfl rfl rfl ?_
        refine tr_iconst (pc' := 82) (v := (1 : Int32)) (show decode cX9_stays 81 = .ok (.iconst 1, 1) by decide +kernel) rfl (by decide) ?_
        refine tr_iload_n (pc' := 83) (show decode cX9_stays 82 = .ok (.iload_n 2, 1) by decide +kernel) rfl rfl rfl ?_
        refine tr_ishl (pc' := 84) (show decode cX9_stays 83 = .ok (.ishl, 1) by decide +kernel) rfl ?_
        refine tr_ior (pc' := 85) (show decode cX9_stays 84 = .ok (.ior, 1) by decide +kernel) rfl ?_
        obtain ⟨x8, ex8, h⟩ := hm_bs h
        have ex8 := Option.some.inj ex8
        rw [ex8]
        refine tr_istore_n (pc' := 86) (lv' := [some (.ref 64), some (.int x8), some (.int y2)]) (show decode cX9_stays 85 = .ok (.istore_n 1, 1) by decide +kernel) rfl rfl (Nat.le_of_ble_eq_true rfl) rfl rfl ?_
        exact ok_X9_stays_J86 hfr (f_X9_stays_L51 e92 n) e92 ih he92 x8 y2 μ1 hL h
def f_X9_stays (μ : hm_M) : Option (Int32 × hm_M) :=
  f_X9_stays_L2 (fun μz6 => f_X9_stays_L51 (fun z9_1 μz9 => some (z9_1, μz9)) hm_fu (0 : Int32) (0 : Int32) μz6) hm_fu (0 : Int32) μ
set_option maxRecDepth 100000 in
theorem ok_X9_stays {fr : Nat} (hfr : 5 ≤ fr) {ν : hm_N} {r : Int32} {μR : hm_M}    (μ : hm_M) (hL : hm_LL ν μ) (h : f_X9_stays μ = some (r, μR)) : hm_CC (hm_LL ν) m_X9_stays fr 0 0 [.ref 64] μ (some (.int r)) μR := by
  refine hm_enter (lv := [some (.ref 64), none, none]) (by decide) rfl (Nat.le_of_ble_eq_true rfl) ?_
  unfold f_X9_stays at h
  refine tr_iconst (pc' := 1) (v := (0 : Int32)) (show decode cX9_stays 0 = .ok (.iconst 0, 1) by decide +kernel) rfl (by decide) ?_
  refine tr_istore_n (pc' := 2) (lv' := [some (.ref 64), some (.int (0 : Int32)), none]) (show decode cX9_stays 1 = .ok (.istore_n 1, 1) by decide +kernel) rfl rfl (Nat.le_of_ble_eq_true rfl) rfl rfl ?_
  refine ok_X9_stays_L2 hfr _ ?_ _ (0 : Int32) μ hL h
  · intro μz6 hL h
    refine tr_iconst (pc' := 48) (v := (0 : Int32)) (show decode cX9_stays 47 = .ok (.iconst 0, 1) by decide +kernel) rfl (by decide) ?_
    refine tr_istore_n (pc' := 49) (lv' := [some (.ref 64), some (.int (0 : Int32)), none]) (show decode cX9_stays 48 = .ok (.istore_n 1, 1) by decide +kernel) rfl rfl (Nat.le_of_ble_eq_true rfl) rfl rfl ?_
    refine tr_iconst (pc' := 50) (v := (0 : Int32)) (show decode cX9_stays 49 = .ok (.iconst 0, 1) by decide +kernel) rfl (by decide) ?_
    refine tr_istore_n (pc' := 51) (lv' := [some (.ref 64), some (.int (0 : Int32)), some (.int (0 : Int32))]) (show decode cX9_stays 50 = .ok (.istore_n 2, 1) by decide +kernel) rfl rfl (Nat.le_of_ble_eq_true rfl) rfl rfl ?_
    refine ok_X9_stays_L51 hfr _ ?_ _ (0 : Int32) (0 : Int32) μz6 hL h
    · intro z9_1 μz9 hL h
      refine tr_iload_n (pc' := 93) (show decode cX9_stays 92 = .ok (.iload_n 1, 1) by decide +kernel) rfl rfl rfl ?_
      cases h
      exact tr_iret rfl (show decode cX9_stays 93 = .ok (.ireturn, 1) by decide +kernel) hL
def f_X9_seen_J14 (v1 : Int32) (v2 : Int32) (v3 : Int32) (μ1 : hm_M) : Option (Int32 × hm_M) :=
  hm_b2 (f_X9_refused (-1 : Int32) μ1) fun x2 μ3 =>
  some (x2, μ3)
theorem ok_X9_seen_J14 {fr : Nat} (hfr : 2 ≤ fr) {ν : hm_N} {r : Int32} {μR : hm_M}  (v1 : Int32) (v2 : Int32) (v3 : Int32)     (μ1 : hm_M) (hL : hm_LL ν μ1) (h : f_X9_seen_J14 v1 v2 v3 μ1 = some (r, μR)) : hm_T (hm_LL ν) m_X9_seen fr 0 0 (some (.int r)) μR 14 [some (.ref 64), none, none, none] [] μ1 := by
  unfold f_X9_seen_J14 at h
  refine tr_aload_n (pc' := 15) (show decode cX9_seen 14 = .ok (.aload_n 0, 1) by decide +kernel) rfl rfl rfl ?_
  refine tr_iconst (pc' := 16) (v := (-1 : Int32)) (show decode cX9_seen 15 = .ok (.iconst (-1), 1) by decide +kernel) rfl (by decide) ?_
  obtain ⟨x2, μ3, ex2, h⟩ := hm_b2s h
  have cx2 := ok_X9_refused (fr := fr - 1) (ν := ν) (by omega) (-1 : Int32) μ1 hL ex2
  refine tp_callV (pc' := 19) (As := [.int (-1 : Int32)]) (fr1 := fr - 1) (ci := 9) okm_X9_refused lk_HandRing_96 (show decode cX9_seen 16 = .ok (.invokevirtual 96, 3) by decide +kernel) rfl rfl rfl (by decide) (la_o hL (by decide) rfl) rfl rfl (Nat.le_of_ble_eq_true rfl) (by omega) cx2 (st' := [.int x2]) rfl ?_
  replace hL := cx2.1
  cases h
  exact tr_iret rfl (show decode cX9_seen 19 = .ok (.ireturn, 1) by decide +kernel) hL
def f_X9_seen_J42 (v1 : Int32) (v2 : Int32) (v3 : Int32) (μ1 : hm_M) : Option (Int32 × hm_M) :=
  hm_b2 (f_X9_refused (-2 : Int32) μ1) fun x5 μ6 =>
  some (x5, μ6)
theorem ok_X9_seen_J42 {fr : Nat} (hfr : 2 ≤ fr) {ν : hm_N} {r : Int32} {μR : hm_M}  (v1 : Int32) (v2 : Int32) (v3 : Int32)     (μ1 : hm_M) (hL : hm_LL ν μ1) (h : f_X9_seen_J42 v1 v2 v3 μ1 = some (r, μR)) : hm_T (hm_LL ν) m_X9_seen fr 0 0 (some (.int r)) μR 42 [some (.ref 64), none, none, none] [] μ1 := by
  unfold f_X9_seen_J42 at h
  refine tr_aload_n (pc' := 43) (show decode cX9_seen 42 = .ok (.aload_n 0, 1) by decide +kernel) rfl rfl rfl ?_
  refine tr_bipush (pc' := 45) (v := (-2 : Int32)) (show decode cX9_seen 43 = .ok (.bipush (-2), 2) by decide +kernel) rfl (by decide) ?_
  obtain ⟨x5, μ6, ex5, h⟩ := hm_b2s h
  have cx5 := ok_X9_refused (fr := fr - 1) (ν := ν) (by omega) (-2 : Int32) μ1 hL ex5
  refine tp_callV (pc' := 48) (As := [.int (-2 : Int32)]) (fr1 := fr - 1) (ci := 9) okm_X9_refused lk_HandRing_96 (show decode cX9_seen 45 = .ok (.invokevirtual 96, 3) by decide +kernel) rfl rfl rfl (by decide) (la_o hL (by decide) rfl) rfl rfl (Nat.le_of_ble_eq_true rfl) (by omega) cx5 (st' := [.int x5]) rfl ?_
  replace hL := cx5.1
  cases h
  exact tr_iret rfl (show decode cX9_seen 48 = .ok (.ireturn, 1) by decide +kernel) hL
def f_X9_seen (v1 : Int32) (v2 : Int32) (v3 : Int32) (μ : hm_M) : Option (Int32 × hm_M) :=
  (if v1 = v2 then
  f_X9_seen_J14 v1 v2 v3 μ
  else
  (if v3 < 0 then
  f_X9_seen_J14 v1 v2 v3 μ
  else
  (if v3 ≤ (1 : Int32) then
  Option.bind (f_X8_has 65 v1 μ) fun x4 =>
  (if x4 = 0 then
  f_X9_seen_J42 v1 v2 v3 μ
  else
  Option.bind (f_X8_has 65 v2 μ) fun x7 =>
  (if x7 = 0 then
  f_X9_seen_J42 v1 v2 v3 μ
  else
  (if (μ.1 65 12) < (6 : Int32) then
  hm_b2 (f_X8_addSeen 65 v1 v2 v3 μ) fun x8 μ9 =>
  hm_b2 (f_X9_granted x8 μ9) fun x10 μ11 =>
  some (x10, μ11)
  else
  hm_b2 (f_X9_refused (-5 : Int32) μ) fun x12 μ13 =>
  some (x12, μ13))))
  else
  f_X9_seen_J14 v1 v2 v3 μ)))
set_option maxRecDepth 100000 in
theorem ok_X9_seen {fr : Nat} (hfr : 2 ≤ fr) {ν : hm_N} {r : Int32} {μR : hm_M}  (v1 : Int32) (v2 : Int32) (v3 : Int32)  (μ : hm_M) (hL : hm_LL ν μ) (h : f_X9_seen v1 v2 v3 μ = some (r, μR)) : hm_CC (hm_LL ν) m_X9_seen fr 0 0 [.ref 64, .int v1, .int v2, .int v3] μ (some (.int r)) μR := by
  refine hm_enter (lv := [some (.ref 64), some (.int v1), some (.int v2), some (.int v3)]) (by decide) rfl (Nat.le_of_ble_eq_true rfl) ?_
  unfold f_X9_seen at h
  refine tr_iload_n (pc' := 1) (show decode cX9_seen 0 = .ok (.iload_n 1, 1) by decide +kernel) rfl rfl rfl ?_
  refine tr_iload_n (pc' := 2) (show decode cX9_seen 1 = .ok (.iload_n 2, 1) by decide +kernel) rfl rfl rfl ?_
  rcases hm_is h with ⟨hc, h⟩ | ⟨hc, h⟩
  · refine tr_icmp_eq_t (tgt := 14) hc (show decode cX9_seen 2 = .ok (.if_icmp .eq 12, 3) by decide +kernel) (by decide) ?_
    refine hm_fgt [true, false, false, false] (lv' := [some (.ref 64), none, none, none]) rfl ?_
    exact ok_X9_seen_J14 hfr _ _ _ μ hL h
  · refine tr_icmp_eq_f (tgt := 14) (pc' := 5) hc (show decode cX9_seen 2 = .ok (.if_icmp .eq 12, 3) by decide +kernel) (by decide) rfl ?_
    refine tr_iload_n (pc' := 6) (show decode cX9_seen 5 = .ok (.iload_n 3, 1) by decide +kernel) rfl rfl rfl ?_
    rcases hm_is h with ⟨hc, h⟩ | ⟨hc, h⟩
    · refine tr_if_lt_t (tgt := 14) hc (show decode cX9_seen 6 = .ok (.ifCond .lt 8, 3) by decide +kernel) (by decide) ?_
      refine hm_fgt [true, false, false, false] (lv' := [some (.ref 64), none, none, none]) rfl ?_
      exact ok_X9_seen_J14 hfr _ _ _ μ hL h
    · refine tr_if_lt_f (tgt := 14) (pc' := 9) hc (show decode cX9_seen 6 = .ok (.ifCond .lt 8, 3) by decide +kernel) (by decide) rfl ?_
      refine tr_iload_n (pc' := 10) (show decode cX9_seen 9 = .ok (.iload_n 3, 1) by decide +kernel) rfl rfl rfl ?_
      refine tr_iconst (pc' := 11) (v := (1 : Int32)) (show decode cX9_seen 10 = .ok (.iconst 1, 1) by decide +kernel) rfl (by decide) ?_
      rcases hm_is h with ⟨hc, h⟩ | ⟨hc, h⟩
      · refine tr_icmp_le_t (tgt := 20) hc (show decode cX9_seen 11 = .ok (.if_icmp .le 9, 3) by decide +kernel) (by decide) ?_
        refine tr_aload_n (pc' := 21) (show decode cX9_seen 20 = .ok (.aload_n 0, 1) by decide +kernel) rfl rfl rfl ?_
        refine tr_getR (pc' := 24) fl_HandRing_12 (show decode cX9_seen 21 = .ok (.getfield 12, 3) by decide +kernel) rfl (la_o hL (by decide) rfl) (la_r hL 0 rfl) ?_
        refine tr_iload_n (pc' := 25) (show decode cX9_seen 24 = .ok (.iload_n 1, 1) by decide +kernel) rfl rfl rfl ?_
        obtain ⟨x4, ex4, h⟩ := hm_bs h
        have cx4 := ok_X8_has (fr := fr - 1) (ν := ν) (by omega) 65 v1 (by unfold hm_V; decide) μ hL ex4
        refine tp_callV (pc' := 28) (As := [.int v1]) (fr1 := fr - 1) (ci := 8) okm_X8_has lk_HandRing_113 (show decode cX9_seen 25 = .ok (.invokevirtual 113, 3) by decide +kernel) rfl rfl rfl (by decide) (la_o hL (by decide) rfl) rfl rfl (Nat.le_of_ble_eq_true rfl) (by omega) cx4 (st' := [.int x4]) rfl ?_
        rcases hm_is h with ⟨hc, h⟩ | ⟨hc, h⟩
        · refine tr_if_eq_t (tgt := 42) hc (show decode cX9_seen 28 = .ok (.ifCond .eq 14, 3) by decide +kernel) (by decide) ?_
          refine hm_fgt [true, false, false, false] (lv' := [some (.ref 64), none, none, none]) rfl ?_
          exact ok_X9_seen_J42 hfr _ _ _ μ hL h
        · refine tr_if_eq_f (tgt := 42) (pc' := 31) hc (show decode cX9_seen 28 = .ok (.ifCond .eq 14, 3) by decide +kernel) (by decide) rfl ?_
          refine tr_aload_n (pc' := 32) (show decode cX9_seen 31 = .ok (.aload_n 0, 1) by decide +kernel) rfl rfl rfl ?_
          refine tr_getR (pc' := 35) fl_HandRing_12 (show decode cX9_seen 32 = .ok (.getfield 12, 3) by decide +kernel) rfl (la_o hL (by decide) rfl) (la_r hL 0 rfl) ?_
          refine tr_iload_n (pc' := 36) (show decode cX9_seen 35 = .ok (.iload_n 2, 1) by decide +kernel) rfl rfl rfl ?_
          obtain ⟨x7, ex7, h⟩ := hm_bs h
          have cx7 := ok_X8_has (fr := fr - 1) (ν := ν) (by omega) 65 v2 (by unfold hm_V; decide) μ hL ex7
          refine tp_callV (pc' := 39) (As := [.int v2]) (fr1 := fr - 1) (ci := 8) okm_X8_has lk_HandRing_113 (show decode cX9_seen 36 = .ok (.invokevirtual 113, 3) by decide +kernel) rfl rfl rfl (by decide) (la_o hL (by decide) rfl) rfl rfl (Nat.le_of_ble_eq_true rfl) (by omega) cx7 (st' := [.int x7]) rfl ?_
          rcases hm_is h with ⟨hc, h⟩ | ⟨hc, h⟩
          · refine tr_if_ne_f (tgt := 49) (pc' := 42) hc (show decode cX9_seen 39 = .ok (.ifCond .ne 10, 3) by decide +kernel) (by decide) rfl ?_
            refine hm_fgt [true, false, false, false] (lv' := [some (.ref 64), none, none, none]) rfl ?_
            exact ok_X9_seen_J42 hfr _ _ _ μ hL h
          · refine tr_if_ne_t (tgt := 49) hc (show decode cX9_seen 39 = .ok (.ifCond .ne 10, 3) by decide +kernel) (by decide) ?_
            refine tr_aload_n (pc' := 50) (show decode cX9_seen 49 = .ok (.aload_n 0, 1) by decide +kernel) rfl rfl rfl ?_
            refine tr_getR (pc' := 53) fl_HandRing_12 (show decode cX9_seen 50 = .ok (.getfield 12, 3) by decide +kernel) rfl (la_o hL (by decide) rfl) (la_r hL 0 rfl) ?_
            refine tr_getI (pc' := 56) fl_HandRing_281 (show decode cX9_seen 53 = .ok (.getfield 281, 3) by decide +kernel) rfl (la_o hL (by decide) rfl) ?_
            refine tr_bipush (pc' := 58) (v := (6 : Int32)) (show decode cX9_seen 56 = .ok (.bipush 6, 2) by decide +kernel) rfl (by decide) ?_
            rcases hm_is h with ⟨hc, h⟩ | ⟨hc, h⟩
            · refine tr_icmp_lt_t (tgt := 68) hc (show decode cX9_seen 58 = .ok (.if_icmp .lt 10, 3) by decide +kernel) (by decide) ?_
              refine tr_aload_n (pc' := 69) (show decode cX9_seen 68 = .ok (.aload_n 0, 1) by decide +kernel) rfl rfl rfl ?_
              refine tr_aload_n (pc' := 70) (show decode cX9_seen 69 = .ok (.aload_n 0, 1) by decide +kernel) rfl rfl rfl ?_
              refine tr_getR (pc' := 73) fl_HandRing_12 (show decode cX9_seen 70 = .ok (.getfield 12, 3) by decide +kernel) rfl (la_o hL (by decide) rfl) (la_r hL 0 rfl) ?_
              refine tr_iload_n (pc' := 74) (show decode cX9_seen 73 = .ok (.iload_n 1, 1) by decide +kernel) rfl rfl rfl ?_
              refine tr_iload_n (pc' := 75) (show decode cX9_seen 74 = .ok (.iload_n 2, 1) by decide +kernel) rfl rfl rfl ?_
              refine tr_iload_n (pc' := 76) (show decode cX9_seen 75 = .ok (.iload_n 3, 1) by decide +kernel) rfl rfl rfl ?_
              obtain ⟨x8, μ9, ex8, h⟩ := hm_b2s h
              have cx8 := ok_X8_addSeen (fr := fr - 1) (ν := ν) (by omega) 65 v1 v2 v3 (by unfold hm_V; decide) μ hL ex8
              refine tp_callV (pc' := 79) (As := [.int v1, .int v2, .int v3]) (fr1 := fr - 1) (ci := 8) okm_X8_addSeen lk_HandRing_284 (show decode cX9_seen 76 = .ok (.invokevirtual 284, 3) by decide +kernel) rfl rfl rfl (by decide) (la_o hL (by decide) rfl) rfl rfl (Nat.le_of_ble_eq_true rfl) (by omega) cx8 (st' := [.int x8, .ref 64]) rfl ?_
              replace hL := cx8.1
              obtain ⟨x10, μ11, ex10, h⟩ := hm_b2s h
              have cx10 := ok_X9_granted (fr := fr - 1) (ν := ν) (by omega) x8 μ9 hL ex10
              refine tp_callV (pc' := 82) (As := [.int x8]) (fr1 := fr - 1) (ci := 9) okm_X9_granted lk_HandRing_110 (show decode cX9_seen 79 = .ok (.invokevirtual 110, 3) by decide +kernel) rfl rfl rfl (by decide) (la_o hL (by decide) rfl) rfl rfl (Nat.le_of_ble_eq_true rfl) (by omega) cx10 (st' := [.int x10]) rfl ?_
              replace hL := cx10.1
              cases h
              exact tr_iret rfl (show decode cX9_seen 82 = .ok (.ireturn, 1) by decide +kernel) hL
            · refine tr_icmp_lt_f (tgt := 68) (pc' := 61) hc (show decode cX9_seen 58 = .ok (.if_icmp .lt 10, 3) by decide +kernel) (by decide) rfl ?_
              refine tr_aload_n (pc' := 62) (show decode cX9_seen 61 = .ok (.aload_n 0, 1) by decide +kernel) rfl rfl rfl ?_
              refine tr_bipush (pc' := 64) (v := (-5 : Int32)) (show decode cX9_seen 62 = .ok (.bipush (-5), 2) by decide +kernel) rfl (by decide) ?_
              obtain ⟨x12, μ13, ex12, h⟩ := hm_b2s h
              have cx12 := ok_X9_refused (fr := fr - 1) (ν := ν) (by omega) (-5 : Int32) μ hL ex12
              refine tp_callV (pc' := 67) (As := [.int (-5 : Int32)]) (fr1 := fr - 1) (ci := 9) okm_X9_refused lk_HandRing_96 (show decode cX9_seen 64 = .ok (.invokevirtual 96, 3) by decide +kernel) rfl rfl rfl (by decide) (la_o hL (by decide) rfl) rfl rfl (Nat.le_of_ble_eq_true rfl) (by omega) cx12 (st' := [.int x12]) rfl ?_
              replace hL := cx12.1
              cases h
              exact tr_iret rfl (show decode cX9_seen 67 = .ok (.ireturn, 1) by decide +kernel) hL
      · refine tr_icmp_le_f (tgt := 20) (pc' := 14) hc (show decode cX9_seen 11 = .ok (.if_icmp .le 9, 3) by decide +kernel) (by decide) rfl ?_
        refine hm_fgt [true, false, false, false] (lv' := [some (.ref 64), none, none, none]) rfl ?_
        exact ok_X9_seen_J14 hfr _ _ _ μ hL h
def f_X9_forget (μ : hm_M) : Option (Int32 × hm_M) :=
  Option.bind (hm_pI μ 65 12 (0 : Int32)) fun μ2 =>
  some (μ.1 65 12, μ2)
set_option maxRecDepth 100000 in
theorem ok_X9_forget {fr : Nat} (hfr : 0 ≤ fr) {ν : hm_N} {r : Int32} {μR : hm_M}    (μ : hm_M) (hL : hm_LL ν μ) (h : f_X9_forget μ = some (r, μR)) : hm_CC (hm_LL ν) m_X9_forget fr 0 0 [.ref 64] μ (some (.int r)) μR := by
  refine hm_enter (lv := [some (.ref 64), none]) (by decide) rfl (Nat.le_of_ble_eq_true rfl) ?_
  unfold f_X9_forget at h
  refine tr_aload_n (pc' := 1) (show decode cX9_forget 0 = .ok (.aload_n 0, 1) by decide +kernel) rfl rfl rfl ?_
  refine tr_getR (pc' := 4) fl_HandRing_12 (show decode cX9_forget 1 = .ok (.getfield 12, 3) by decide +kernel) rfl (la_o hL (by decide) rfl) (la_r hL 0 rfl) ?_
  refine tr_getI (pc' := 7) fl_HandRing_281 (show decode cX9_forget 4 = .ok (.getfield 281, 3) by decide +kernel) rfl (la_o hL (by decide) rfl) ?_
  refine tr_istore_n (pc' := 8) (lv' := [some (.ref 64), some (.int (μ.1 65 12))]) (show decode cX9_forget 7 = .ok (.istore_n 1, 1) by decide +kernel) rfl rfl (Nat.le_of_ble_eq_true rfl) rfl rfl ?_
  refine tr_aload_n (pc' := 9) (show decode cX9_forget 8 = .ok (.aload_n 0, 1) by decide +kernel) rfl rfl rfl ?_
  refine tr_getR (pc' := 12) fl_HandRing_12 (show decode cX9_forget 9 = .ok (.getfield 12, 3) by decide +kernel) rfl (la_o hL (by decide) rfl) (la_r hL 0 rfl) ?_
  refine tr_iconst (pc' := 13) (v := (0 : Int32)) (show decode cX9_forget 12 = .ok (.iconst 0, 1) by decide +kernel) rfl (by decide) ?_
  obtain ⟨μ2, eμ2, h⟩ := hm_bs h
  refine tp_pI (pc' := 16) fl_HandRing_281 (show decode cX9_forget 13 = .ok (.putfield 281, 3) by decide +kernel) rfl (la_o hL (by decide) rfl) eμ2 ?_
  replace hL := hL.same (hm_pI_s eμ2)
  refine tr_iload_n (pc' := 17) (show decode cX9_forget 16 = .ok (.iload_n 1, 1) by decide +kernel) rfl rfl rfl ?_
  cases h
  exact tr_iret rfl (show decode cX9_forget 17 = .ok (.ireturn, 1) by decide +kernel) hL
def f_X9_fits (v1 : Int32) (μ : hm_M) : Option (Int32 × hm_M) :=
  Option.bind (f_X8_lawInForce 65 μ) fun x2 =>
  hm_b2 (f_X0_drawSeen 65 x2 μ) fun x3 μ4 =>
  Option.bind (f_X0_solve (0 : Int32) μ4) fun μ6 =>
  Option.bind (f_X0_hasRound x3 μ6) fun x7 =>
  (if v1 = 0 then
  (if x7 = 0 then
  some ((0 : Int32), μ6)
  else
  Option.bind (f_X0_countRounds x3 μ6) fun x9 =>
  some (x9, μ6))
  else
  (if x7 = 0 then
  some ((-1 : Int32), μ6)
  else
  Option.bind (f_X0_inRow x3 (v1 - (1 : Int32)) μ6) fun x8 =>
  some (x8, μ6)))
set_option maxRecDepth 100000 in
theorem ok_X9_fits {fr : Nat} (hfr : 7 ≤ fr) {ν : hm_N} {r : Int32} {μR : hm_M}  (v1 : Int32)  (μ : hm_M) (hL : hm_LL ν μ) (h : f_X9_fits v1 μ = some (r, μR)) : hm_CC (hm_LL ν) m_X9_fits fr 0 0 [.ref 64, .int v1] μ (some (.int r)) μR := by
  refine hm_enter (lv := [some (.ref 64), some (.int v1), none, none]) (by decide) rfl (Nat.le_of_ble_eq_true rfl) ?_
  unfold f_X9_fits at h
  refine tr_aload_n (pc' := 1) (show decode cX9_fits 0 = .ok (.aload_n 0, 1) by decide +kernel) rfl rfl rfl ?_
  refine tr_getR (pc' := 4) fl_HandRing_62 (show decode cX9_fits 1 = .ok (.getfield 62, 3) by decide +kernel) rfl (la_o hL (by decide) rfl) (la_r hL 8 rfl) ?_
  refine tr_aload_n (pc' := 5) (show decode cX9_fits 4 = .ok (.aload_n 0, 1) by decide +kernel) rfl rfl rfl ?_
  refine tr_getR (pc' := 8) fl_HandRing_12 (show decode cX9_fits 5 = .ok (.getfield 12, 3) by decide +kernel) rfl (la_o hL (by decide) rfl) (la_r hL 0 rfl) ?_
  refine tr_aload_n (pc' := 9) (show decode cX9_fits 8 = .ok (.aload_n 0, 1) by decide +kernel) rfl rfl rfl ?_
  refine tr_getR (pc' := 12) fl_HandRing_12 (show decode cX9_fits 9 = .ok (.getfield 12, 3) by decide +kernel) rfl (la_o hL (by decide) rfl) (la_r hL 0 rfl) ?_
  obtain ⟨x2, ex2, h⟩ := hm_bs h
  have cx2 := ok_X8_lawInForce (fr := fr - 1) (ν := ν) (by omega) 65 (by unfold hm_V; decide) μ hL ex2
  refine tp_callV (pc' := 15) (As := []) (fr1 := fr - 1) (ci := 8) okm_X8_lawInForce lk_HandRing_129 (show decode cX9_fits 12 = .ok (.invokevirtual 129, 3) by decide +kernel) rfl rfl rfl (by decide) (la_o hL (by decide) rfl) rfl rfl (Nat.le_of_ble_eq_true rfl) (by omega) cx2 (st' := [va_rf x2, .ref 65, .ref 145]) rfl ?_
  have hx2 := la_lif hL (by unfold hm_V; decide) ex2
  obtain ⟨x3, μ4, ex3, h⟩ := hm_b2s h
  have cx3 := ok_X0_drawSeen (fr := fr - 1) (ν := ν) (by omega) 65 x2 (by unfold hm_V; decide) hx2 μ hL ex3
  refine tp_callV (pc' := 18) (As := [.ref 65, va_rf x2]) (fr1 := fr - 1) (ci := 0) okm_X0_drawSeen lk_HandRing_287 (show decode cX9_fits 15 = .ok (.invokevirtual 287, 3) by decide +kernel) rfl rfl rfl (by decide) (la_o hL (by decide) rfl) rfl rfl (Nat.le_of_ble_eq_true rfl) (by omega) cx3 (st' := [.int x3]) rfl ?_
  replace hL := cx3.1
  refine tr_istore_n (pc' := 19) (lv' := [some (.ref 64), some (.int v1), some (.int x3), none]) (show decode cX9_fits 18 = .ok (.istore_n 2, 1) by decide +kernel) rfl rfl (Nat.le_of_ble_eq_true rfl) rfl rfl ?_
  refine tr_aload_n (pc' := 20) (show decode cX9_fits 19 = .ok (.aload_n 0, 1) by decide +kernel) rfl rfl rfl ?_
  refine tr_getR (pc' := 23) fl_HandRing_62 (show decode cX9_fits 20 = .ok (.getfield 62, 3) by decide +kernel) rfl (la_o hL (by decide) rfl) (la_r hL 8 rfl) ?_
  refine tr_iconst (pc' := 24) (v := (0 : Int32)) (show decode cX9_fits 23 = .ok (.iconst 0, 1) by decide +kernel) rfl (by decide) ?_
  obtain ⟨μ6, ex5, h⟩ := hm_bs h
  have cx5 := ok_X0_solve (fr := fr - 1) (ν := ν) (by omega) (0 : Int32) μ4 hL ex5
  refine tp_callV (pc' := 27) (As := [.int (0 : Int32)]) (fr1 := fr - 1) (ci := 0) okm_X0_solve lk_HandRing_247 (show decode cX9_fits 24 = .ok (.invokevirtual 247, 3) by decide +kernel) rfl rfl rfl (by decide) (la_o hL (by decide) rfl) rfl rfl (Nat.le_of_ble_eq_true rfl) (by omega) cx5 (st' := []) rfl ?_
  replace hL := cx5.1
  refine tr_aload_n (pc' := 28) (show decode cX9_fits 27 = .ok (.aload_n 0, 1) by decide +kernel) rfl rfl rfl ?_
  refine tr_getR (pc' := 31) fl_HandRing_62 (show decode cX9_fits 28 = .ok (.getfield 62, 3) by decide +kernel) rfl (la_o hL (by decide) rfl) (la_r hL 8 rfl) ?_
  refine tr_iload_n (pc' := 32) (show decode cX9_fits 31 = .ok (.iload_n 2, 1) by decide +kernel) rfl rfl rfl ?_
  obtain ⟨x7, ex7, h⟩ := hm_bs h
  have cx7 := ok_X0_hasRound (fr := fr - 1) (ν := ν) (by omega) x3 μ6 hL ex7
  refine tp_callV (pc' := 35) (As := [.int x3]) (fr1 := fr - 1) (ci := 0) okm_X0_hasRound lk_HandRing_291 (show decode cX9_fits 32 = .ok (.invokevirtual 291, 3) by decide +kernel) rfl rfl rfl (by decide) (la_o hL (by decide) rfl) rfl rfl (Nat.le_of_ble_eq_true rfl) (by omega) cx7 (st' := [.int x7]) rfl ?_
  refine tr_istore_n (pc' := 36) (lv' := [some (.ref 64), some (.int v1), some (.int x3), some (.int x7)]) (show decode cX9_fits 35 = .ok (.istore_n 3, 1) by decide +kernel) rfl rfl (Nat.le_of_ble_eq_true rfl) rfl rfl ?_
  refine tr_iload_n (pc' := 37) (show decode cX9_fits 36 = .ok (.iload_n 1, 1) by decide +kernel) rfl rfl rfl ?_
  rcases hm_is h with ⟨hc, h⟩ | ⟨hc, h⟩
  · refine tr_if_ne_f (tgt := 57) (pc' := 40) hc (show decode cX9_fits 37 = .ok (.ifCond .ne 20, 3) by decide +kernel) (by decide) rfl ?_
    refine tr_iload_n (pc' := 41) (show decode cX9_fits 40 = .ok (.iload_n 3, 1) by decide +kernel) rfl rfl rfl ?_
    rcases hm_is h with ⟨hc, h⟩ | ⟨hc, h⟩
    · refine tr_if_eq_t (tgt := 55) hc (show decode cX9_fits 41 = .ok (.ifCond .eq 14, 3) by decide +kernel) (by decide) ?_
      refine tr_iconst (pc' := 56) (v := (0 : Int32)) (show decode cX9_fits 55 = .ok (.iconst 0, 1) by decide +kernel) rfl (by decide) ?_
      cases h
      exact tr_iret rfl (show decode cX9_fits 56 = .ok (.ireturn, 1) by decide +kernel) hL
    · refine tr_if_eq_f (tgt := 55) (pc' := 44) hc (show decode cX9_fits 41 = .ok (.ifCond .eq 14, 3) by decide +kernel) (by decide) rfl ?_
      refine tr_aload_n (pc' := 45) (show decode cX9_fits 44 = .ok (.aload_n 0, 1) by decide +kernel) rfl rfl rfl ?_
      refine tr_getR (pc' := 48) fl_HandRing_62 (show decode cX9_fits 45 = .ok (.getfield 62, 3) by decide +kernel) rfl (la_o hL (by decide) rfl) (la_r hL 8 rfl) ?_
      refine tr_iload_n (pc' := 49) (show decode cX9_fits 48 = .ok (.iload_n 2, 1) by decide +kernel) rfl rfl rfl ?_
      obtain ⟨x9, ex9, h⟩ := hm_bs h
      have cx9 := ok_X0_countRounds (fr := fr - 1) (ν := ν) (by omega) x3 μ6 hL ex9
      refine tp_callV (pc' := 52) (As := [.int x3]) (fr1 := fr - 1) (ci := 0) okm_X0_countRounds lk_HandRing_257 (show decode cX9_fits 49 = .ok (.invokevirtual 257, 3) by decide +kernel) rfl rfl rfl (by decide) (la_o hL (by decide) rfl) rfl rfl (Nat.le_of_ble_eq_true rfl) (by omega) cx9 (st' := [.int x9]) rfl ?_
      refine tr_goto (tgt := 56) (show decode cX9_fits 52 = .ok (.goto 4, 3) by decide +kernel) rfl ?_
      cases h
      exact tr_iret rfl (show decode cX9_fits 56 = .ok (.ireturn, 1) by decide +kernel) hL
  · refine tr_if_ne_t (tgt := 57) hc (show decode cX9_fits 37 = .ok (.ifCond .ne 20, 3) by decide +kernel) (by decide) ?_
    refine tr_iload_n (pc' := 58) (show decode cX9_fits 57 = .ok (.iload_n 3, 1) by decide +kernel) rfl rfl rfl ?_
    rcases hm_is h with ⟨hc, h⟩ | ⟨hc, h⟩
    · refine tr_if_eq_t (tgt := 75) hc (show decode cX9_fits 58 = .ok (.ifCond .eq 17, 3) by decide +kernel) (by decide) ?_
      refine tr_iconst (pc' := 76) (v := (-1 : Int32)) (show decode cX9_fits 75 = .ok (.iconst (-1), 1) by decide +kernel) rfl (by decide) ?_
      cases h
      exact tr_iret rfl (show decode cX9_fits 76 = .ok (.ireturn, 1) by decide +kernel) hL
    · refine tr_if_eq_f (tgt := 75) (pc' := 61) hc (show decode cX9_fits 58 = .ok (.ifCond .eq 17, 3) by decide +kernel) (by decide) rfl ?_
      refine tr_aload_n (pc' := 62) (show decode cX9_fits 61 = .ok (.aload_n 0, 1) by decide +kernel) rfl rfl rfl ?_
      refine tr_getR (pc' := 65) fl_HandRing_62 (show decode cX9_fits 62 = .ok (.getfield 62, 3) by decide +kernel) rfl (la_o hL (by decide) rfl) (la_r hL 8 rfl) ?_
      refine tr_iload_n (pc' := 66) (show decode cX9_fits 65 = .ok (.iload_n 2, 1) by decide +kernel) rfl rfl rfl ?_
      refine tr_iload_n (pc' := 67) (show decode cX9_fits 66 = .ok (.iload_n 1, 1) by decide +kernel) rfl rfl rfl ?_
      refine tr_iconst (pc' := 68) (v := (1 : Int32)) (show decode cX9_fits 67 = .ok (.iconst 1, 1) by decide +kernel) rfl (by decide) ?_
      refine tr_isub (pc' := 69) (show decode cX9_fits 68 = .ok (.isub, 1) by decide +kernel) rfl ?_
      obtain ⟨x8, ex8, h⟩ := hm_bs h
      have cx8 := ok_X0_inRow (fr := fr - 1) (ν := ν) (by omega) x3 (v1 - (1 : Int32)) μ6 hL ex8
      refine tp_callV (pc' := 72) (As := [.int x3, .int (v1 - (1 : Int32))]) (fr1 := fr - 1) (ci := 0) okm_X0_inRow lk_HandRing_294 (show decode cX9_fits 69 = .ok (.invokevirtual 294, 3) by decide +kernel) rfl rfl rfl (by decide) (la_o hL (by decide) rfl) rfl rfl (Nat.le_of_ble_eq_true rfl) (by omega) cx8 (st' := [.int x8]) rfl ?_
      refine tr_goto (tgt := 76) (show decode cX9_fits 72 = .ok (.goto 4, 3) by decide +kernel) rfl ?_
      cases h
      exact tr_iret rfl (show decode cX9_fits 76 = .ok (.ireturn, 1) by decide +kernel) hL
def f_X9_ask_J11 (v1 : Int32) (μ1 : hm_M) : Option (Int32 × hm_M) :=
  Option.bind (f_X8_lawInForce 65 μ1) fun x2 =>
  hm_b2 (f_X0_drawSeen 65 x2 μ1) fun x3 μ4 =>
  Option.bind (f_X0_solve (0 : Int32) μ4) fun μ6 =>
  Option.bind (f_X0_hasRound x3 μ6) fun x7 =>
  (if x7 = 0 then
  some ((-1 : Int32), μ6)
  else
  Option.bind (f_X0_bestAsked x3 μ6) fun x8 =>
  (if v1 = 0 then
  some (x8, μ6)
  else
  (if x8 = (-1 : Int32) then
  some (x8, μ6)
  else
  Option.bind (f_X0_leftAtMost (x8 / (10 : Int32)) (x8 - x8 / (10 : Int32) * (10 : Int32)) x3 μ6) fun x9 =>
  some (x9, μ6))))
theorem ok_X9_ask_J11 {fr : Nat} (hfr : 7 ≤ fr) {ν : hm_N} {r : Int32} {μR : hm_M}  (v1 : Int32)     (μ1 : hm_M) (hL : hm_LL ν μ1) (h : f_X9_ask_J11 v1 μ1 = some (r, μR)) : hm_T (hm_LL ν) m_X9_ask fr 0 0 (some (.int r)) μR 11 [some (.ref 64), some (.int v1), none, none] [] μ1 := by
  unfold f_X9_ask_J11 at h
  refine tr_aload_n (pc' := 12) (show decode cX9_ask 11 = .ok (.aload_n 0, 1) by decide +kernel) rfl rfl rfl ?_
  refine tr_getR (pc' := 15) fl_HandRing_62 (show decode cX9_ask 12 = .ok (.getfield 62, 3) by decide +kernel) rfl (la_o hL (by decide) rfl) (la_r hL 8 rfl) ?_
  refine tr_aload_n (pc' := 16) (show decode cX9_ask 15 = .ok (.aload_n 0, 1) by decide +kernel) rfl rfl rfl ?_
  refine tr_getR (pc' := 19) fl_HandRing_12 (show decode cX9_ask 16 = .ok (.getfield 12, 3) by decide +kernel) rfl (la_o hL (by decide) rfl) (la_r hL 0 rfl) ?_
  refine tr_aload_n (pc' := 20) (show decode cX9_ask 19 = .ok (.aload_n 0, 1) by decide +kernel) rfl rfl rfl ?_
  refine tr_getR (pc' := 23) fl_HandRing_12 (show decode cX9_ask 20 = .ok (.getfield 12, 3) by decide +kernel) rfl (la_o hL (by decide) rfl) (la_r hL 0 rfl) ?_
  obtain ⟨x2, ex2, h⟩ := hm_bs h
  have cx2 := ok_X8_lawInForce (fr := fr - 1) (ν := ν) (by omega) 65 (by unfold hm_V; decide) μ1 hL ex2
  refine tp_callV (pc' := 26) (As := []) (fr1 := fr - 1) (ci := 8) okm_X8_lawInForce lk_HandRing_129 (show decode cX9_ask 23 = .ok (.invokevirtual 129, 3) by decide +kernel) rfl rfl rfl (by decide) (la_o hL (by decide) rfl) rfl rfl (Nat.le_of_ble_eq_true rfl) (by omega) cx2 (st' := [va_rf x2, .ref 65, .ref 145]) rfl ?_
  have hx2 := la_lif hL (by unfold hm_V; decide) ex2
  obtain ⟨x3, μ4, ex3, h⟩ := hm_b2s h
  have cx3 := ok_X0_drawSeen (fr := fr - 1) (ν := ν) (by omega) 65 x2 (by unfold hm_V; decide) hx2 μ1 hL ex3
  refine tp_callV (pc' := 29) (As := [.ref 65, va_rf x2]) (fr1 := fr - 1) (ci := 0) okm_X0_drawSeen lk_HandRing_287 (show decode cX9_ask 26 = .ok (.invokevirtual 287, 3) by decide +kernel) rfl rfl rfl (by decide) (la_o hL (by decide) rfl) rfl rfl (Nat.le_of_ble_eq_true rfl) (by omega) cx3 (st' := [.int x3]) rfl ?_
  replace hL := cx3.1
  refine tr_istore_n (pc' := 30) (lv' := [some (.ref 64), some (.int v1), some (.int x3), none]) (show decode cX9_ask 29 = .ok (.istore_n 2, 1) by decide +kernel) rfl rfl (Nat.le_of_ble_eq_true rfl) rfl rfl ?_
  refine tr_aload_n (pc' := 31) (show decode cX9_ask 30 = .ok (.aload_n 0, 1) by decide +kernel) rfl rfl rfl ?_
  refine tr_getR (pc' := 34) fl_HandRing_62 (show decode cX9_ask 31 = .ok (.getfield 62, 3) by decide +kernel) rfl (la_o hL (by decide) rfl) (la_r hL 8 rfl) ?_
  refine tr_iconst (pc' := 35) (v := (0 : Int32)) (show decode cX9_ask 34 = .ok (.iconst 0, 1) by decide +kernel) rfl (by decide) ?_
  obtain ⟨μ6, ex5, h⟩ := hm_bs h
  have cx5 := ok_X0_solve (fr := fr - 1) (ν := ν) (by omega) (0 : Int32) μ4 hL ex5
  refine tp_callV (pc' := 38) (As := [.int (0 : Int32)]) (fr1 := fr - 1) (ci := 0) okm_X0_solve lk_HandRing_247 (show decode cX9_ask 35 = .ok (.invokevirtual 247, 3) by decide +kernel) rfl rfl rfl (by decide) (la_o hL (by decide) rfl) rfl rfl (Nat.le_of_ble_eq_true rfl) (by omega) cx5 (st' := []) rfl ?_
  replace hL := cx5.1
  refine tr_aload_n (pc' := 39) (show decode cX9_ask 38 = .ok (.aload_n 0, 1) by decide +kernel) rfl rfl rfl ?_
  refine tr_getR (pc' := 42) fl_HandRing_62 (show decode cX9_ask 39 = .ok (.getfield 62, 3) by decide +kernel) rfl (la_o hL (by decide) rfl) (la_r hL 8 rfl) ?_
  refine tr_iload_n (pc' := 43) (show decode cX9_ask 42 = .ok (.iload_n 2, 1) by decide +kernel) rfl rfl rfl ?_
  obtain ⟨x7, ex7, h⟩ := hm_bs h
  have cx7 := ok_X0_hasRound (fr := fr - 1) (ν := ν) (by omega) x3 μ6 hL ex7
  refine tp_callV (pc' := 46) (As := [.int x3]) (fr1 := fr - 1) (ci := 0) okm_X0_hasRound lk_HandRing_291 (show decode cX9_ask 43 = .ok (.invokevirtual 291, 3) by decide +kernel) rfl rfl rfl (by decide) (la_o hL (by decide) rfl) rfl rfl (Nat.le_of_ble_eq_true rfl) (by omega) cx7 (st' := [.int x7]) rfl ?_
  rcases hm_is h with ⟨hc, h⟩ | ⟨hc, h⟩
  · refine tr_if_ne_f (tgt := 51) (pc' := 49) hc (show decode cX9_ask 46 = .ok (.ifCond .ne 5, 3) by decide +kernel) (by decide) rfl ?_
    refine tr_iconst (pc' := 50) (v := (-1 : Int32)) (show decode cX9_ask 49 = .ok (.iconst (-1), 1) by decide +kernel) rfl (by decide) ?_
    cases h
    exact tr_iret rfl (show decode cX9_ask 50 = .ok (.ireturn, 1) by decide +kernel) hL
  · refine tr_if_ne_t (tgt := 51) hc (show decode cX9_ask 46 = .ok (.ifCond .ne 5, 3) by decide +kernel) (by decide) ?_
    refine tr_aload_n (pc' := 52) (show decode cX9_ask 51 = .ok (.aload_n 0, 1) by decide +kernel) rfl rfl rfl ?_
    refine tr_getR (pc' := 55) fl_HandRing_62 (show decode cX9_ask 52 = .ok (.getfield 62, 3) by decide +kernel) rfl (la_o hL (by decide) rfl) (la_r hL 8 rfl) ?_
    refine tr_iload_n (pc' := 56) (show decode cX9_ask 55 = .ok (.iload_n 2, 1) by decide +kernel) rfl rfl rfl ?_
    obtain ⟨x8, ex8, h⟩ := hm_bs h
    have cx8 := ok_X0_bestAsked (fr := fr - 1) (ν := ν) (by omega) x3 μ6 hL ex8
    refine tp_callV (pc' := 59) (As := [.int x3]) (fr1 := fr - 1) (ci := 0) okm_X0_bestAsked lk_HandRing_297 (show decode cX9_ask 56 = .ok (.invokevirtual 297, 3) by decide +kernel) rfl rfl rfl (by decide) (la_o hL (by decide) rfl) rfl rfl (Nat.le_of_ble_eq_true rfl) (by omega) cx8 (st' := [.int x8]) rfl ?_
    refine tr_istore_n (pc' := 60) (lv' := [some (.ref 64), some (.int v1), some (.int x3), some (.int x8)]) (show decode cX9_ask 59 = .ok (.istore_n 3, 1) by decide +kernel) rfl rfl (Nat.le_of_ble_eq_true rfl) rfl rfl ?_
    refine tr_iload_n (pc' := 61) (show decode cX9_ask 60 = .ok (.iload_n 1, 1) by decide +kernel) rfl rfl rfl ?_
    rcases hm_is h with ⟨hc, h⟩ | ⟨hc, h⟩
    · refine tr_if_eq_t (tgt := 69) hc (show decode cX9_ask 61 = .ok (.ifCond .eq 8, 3) by decide +kernel) (by decide) ?_
      refine tr_iload_n (pc' := 70) (show decode cX9_ask 69 = .ok (.iload_n 3, 1) by decide +kernel) rfl rfl rfl ?_
      refine tr_goto (tgt := 89) (show decode cX9_ask 70 = .ok (.goto 19, 3) by decide +kernel) rfl ?_
      cases h
      exact tr_iret rfl (show decode cX9_ask 89 = .ok (.ireturn, 1) by decide +kernel) hL
    · refine tr_if_eq_f (tgt := 69) (pc' := 64) hc (show decode cX9_ask 61 = .ok (.ifCond .eq 8, 3) by decide +kernel) (by decide) rfl ?_
      refine tr_iload_n (pc' := 65) (show decode cX9_ask 64 = .ok (.iload_n 3, 1) by decide +kernel) rfl rfl rfl ?_
      refine tr_iconst (pc' := 66) (v := (-1 : Int32)) (show decode cX9_ask 65 = .ok (.iconst (-1), 1) by decide +kernel) rfl (by decide) ?_
      rcases hm_is h with ⟨hc, h⟩ | ⟨hc, h⟩
      · refine tr_icmp_ne_f (tgt := 73) (pc' := 69) hc (show decode cX9_ask 66 = .ok (.if_icmp .ne 7, 3) by decide +kernel) (by decide) rfl ?_
        refine tr_iload_n (pc' := 70) (show decode cX9_ask 69 = .ok (.iload_n 3, 1) by decide +kernel) rfl rfl rfl ?_
        refine tr_goto (tgt := 89) (show decode cX9_ask 70 = .ok (.goto 19, 3) by decide +kernel) rfl ?_
        cases h
        exact tr_iret rfl (show decode cX9_ask 89 = .ok (.ireturn, 1) by decide +kernel) hL
      · refine tr_icmp_ne_t (tgt := 73) hc (show decode cX9_ask 66 = .ok (.if_icmp .ne 7, 3) by decide +kernel) (by decide) ?_
        refine tr_aload_n (pc' := 74) (show decode cX9_ask 73 = .ok (.aload_n 0, 1) by decide +kernel) rfl rfl rfl ?_
        refine tr_getR (pc' := 77) fl_HandRing_62 (show decode cX9_ask 74 = .ok (.getfield 62, 3) by decide +kernel) rfl (la_o hL (by decide) rfl) (la_r hL 8 rfl) ?_
        refine tr_iload_n (pc' := 78) (show decode cX9_ask 77 = .ok (.iload_n 3, 1) by decide +kernel) rfl rfl rfl ?_
        refine tr_bipush (pc' := 80) (v := (10 : Int32)) (show decode cX9_ask 78 = .ok (.bipush 10, 2) by decide +kernel) rfl (by decide) ?_
        refine tr_idiv (pc' := 81) (show decode cX9_ask 80 = .ok (.idiv, 1) by decide +kernel) rfl (by decide) ?_
        refine tr_iload_n (pc' := 82) (show decode cX9_ask 81 = .ok (.iload_n 3, 1) by decide +kernel) rfl rfl rfl ?_
        refine tr_bipush (pc' := 84) (v := (10 : Int32)) (show decode cX9_ask 82 = .ok (.bipush 10, 2) by decide +kernel) rfl (by decide) ?_
        refine tr_irem (pc' := 85) (show decode cX9_ask 84 = .ok (.irem, 1) by decide +kernel) rfl (by decide) ?_
        refine tr_iload_n (pc' := 86) (show decode cX9_ask 85 = .ok (.iload_n 2, 1) by decide +kernel) rfl rfl rfl ?_
        obtain ⟨x9, ex9, h⟩ := hm_bs h
        have cx9 := ok_X0_leftAtMost (fr := fr - 1) (ν := ν) (by omega) (x8 / (10 : Int32)) (x8 - x8 / (10 : Int32) * (10 : Int32)) x3 μ6 hL ex9
        refine tp_callV (pc' := 89) (As := [.int (x8 / (10 : Int32)), .int (x8 - x8 / (10 : Int32) * (10 : Int32)), .int x3]) (fr1 := fr - 1) (ci := 0) okm_X0_leftAtMost lk_HandRing_300 (show decode cX9_ask 86 = .ok (.invokevirtual 300, 3) by decide +kernel) rfl rfl rfl (by decide) (la_o hL (by decide) rfl) rfl rfl (Nat.le_of_ble_eq_true rfl) (by omega) cx9 (st' := [.int x9]) rfl ?_
        cases h
        exact tr_iret rfl (show decode cX9_ask 89 = .ok (.ireturn, 1) by decide +kernel) hL
def f_X9_ask (v1 : Int32) (μ : hm_M) : Option (Int32 × hm_M) :=
  (if v1 = 0 then
  f_X9_ask_J11 v1 μ
  else
  (if v1 = (1 : Int32) then
  f_X9_ask_J11 v1 μ
  else
  some ((-1 : Int32), μ)))
set_option maxRecDepth 100000 in
theorem ok_X9_ask {fr : Nat} (hfr : 7 ≤ fr) {ν : hm_N} {r : Int32} {μR : hm_M}  (v1 : Int32)  (μ : hm_M) (hL : hm_LL ν μ) (h : f_X9_ask v1 μ = some (r, μR)) : hm_CC (hm_LL ν) m_X9_ask fr 0 0 [.ref 64, .int v1] μ (some (.int r)) μR := by
  refine hm_enter (lv := [some (.ref 64), some (.int v1), none, none]) (by decide) rfl (Nat.le_of_ble_eq_true rfl) ?_
  unfold f_X9_ask at h
  refine tr_iload_n (pc' := 1) (show decode cX9_ask 0 = .ok (.iload_n 1, 1) by decide +kernel) rfl rfl rfl ?_
  rcases hm_is h with ⟨hc, h⟩ | ⟨hc, h⟩
  · refine tr_if_eq_t (tgt := 11) hc (show decode cX9_ask 1 = .ok (.ifCond .eq 10, 3) by decide +kernel) (by decide) ?_
    exact ok_X9_ask_J11 hfr _ μ hL h
  · refine tr_if_eq_f (tgt := 11) (pc' := 4) hc (show decode cX9_ask 1 = .ok (.ifCond .eq 10, 3) by decide +kernel) (by decide) rfl ?_
    refine tr_iload_n (pc' := 5) (show decode cX9_ask 4 = .ok (.iload_n 1, 1) by decide +kernel) rfl rfl rfl ?_
    refine tr_iconst (pc' := 6) (v := (1 : Int32)) (show decode cX9_ask 5 = .ok (.iconst 1, 1) by decide +kernel) rfl (by decide) ?_
    rcases hm_is h with ⟨hc, h⟩ | ⟨hc, h⟩
    · refine tr_icmp_eq_t (tgt := 11) hc (show decode cX9_ask 6 = .ok (.if_icmp .eq 5, 3) by decide +kernel) (by decide) ?_
      exact ok_X9_ask_J11 hfr _ μ hL h
    · refine tr_icmp_eq_f (tgt := 11) (pc' := 9) hc (show decode cX9_ask 6 = .ok (.if_icmp .eq 5, 3) by decide +kernel) (by decide) rfl ?_
      refine tr_iconst (pc' := 10) (v := (-1 : Int32)) (show decode cX9_ask 9 = .ok (.iconst (-1), 1) by decide +kernel) rfl (by decide) ?_
      cases h
      exact tr_iret rfl (show decode cX9_ask 10 = .ok (.ireturn, 1) by decide +kernel) hL
def f_J7_fill_d0a16_L6 (v0 : Nat) (l0 : Nat) (v1 : Int64) (w6_4 : Int32) (e22 : hm_M → Option hm_M) : Nat → Int32 → hm_M → Option hm_M
  | 0, _, _ => none
  | n + 1, y3, μ1 => (if w6_4 ≤ y3 then
  e22 μ1
  else
  Option.bind (hm_sdJ μ1 v0 l0 y3 v1) fun μ2 =>
  (f_J7_fill_d0a16_L6 v0 l0 v1 w6_4 e22 n) (y3 + (1 : Int32)) μ2)
theorem ok_J7_fill_d0a16_L6 {fr : Nat} (hfr : 0 ≤ fr) {ν : hm_N} {μR : hm_M}  (v0 : Nat) (l0 : Nat) (v1 : Int64) (w6_4 : Int32) (e22 : hm_M → Option hm_M)  (he22 : ∀   (μ1 : hm_M), hm_LL ν μ1 → e22 μ1 = some μR → hm_T (hm_LL ν) m_J7_fill_d0a16 fr 0 0 none μR 22 [none, none, none, none, none] [] μ1) (hv0 : hm_arν ν v0 14 l0) : ∀ (n : Nat) (y3 : Int32)  (μ1 : hm_M), hm_LL ν μ1 → f_J7_fill_d0a16_L6 v0 l0 v1 w6_4 e22 n y3 μ1 = some μR → hm_T (hm_LL ν) m_J7_fill_d0a16 fr 0 0 none μR 6 [some (.ref v0), some (.long v1), none, some (.int y3), some (.int w6_4)] [] μ1 := by
  intro n
  induction n with
  | zero =>
    intro y3 μ1 hL h
    unfold f_J7_fill_d0a16_L6 at h
    cases h
  | succ n ih =>
    intro y3 μ1 hL h
    unfold f_J7_fill_d0a16_L6 at h
    refine tr_iload_n (pc' := 7) (show decode cJ7_fill_d0a16 6 = .ok (.iload_n 3, 1) by decide +kernel) rfl rfl rfl ?_
    refine tr_iload (pc' := 9) (show decode cJ7_fill_d0a16 7 = .ok (.iload 4, 2) by decide +kernel) rfl rfl ?_
    rcases hm_is h with ⟨hc, h⟩ | ⟨hc, h⟩
    · refine tr_icmp_ge_t (tgt := 22) hc (show decode cJ7_fill_d0a16 9 = .ok (.if_icmp .ge 13, 3) by decide +kernel) (by decide) ?_
      refine hm_fgt [false, false, false, false, false] (lv' := [none, none, none, none, none]) rfl ?_
      exact he22 μ1 hL h
    · refine tr_icmp_ge_f (tgt := 22) (pc' := 12) hc (show decode cJ7_fill_d0a16 9 = .ok (.if_icmp .ge 13, 3) by decide +kernel) (by decide) rfl ?_
      refine tr_aload_n (pc' := 13) (show decode cJ7_fill_d0a16 12 = .ok (.aload_n 0, 1) by decide +kernel) rfl rfl rfl ?_
      refine tr_iload_n (pc' := 14) (show decode cJ7_fill_d0a16 13 = .ok (.iload_n 3, 1) by decide +kernel) rfl rfl rfl ?_
      refine tr_lload_n (pc' := 15) (show decode cJ7_fill_d0a16 14 = .ok (.lload_n 1, 1) by decide +kernel) rfl rfl rfl ?_
      obtain ⟨μ2, eμ2, h⟩ := hm_bs h
      refine tp_sdJ (pc' := 16) (show decode cJ7_fill_d0a16 15 = .ok (.lastore, 1) by decide +kernel) rfl (la_x hL hv0) eμ2 ?_
      replace hL := hL.same (hm_sdJ_s eμ2)
      refine tr_iinc (pc' := 19) (v := y3 + (1 : Int32)) (lv' := [some (.ref v0), some (.long v1), none, some (.int (y3 + (1 : Int32))), some (.int w6_4)]) (show decode cJ7_fill_d0a16 16 = .ok (.iinc 3 1, 3) by decide +kernel) rfl rfl rfl (Nat.le_of_ble_eq_true rfl) rfl rfl ?_
      refine tr_goto (tgt := 6) (show decode cJ7_fill_d0a16 19 = .ok (.goto (-13), 3) by decide +kernel) rfl ?_
      exact ih (y3 + (1 : Int32)) μ2 hL h
def f_J7_fill_d0a16 (v0 : Nat) (l0 : Nat) (v1 : Int64) (μ : hm_M) : Option hm_M :=
  f_J7_fill_d0a16_L6 v0 l0 v1 (Int32.ofNat l0) (fun μz3 => some μz3) hm_fu (0 : Int32) μ
set_option maxRecDepth 100000 in
theorem ok_J7_fill_d0a16 {fr : Nat} (hfr : 0 ≤ fr) {ν : hm_N} {μR : hm_M}  (v0 : Nat) (l0 : Nat) (v1 : Int64) (hv0 : hm_arν ν v0 14 l0) (μ : hm_M) (hL : hm_LL ν μ) (h : f_J7_fill_d0a16 v0 l0 v1 μ = some μR) : hm_CC (hm_LL ν) m_J7_fill_d0a16 fr 0 0 [.ref v0, .long v1] μ none μR := by
  refine hm_enter (lv := [some (.ref v0), some (.long v1), none, none, none]) (by decide) rfl (Nat.le_of_ble_eq_true rfl) ?_
  unfold f_J7_fill_d0a16 at h
  refine tr_iconst (pc' := 1) (v := (0 : Int32)) (show decode cJ7_fill_d0a16 0 = .ok (.iconst 0, 1) by decide +kernel) rfl (by decide) ?_
  refine tr_istore_n (pc' := 2) (lv' := [some (.ref v0), some (.long v1), none, some (.int (0 : Int32)), none]) (show decode cJ7_fill_d0a16 1 = .ok (.istore_n 3, 1) by decide +kernel) rfl rfl (Nat.le_of_ble_eq_true rfl) rfl rfl ?_
  refine tr_aload_n (pc' := 3) (show decode cJ7_fill_d0a16 2 = .ok (.aload_n 0, 1) by decide +kernel) rfl rfl rfl ?_
  refine tr_alen (pc' := 4) (t0 := 3) (by decide) (fun _ => rfl) (show decode cJ7_fill_d0a16 3 = .ok (.arraylength, 1) by decide +kernel) rfl (la_x hL hv0) ?_
  refine tr_istore (pc' := 6) (lv' := [some (.ref v0), some (.long v1), none, some (.int (0 : Int32)), some (.int (Int32.ofNat l0))]) (show decode cJ7_fill_d0a16 4 = .ok (.istore 4, 2) by decide +kernel) rfl (Nat.le_of_ble_eq_true rfl) rfl rfl ?_
  refine ok_J7_fill_d0a16_L6 hfr _ _ _ (Int32.ofNat l0) _ ?_ hv0 _ (0 : Int32) μ hL h
  · intro μz3 hL h
    cases h
    exact tr_vret rfl (show decode cJ7_fill_d0a16 22 = .ok (.return_, 1) by decide +kernel) hL
def f_X9_few_J90 (v1 : Int32) (v2 : Int32) (w56_3 : Int64) (w67_5 : Int32) (c56 : Int32 → hm_M → Option (Int64 × hm_M)) (e137 : hm_M → Option (Int64 × hm_M)) (c67 : Int32 → hm_M → Option (Int64 × hm_M)) (e131 : hm_M → Option (Int64 × hm_M)) (s0 : Int64) (y6 : Int32) (μ1 : hm_M) : Option (Int64 × hm_M) :=
  Option.bind (hm_ldJ μ1 158 20 y6) fun x6 =>
  Option.bind (hm_sdJ μ1 158 20 y6 (((x6 * ((10 : Int64) - w56_3)) / (10 : Int64)) + ((s0 * w56_3) / (10 : Int64)))) fun μ7 =>
  c67 (y6 + (-1 : Int32)) μ7
theorem ok_X9_few_J90 {fr : Nat} (hfr : 1 ≤ fr) {ν : hm_N} {r : Int64} {μR : hm_M}  (v1 : Int32) (v2 : Int32) (w56_3 : Int64) (w67_5 : Int32) (c56 : Int32 → hm_M → Option (Int64 × hm_M)) (e137 : hm_M → Option (Int64 × hm_M)) (c67 : Int32 → hm_M → Option (Int64 × hm_M)) (e131 : hm_M → Option (Int64 × hm_M)) (hc56 : ∀ (y5 : Int32)  (μ1 : hm_M), hm_LL ν μ1 → c56 y5 μ1 = some (r, μR) → hm_T (hm_LL ν) m_X9_few fr 0 0 (some (.long r)) μR 56 [some (.ref 64), some (.int v1), some (.int v2), some (.long w56_3), none, some (.int y5), none, none, none] [] μ1) (he137 : ∀   (μ1 : hm_M), hm_LL ν μ1 → e137 μ1 = some (r, μR) → hm_T (hm_LL ν) m_X9_few fr 0 0 (some (.long r)) μR 137 [some (.ref 64), some (.int v1), none, none, none, none, none, none, none] [] μ1) (hc67 : ∀ (y6 : Int32)  (μ1 : hm_M), hm_LL ν μ1 → c67 y6 μ1 = some (r, μR) → hm_T (hm_LL ν) m_X9_few fr 0 0 (some (.long r)) μR 67 [some (.ref 64), some (.int v1), some (.int v2), some (.long w56_3), none, some (.int w67_5), some (.int y6), none, none] [] μ1) (he131 : ∀   (μ1 : hm_M), hm_LL ν μ1 → e131 μ1 = some (r, μR) → hm_T (hm_LL ν) m_X9_few fr 0 0 (some (.long r)) μR 131 [some (.ref 64), some (.int v1), some (.int v2), some (.long w56_3), none, some (.int w67_5), none, none, none] [] μ1)  (s0 : Int64) (y6 : Int32) (μ1 : hm_M) (hL : hm_LL ν μ1) (h : f_X9_few_J90 v1 v2 w56_3 w67_5 c56 e137 c67 e131 s0 y6 μ1 = some (r, μR)) : hm_T (hm_LL ν) m_X9_few fr 0 0 (some (.long r)) μR 90 [some (.ref 64), some (.int v1), some (.int v2), some (.long w56_3), none, some (.int w67_5), some (.int y6), none, none] [.long s0] μ1 := by
  unfold f_X9_few_J90 at h
  refine tr_lstore (pc' := 92) (lv' := [some (.ref 64), some (.int v1), some (.int v2), some (.long w56_3), none, some (.int w67_5), some (.int y6), some (.long s0), none]) (show decode cX9_few 90 = .ok (.lstore 7, 2) by decide +kernel) rfl (Nat.le_of_ble_eq_true rfl) rfl rfl ?_
  refine tr_aload_n (pc' := 93) (show decode cX9_few 92 = .ok (.aload_n 0, 1) by decide +kernel) rfl rfl rfl ?_
  refine tr_getR (pc' := 96) fl_HandRing_88 (show decode cX9_few 93 = .ok (.getfield 88, 3) by decide +kernel) rfl (la_o hL (by decide) rfl) (la_r hL 12 rfl) ?_
  refine tr_iload (pc' := 98) (show decode cX9_few 96 = .ok (.iload 6, 2) by decide +kernel) rfl rfl ?_
  refine tr_aload_n (pc' := 99) (show decode cX9_few 98 = .ok (.aload_n 0, 1) by decide +kernel) rfl rfl rfl ?_
  refine tr_getR (pc' := 102) fl_HandRing_88 (show decode cX9_few 99 = .ok (.getfield 88, 3) by decide +kernel) rfl (la_o hL (by decide) rfl) (la_r hL 12 rfl) ?_
  refine tr_iload (pc' := 104) (show decode cX9_few 102 = .ok (.iload 6, 2) by decide +kernel) rfl rfl ?_
  obtain ⟨x6, ex6, h⟩ := hm_bs h
  refine tp_ldJ (pc' := 105) (show decode cX9_few 104 = .ok (.laload, 1) by decide +kernel) rfl (la_a hL (by decide) rfl) ex6 ?_
  refine tr_ldc2 (pc' := 108) (v := (10 : Int64)) (show decode cX9_few 105 = .ok (.ldc2_w 313, 3) by decide +kernel) rfl kd_HandRing_313 ?_
  refine tr_lload_n (pc' := 109) (show decode cX9_few 108 = .ok (.lload_n 3, 1) by decide +kernel) rfl rfl rfl ?_
  refine tr_lsub (pc' := 110) (show decode cX9_few 109 = .ok (.lsub, 1) by decide +kernel) rfl ?_
  refine tr_lmul (pc' := 111) (show decode cX9_few 110 = .ok (.lmul, 1) by decide +kernel) rfl ?_
  refine tr_ldc2 (pc' := 114) (v := (10 : Int64)) (show decode cX9_few 111 = .ok (.ldc2_w 313, 3) by decide +kernel) rfl kd_HandRing_313 ?_
  refine tr_ldiv (pc' := 115) (show decode cX9_few 114 = .ok (.ldiv, 1) by decide +kernel) rfl (by decide) ?_
  refine tr_lload (pc' := 117) (show decode cX9_few 115 = .ok (.lload 7, 2) by decide +kernel) rfl rfl ?_
  refine tr_lload_n (pc' := 118) (show decode cX9_few 117 = .ok (.lload_n 3, 1) by decide +kernel) rfl rfl rfl ?_
  refine tr_lmul (pc' := 119) (show decode cX9_few 118 = .ok (.lmul, 1) by decide +kernel) rfl ?_
  refine tr_ldc2 (pc' := 122) (v := (10 : Int64)) (show decode cX9_few 119 = .ok (.ldc2_w 313, 3) by decide +kernel) rfl kd_HandRing_313 ?_
  refine tr_ldiv (pc' := 123) (show decode cX9_few 122 = .ok (.ldiv, 1) by decide +kernel) rfl (by decide) ?_
  refine tr_ladd (pc' := 124) (show decode cX9_few 123 = .ok (.ladd, 1) by decide +kernel) rfl ?_
  obtain ⟨μ7, eμ7, h⟩ := hm_bs h
  refine tp_sdJ (pc' := 125) (show decode cX9_few 124 = .ok (.lastore, 1) by decide +kernel) rfl (la_a hL (by decide) rfl) eμ7 ?_
  replace hL := hL.same (hm_sdJ_s eμ7)
  refine tr_iinc (pc' := 128) (v := y6 + (-1 : Int32)) (lv' := [some (.ref 64), some (.int v1), some (.int v2), some (.long w56_3), none, some (.int w67_5), some (.int (y6 + (-1 : Int32))), some (.long s0), none]) (show decode cX9_few 125 = .ok (.iinc 6 (-1), 3) by decide +kernel) rfl rfl rfl (Nat.le_of_ble_eq_true rfl) rfl rfl ?_
  refine tr_goto (tgt := 67) (show decode cX9_few 128 = .ok (.goto (-61), 3) by decide +kernel) rfl ?_
  refine hm_fgt [true, true, true, true, false, true, true, false, false] (lv' := [some (.ref 64), some (.int v1), some (.int v2), some (.long w56_3), none, some (.int w67_5), some (.int (y6 + (-1 : Int32))), none, none]) rfl ?_
  exact hc67 (y6 + (-1 : Int32)) μ7 hL h
def f_X9_few_L67 (v1 : Int32) (v2 : Int32) (w56_3 : Int64) (w67_5 : Int32) (c56 : Int32 → hm_M → Option (Int64 × hm_M)) (e137 : hm_M → Option (Int64 × hm_M)) (e131 : hm_M → Option (Int64 × hm_M)) : Nat → Int32 → hm_M → Option (Int64 × hm_M)
  | 0, _, _ => none
  | n + 1, y6, μ1 => (if y6 < 0 then
  e131 μ1
  else
  (if y6 ≤ 0 then
  f_X9_few_J90 v1 v2 w56_3 w67_5 c56 e137 (f_X9_few_L67 v1 v2 w56_3 w67_5 c56 e137 e131 n) e131 (0 : Int64) y6 μ1
  else
  Option.bind (hm_ldJ μ1 158 20 (y6 - (1 : Int32))) fun x8 =>
  f_X9_few_J90 v1 v2 w56_3 w67_5 c56 e137 (f_X9_few_L67 v1 v2 w56_3 w67_5 c56 e137 e131 n) e131 x8 y6 μ1))
theorem ok_X9_few_L67 {fr : Nat} (hfr : 1 ≤ fr) {ν : hm_N} {r : Int64} {μR : hm_M}  (v1 : Int32) (v2 : Int32) (w56_3 : Int64) (w67_5 : Int32) (c56 : Int32 → hm_M → Option (Int64 × hm_M)) (e137 : hm_M → Option (Int64 × hm_M)) (e131 : hm_M → Option (Int64 × hm_M)) (hc56 : ∀ (y5 : Int32)  (μ1 : hm_M), hm_LL ν μ1 → c56 y5 μ1 = some (r, μR) → hm_T (hm_LL ν) m_X9_few fr 0 0 (some (.long r)) μR 56 [some (.ref 64), some (.int v1), some (.int v2), some (.long w56_3), none, some (.int y5), none, none, none] [] μ1) (he137 : ∀   (μ1 : hm_M), hm_LL ν μ1 → e137 μ1 = some (r, μR) → hm_T (hm_LL ν) m_X9_few fr 0 0 (some (.long r)) μR 137 [some (.ref 64), some (.int v1), none, none, none, none, none, none, none] [] μ1) (he131 : ∀   (μ1 : hm_M), hm_LL ν μ1 → e131 μ1 = some (r, μR) → hm_T (hm_LL ν) m_X9_few fr 0 0 (some (.long r)) μR 131 [some (.ref 64), some (.int v1), some (.int v2), some (.long w56_3), none, some (.int w67_5), none, none, none] [] μ1)  : ∀ (n : Nat) (y6 : Int32)  (μ1 : hm_M), hm_LL ν μ1 → f_X9_few_L67 v1 v2 w56_3 w67_5 c56 e137 e131 n y6 μ1 = some (r, μR) → hm_T (hm_LL ν) m_X9_few fr 0 0 (some (.long r)) μR 67 [some (.ref 64), some (.int v1), some (.int v2), some (.long w56_3), none, some (.int w67_5), some (.int y6), none, none] [] μ1 := by
  intro n
  induction n with
  | zero =>
    intro y6 μ1 hL h
    unfold f_X9_few_L67 at h
    cases h
  | succ n ih =>
    intro y6 μ1 hL h
    unfold f_X9_few_L67 at h
    refine tr_iload (pc' := 69) (show decode cX9_few 67 = .ok (.iload 6, 2) by decide +kernel) rfl rfl ?_
    rcases hm_is h with ⟨hc, h⟩ | ⟨hc, h⟩
    · refine tr_if_lt_t (tgt := 131) hc (show decode cX9_few 69 = .ok (.ifCond .lt 62, 3) by decide +kernel) (by decide) ?_
      refine hm_fgt [true, true, true, true, false, true, false, false, false] (lv' := [some (.ref 64), some (.int v1), some (.int v2), some (.long w56_3), none, some (.int w67_5), none, none, none]) rfl ?_
      exact he131 μ1 hL h
    · refine tr_if_lt_f (tgt := 131) (pc' := 72) hc (show decode cX9_few 69 = .ok (.ifCond .lt 62, 3) by decide +kernel) (by decide) rfl ?_
      refine tr_iload (pc' := 74) (show decode cX9_few 72 = .ok (.iload 6, 2) by decide +kernel) rfl rfl ?_
      rcases hm_is h with ⟨hc, h⟩ | ⟨hc, h⟩
      · refine tr_if_le_t (tgt := 89) hc (show decode cX9_few 74 = .ok (.ifCond .le 15, 3) by decide +kernel) (by decide) ?_
        refine tr_lconst (pc' := 90) (v := (0 : Int64)) (show decode cX9_few 89 = .ok (.lconst 0, 1) by decide +kernel) rfl (by decide) ?_
        exact ok_X9_few_J90 hfr _ _ w56_3 w67_5 c56 e137 (f_X9_few_L67 v1 v2 w56_3 w67_5 c56 e137 e131 n) e131 hc56 he137 ih he131 (0 : Int64) y6 μ1 hL h
      · refine tr_if_le_f (tgt := 89) (pc' := 77) hc (show decode cX9_few 74 = .ok (.ifCond .le 15, 3) by decide +kernel) (by decide) rfl ?_
        refine tr_aload_n (pc' := 78) (show decode cX9_few 77 = .ok (.aload_n 0, 1) by decide +kernel) rfl rfl rfl ?_
        refine tr_getR (pc' := 81) fl_HandRing_88 (show decode cX9_few 78 = .ok (.getfield 88, 3) by decide +kernel) rfl (la_o hL (by decide) rfl) (la_r hL 12 rfl) ?_
        refine tr_iload (pc' := 83) (show decode cX9_few 81 = .ok (.iload 6, 2) by decide +kernel) rfl rfl ?_
        refine tr_iconst (pc' := 84) (v := (1 : Int32)) (show decode cX9_few 83 = .ok (.iconst 1, 1) by decide +kernel) rfl (by decide) ?_
        refine tr_isub (pc' := 85) (show decode cX9_few 84 = .ok (.isub, 1) by decide +kernel) rfl ?_
        obtain ⟨x8, ex8, h⟩ := hm_bs h
        refine tp_ldJ (pc' := 86) (show decode cX9_few 85 = .ok (.laload, 1) by decide +kernel) rfl (la_a hL (by decide) rfl) ex8 ?_
        refine tr_goto (tgt := 90) (show decode cX9_few 86 = .ok (.goto 4, 3) by decide +kernel) rfl ?_
        exact ok_X9_few_J90 hfr _ _ w56_3 w67_5 c56 e137 (f_X9_few_L67 v1 v2 w56_3 w67_5 c56 e137 e131 n) e131 hc56 he137 ih he131 x8 y6 μ1 hL h
def f_X9_few_L56 (v1 : Int32) (v2 : Int32) (w56_3 : Int64) (e137 : hm_M → Option (Int64 × hm_M)) : Nat → Int32 → hm_M → Option (Int64 × hm_M)
  | 0, _, _ => none
  | n + 1, y5, μ1 => (if v2 ≤ y5 then
  e137 μ1
  else
  f_X9_few_L67 v1 v2 w56_3 y5 (f_X9_few_L56 v1 v2 w56_3 e137 n) e137 (fun μz9 => (f_X9_few_L56 v1 v2 w56_3 e137 n) (y5 + (1 : Int32)) μz9) hm_fu (v1 - (1 : Int32)) μ1)
theorem ok_X9_few_L56 {fr : Nat} (hfr : 1 ≤ fr) {ν : hm_N} {r : Int64} {μR : hm_M}  (v1 : Int32) (v2 : Int32) (w56_3 : Int64) (e137 : hm_M → Option (Int64 × hm_M))  (he137 : ∀   (μ1 : hm_M), hm_LL ν μ1 → e137 μ1 = some (r, μR) → hm_T (hm_LL ν) m_X9_few fr 0 0 (some (.long r)) μR 137 [some (.ref 64), some (.int v1), none, none, none, none, none, none, none] [] μ1)  : ∀ (n : Nat) (y5 : Int32)  (μ1 : hm_M), hm_LL ν μ1 → f_X9_few_L56 v1 v2 w56_3 e137 n y5 μ1 = some (r, μR) → hm_T (hm_LL ν) m_X9_few fr 0 0 (some (.long r)) μR 56 [some (.ref 64), some (.int v1), some (.int v2), some (.long w56_3), none, some (.int y5), none, none, none] [] μ1 := by
  intro n
  induction n with
  | zero =>
    intro y5 μ1 hL h
    unfold f_X9_few_L56 at h
    cases h
  | succ n ih =>
    intro y5 μ1 hL h
    unfold f_X9_few_L56 at h
    refine tr_iload (pc' := 58) (show decode cX9_few 56 = .ok (.iload 5, 2) by decide +kernel) rfl rfl ?_
    refine tr_iload_n (pc' := 59) (show decode cX9_few 58 = .ok (.iload_n 2, 1) by decide +kernel) rfl rfl rfl ?_
    rcases hm_is h with ⟨hc, h⟩ | ⟨hc, h⟩
    · refine tr_icmp_ge_t (tgt := 137) hc (show decode cX9_few 59 = .ok (.if_icmp .ge 78, 3) by decide +kernel) (by decide) ?_
      refine hm_fgt [true, true, false, false, false, false, false, false, false] (lv' := [some (.ref 64), some (.int v1), none, none, none, none, none, none, none]) rfl ?_
      exact he137 μ1 hL h
    · refine tr_icmp_ge_f (tgt := 137) (pc' := 62) hc (show decode cX9_few 59 = .ok (.if_icmp .ge 78, 3) by decide +kernel) (by decide) rfl ?_
      refine tr_iload_n (pc' := 63) (show decode cX9_few 62 = .ok (.iload_n 1, 1) by decide +kernel) rfl rfl rfl ?_
      refine tr_iconst (pc' := 64) (v := (1 : Int32)) (show decode cX9_few 63 = .ok (.iconst 1, 1) by decide +kernel) rfl (by decide) ?_
      refine tr_isub (pc' := 65) (show decode cX9_few 64 = .ok (.isub, 1) by decide +kernel) rfl ?_
      refine tr_istore (pc' := 67) (lv' := [some (.ref 64), some (.int v1), some (.int v2), some (.long w56_3), none, some (.int y5), some (.int (v1 - (1 : Int32))), none, none]) (show decode cX9_few 65 = .ok (.istore 6, 2) by decide +kernel) rfl (Nat.le_of_ble_eq_true rfl) rfl rfl ?_
      refine ok_X9_few_L67 hfr _ _ w56_3 y5 (f_X9_few_L56 v1 v2 w56_3 e137 n) e137 _ ih he137 ?_ _ (v1 - (1 : Int32)) μ1 hL h
      · intro μz9 hL h
        refine tr_iinc (pc' := 134) (v := y5 + (1 : Int32)) (lv' := [some (.ref 64), some (.int v1), some (.int v2), some (.long w56_3), none, some (.int (y5 + (1 : Int32))), none, none, none]) (show decode cX9_few 131 = .ok (.iinc 5 1, 3) by decide +kernel) rfl rfl rfl (Nat.le_of_ble_eq_true rfl) rfl rfl ?_
        refine tr_goto (tgt := 56) (show decode cX9_few 134 = .ok (.goto (-78), 3) by decide +kernel) rfl ?_
        exact ih (y5 + (1 : Int32)) μz9 hL h
def f_X9_few_L143 (v1 : Int32) (v2 : Int32) (e167 : Int64 → hm_M → Option (Int64 × hm_M)) : Nat → Int64 → Int32 → hm_M → Option (Int64 × hm_M)
  | 0, _, _, _ => none
  | n + 1, y5, y7, μ1 => (if v1 ≤ y7 then
  e167 y5 μ1
  else
  Option.bind (hm_ldJ μ1 158 20 y7) fun x11 =>
  (f_X9_few_L143 v1 v2 e167 n) (y5 + x11) (y7 + (1 : Int32)) μ1)
theorem ok_X9_few_L143 {fr : Nat} (hfr : 1 ≤ fr) {ν : hm_N} {r : Int64} {μR : hm_M}  (v1 : Int32) (v2 : Int32) (e167 : Int64 → hm_M → Option (Int64 × hm_M))  (he167 : ∀ (y5 : Int64)  (μ1 : hm_M), hm_LL ν μ1 → e167 y5 μ1 = some (r, μR) → hm_T (hm_LL ν) m_X9_few fr 0 0 (some (.long r)) μR 167 [none, none, none, none, none, some (.long y5), none, none, none] [] μ1)  : ∀ (n : Nat) (y5 : Int64) (y7 : Int32)  (μ1 : hm_M), hm_LL ν μ1 → f_X9_few_L143 v1 v2 e167 n y5 y7 μ1 = some (r, μR) → hm_T (hm_LL ν) m_X9_few fr 0 0 (some (.long r)) μR 143 [some (.ref 64), some (.int v1), none, none, none, some (.long y5), none, some (.int y7), none] [] μ1 := by
  intro n
  induction n with
  | zero =>
    intro y5 y7 μ1 hL h
    unfold f_X9_few_L143 at h
    cases h
  | succ n ih =>
    intro y5 y7 μ1 hL h
    unfold f_X9_few_L143 at h
    refine tr_iload (pc' := 145) (show decode cX9_few 143 = .ok (.iload 7, 2) by decide +kernel) rfl rfl ?_
    refine tr_iload_n (pc' := 146) (show decode cX9_few 145 = .ok (.iload_n 1, 1) by decide +kernel) rfl rfl rfl ?_
    rcases hm_is h with ⟨hc, h⟩ | ⟨hc, h⟩
    · refine tr_icmp_ge_t (tgt := 167) hc (show decode cX9_few 146 = .ok (.if_icmp .ge 21, 3) by decide +kernel) (by decide) ?_
      refine hm_fgt [false, false, false, false, false, true, false, false, false] (lv' := [none, none, none, none, none, some (.long y5), none, none, none]) rfl ?_
      exact he167 y5 μ1 hL h
    · refine tr_icmp_ge_f (tgt := 167) (pc' := 149) hc (show decode cX9_few 146 = .ok (.if_icmp .ge 21, 3) by decide +kernel) (by decide) rfl ?_
      refine tr_lload (pc' := 151) (show decode cX9_few 149 = .ok (.lload 5, 2) by decide +kernel) rfl rfl ?_
      refine tr_aload_n (pc' := 152) (show decode cX9_few 151 = .ok (.aload_n 0, 1) by decide +kernel) rfl rfl rfl ?_
      refine tr_getR (pc' := 155) fl_HandRing_88 (show decode cX9_few 152 = .ok (.getfield 88, 3) by decide +kernel) rfl (la_o hL (by decide) rfl) (la_r hL 12 rfl) ?_
      refine tr_iload (pc' := 157) (show decode cX9_few 155 = .ok (.iload 7, 2) by decide +kernel) rfl rfl ?_
      obtain ⟨x11, ex11, h⟩ := hm_bs h
      refine tp_ldJ (pc' := 158) (show decode cX9_few 157 = .ok (.laload, 1) by decide +kernel) rfl (la_a hL (by decide) rfl) ex11 ?_
      refine tr_ladd (pc' := 159) (show decode cX9_few 158 = .ok (.ladd, 1) by decide +kernel) rfl ?_
      refine tr_lstore (pc' := 161) (lv' := [some (.ref 64), some (.int v1), none, none, none, some (.long (y5 + x11)), none, some (.int y7), none]) (show decode cX9_few 159 = .ok (.lstore 5, 2) by decide +kernel) rfl (Nat.le_of_ble_eq_true rfl) rfl rfl ?_
      refine tr_iinc (pc' := 164) (v := y7 + (1 : Int32)) (lv' := [some (.ref 64), some (.int v1), none, none, none, some (.long (y5 + x11)), none, some (.int (y7 + (1 : Int32))), none]) (show decode cX9_few 161 = .ok (.iinc 7 1, 3) by decide +kernel) rfl rfl rfl (Nat.le_of_ble_eq_true rfl) rfl rfl ?_
      refine tr_goto (tgt := 143) (show decode cX9_few 164 = .ok (.goto (-21), 3) by decide +kernel) rfl ?_
      exact ih (y5 + x11) (y7 + (1 : Int32)) μ1 hL h
def f_X9_few (v1 : Int32) (v2 : Int32) (μ : hm_M) : Option (Int64 × hm_M) :=
  (if v1 < (1 : Int32) then
  some ((-1 : Int64), μ)
  else
  (if (20 : Int32) < v1 then
  some ((-1 : Int64), μ)
  else
  (if v2 < 0 then
  some ((-1 : Int64), μ)
  else
  (if v2 ≤ (99 : Int32) then
  Option.bind (hm_ld μ 70 4 (1 : Int32)) fun x2 =>
  Option.bind (f_J7_fill_d0a16 158 20 (0 : Int64) μ) fun μ4 =>
  Option.bind (hm_sdJ μ4 158 20 (0 : Int32) (1000000000000 : Int64)) fun μ5 =>
  f_X9_few_L56 v1 v2 x2.toInt64 (fun μz10 => f_X9_few_L143 v1 v2 (fun z12_5 μz12 => some (z12_5, μz12)) hm_fu (0 : Int64) (0 : Int32) μz10) hm_fu (0 : Int32) μ5
  else
  some ((-1 : Int64), μ)))))
set_option maxRecDepth 100000 in
theorem ok_X9_few {fr : Nat} (hfr : 1 ≤ fr) {ν : hm_N} {r : Int64} {μR : hm_M}  (v1 : Int32) (v2 : Int32)  (μ : hm_M) (hL : hm_LL ν μ) (h : f_X9_few v1 v2 μ = some (r, μR)) : hm_CC (hm_LL ν) m_X9_few fr 0 0 [.ref 64, .int v1, .int v2] μ (some (.long r)) μR := by
  refine hm_enter (lv := [some (.ref 64), some (.int v1), some (.int v2), none, none, none, none, none, none]) (by decide) rfl (Nat.le_of_ble_eq_true rfl) ?_
  unfold f_X9_few at h
  refine tr_iload_n (pc' := 1) (show decode cX9_few 0 = .ok (.iload_n 1, 1) by decide +kernel) rfl rfl rfl ?_
  refine tr_iconst (pc' := 2) (v := (1 : Int32)) (show decode cX9_few 1 = .ok (.iconst 1, 1) by decide +kernel) rfl (by decide) ?_
  rcases hm_is h with ⟨hc, h⟩ | ⟨hc, h⟩
  · refine tr_icmp_lt_t (tgt := 21) hc (show decode cX9_few 2 = .ok (.if_icmp .lt 19, 3) by decide +kernel) (by decide) ?_
    refine tr_ldc2 (pc' := 24) (v := (-1 : Int64)) (show decode cX9_few 21 = .ok (.ldc2_w 303, 3) by decide +kernel) rfl kd_HandRing_303 ?_
    cases h
    exact tr_lret rfl (show decode cX9_few 24 = .ok (.lreturn, 1) by decide +kernel) hL
  · refine tr_icmp_lt_f (tgt := 21) (pc' := 5) hc (show decode cX9_few 2 = .ok (.if_icmp .lt 19, 3) by decide +kernel) (by decide) rfl ?_
    refine tr_iload_n (pc' := 6) (show decode cX9_few 5 = .ok (.iload_n 1, 1) by decide +kernel) rfl rfl rfl ?_
    refine tr_bipush (pc' := 8) (v := (20 : Int32)) (show decode cX9_few 6 = .ok (.bipush 20, 2) by decide +kernel) rfl (by decide) ?_
    rcases hm_is h with ⟨hc, h⟩ | ⟨hc, h⟩
    · refine tr_icmp_gt_t (tgt := 21) hc (show decode cX9_few 8 = .ok (.if_icmp .gt 13, 3) by decide +kernel) (by decide) ?_
      refine tr_ldc2 (pc' := 24) (v := (-1 : Int64)) (show decode cX9_few 21 = .ok (.ldc2_w 303, 3) by decide +kernel) rfl kd_HandRing_303 ?_
      cases h
      exact tr_lret rfl (show decode cX9_few 24 = .ok (.lreturn, 1) by decide +kernel) hL
    · refine tr_icmp_gt_f (tgt := 21) (pc' := 11) hc (show decode cX9_few 8 = .ok (.if_icmp .gt 13, 3) by decide +kernel) (by decide) rfl ?_
      refine tr_iload_n (pc' := 12) (show decode cX9_few 11 = .ok (.iload_n 2, 1) by decide +kernel) rfl rfl rfl ?_
      rcases hm_is h with ⟨hc, h⟩ | ⟨hc, h⟩
      · refine tr_if_lt_t (tgt := 21) hc (show decode cX9_few 12 = .ok (.ifCond .lt 9, 3) by decide +kernel) (by decide) ?_
        refine tr_ldc2 (pc' := 24) (v := (-1 : Int64)) (show decode cX9_few 21 = .ok (.ldc2_w 303, 3) by decide +kernel) rfl kd_HandRing_303 ?_
        cases h
        exact tr_lret rfl (show decode cX9_few 24 = .ok (.lreturn, 1) by decide +kernel) hL
      · refine tr_if_lt_f (tgt := 21) (pc' := 15) hc (show decode cX9_few 12 = .ok (.ifCond .lt 9, 3) by decide +kernel) (by decide) rfl ?_
        refine tr_iload_n (pc' := 16) (show decode cX9_few 15 = .ok (.iload_n 2, 1) by decide +kernel) rfl rfl rfl ?_
        refine tr_bipush (pc' := 18) (v := (99 : Int32)) (show decode cX9_few 16 = .ok (.bipush 99, 2) by decide +kernel) rfl (by decide) ?_
        rcases hm_is h with ⟨hc, h⟩ | ⟨hc, h⟩
        · refine tr_icmp_le_t (tgt := 25) hc (show decode cX9_few 18 = .ok (.if_icmp .le 7, 3) by decide +kernel) (by decide) ?_
          refine tr_aload_n (pc' := 26) (show decode cX9_few 25 = .ok (.aload_n 0, 1) by decide +kernel) rfl rfl rfl ?_
          refine tr_getR (pc' := 29) fl_HandRing_12 (show decode cX9_few 26 = .ok (.getfield 12, 3) by decide +kernel) rfl (la_o hL (by decide) rfl) (la_r hL 0 rfl) ?_
          refine tr_getR (pc' := 32) fl_HandRing_155 (show decode cX9_few 29 = .ok (.getfield 155, 3) by decide +kernel) rfl (la_o hL (by decide) rfl) (la_r hL 17 rfl) ?_
          refine tr_iconst (pc' := 33) (v := (1 : Int32)) (show decode cX9_few 32 = .ok (.iconst 1, 1) by decide +kernel) rfl (by decide) ?_
          obtain ⟨x2, ex2, h⟩ := hm_bs h
          refine tp_ldI (pc' := 34) (show decode cX9_few 33 = .ok (.iaload, 1) by decide +kernel) rfl (la_a hL (by decide) rfl) ex2 ?_
          refine tr_i2l (pc' := 35) (show decode cX9_few 34 = .ok (.i2l, 1) by decide +kernel) rfl ?_
          refine tr_lstore_n (pc' := 36) (lv' := [some (.ref 64), some (.int v1), some (.int v2), some (.long x2.toInt64), none, none, none, none, none]) (show decode cX9_few 35 = .ok (.lstore_n 3, 1) by decide +kernel) rfl rfl (Nat.le_of_ble_eq_true rfl) rfl rfl ?_
          refine tr_aload_n (pc' := 37) (show decode cX9_few 36 = .ok (.aload_n 0, 1) by decide +kernel) rfl rfl rfl ?_
          refine tr_getR (pc' := 40) fl_HandRing_88 (show decode cX9_few 37 = .ok (.getfield 88, 3) by decide +kernel) rfl (la_o hL (by decide) rfl) (la_r hL 12 rfl) ?_
          refine tr_lconst (pc' := 41) (v := (0 : Int64)) (show decode cX9_few 40 = .ok (.lconst 0, 1) by decide +kernel) rfl (by decide) ?_
          obtain ⟨μ4, ex3, h⟩ := hm_bs h
          have cx3 := ok_J7_fill_d0a16 (fr := fr - 1) (ν := ν) (by omega) 158 20 (0 : Int64) (la_n hL (la_a hL (by decide) rfl)) μ hL ex3
          refine tp_callS (pc' := 44) (As := [.ref 158, .long (0 : Int64)]) (fr1 := fr - 1) okm_J7_fill_d0a16 lk_HandRing_305 (show decode cX9_few 41 = .ok (.invokestatic 305, 3) by decide +kernel) rfl rfl rfl (Nat.le_of_ble_eq_true rfl) (by omega) cx3 (st' := []) rfl ?_
          replace hL := cx3.1
          refine tr_aload_n (pc' := 45) (show decode cX9_few 44 = .ok (.aload_n 0, 1) by decide +kernel) rfl rfl rfl ?_
          refine tr_getR (pc' := 48) fl_HandRing_88 (show decode cX9_few 45 = .ok (.getfield 88, 3) by decide +kernel) rfl (la_o hL (by decide) rfl) (la_r hL 12 rfl) ?_
          refine tr_iconst (pc' := 49) (v := (0 : Int32)) (show decode cX9_few 48 = .ok (.iconst 0, 1) by decide +kernel) rfl (by decide) ?_
          refine tr_ldc2 (pc' := 52) (v := (1000000000000 : Int64)) (show decode cX9_few 49 = .ok (.ldc2_w 311, 3) by decide +kernel) rfl kd_HandRing_311 ?_
          obtain ⟨μ5, eμ5, h⟩ := hm_bs h
          refine tp_sdJ (pc' := 53) (show decode cX9_few 52 = .ok (.lastore, 1) by decide +kernel) rfl (la_a hL (by decide) rfl) eμ5 ?_
          replace hL := hL.same (hm_sdJ_s eμ5)
          refine tr_iconst (pc' := 54) (v := (0 : Int32)) (show decode cX9_few 53 = .ok (.iconst 0, 1) by decide +kernel) rfl (by decide) ?_
          refine tr_istore (pc' := 56) (lv' := [some (.ref 64), some (.int v1), some (.int v2), some (.long x2.toInt64), none, some (.int (0 : Int32)), none, none, none]) (show decode cX9_few 54 = .ok (.istore 5, 2) by decide +kernel) rfl (Nat.le_of_ble_eq_true rfl) rfl rfl ?_
          refine ok_X9_few_L56 hfr _ _ x2.toInt64 _ ?_ _ (0 : Int32) μ5 hL h
          · intro μz10 hL h
            refine tr_lconst (pc' := 138) (v := (0 : Int64)) (show decode cX9_few 137 = .ok (.lconst 0, 1) by decide +kernel) rfl (by decide) ?_
            refine tr_lstore (pc' := 140) (lv' := [some (.ref 64), some (.int v1), none, none, none, some (.long (0 : Int64)), none, none, none]) (show decode cX9_few 138 = .ok (.lstore 5, 2) by decide +kernel) rfl (Nat.le_of_ble_eq_true rfl) rfl rfl ?_
            refine tr_iconst (pc' := 141) (v := (0 : Int32)) (show decode cX9_few 140 = .ok (.iconst 0, 1) by decide +kernel) rfl (by decide) ?_
            refine tr_istore (pc' := 143) (lv' := [some (.ref 64), some (.int v1), none, none, none, some (.long (0 : Int64)), none, some (.int (0 : Int32)), none]) (show decode cX9_few 141 = .ok (.istore 7, 2) by decide +kernel) rfl (Nat.le_of_ble_eq_true rfl) rfl rfl ?_
            refine ok_X9_few_L143 hfr _ _ _ ?_ _ (0 : Int64) (0 : Int32) μz10 hL h
            · intro z12_5 μz12 hL h
              refine tr_lload (pc' := 169) (show decode cX9_few 167 = .ok (.lload 5, 2) by decide +kernel) rfl rfl ?_
              cases h
              exact tr_lret rfl (show decode cX9_few 169 = .ok (.lreturn, 1) by decide +kernel) hL
        · refine tr_icmp_le_f (tgt := 25) (pc' := 21) hc (show decode cX9_few 18 = .ok (.if_icmp .le 7, 3) by decide +kernel) (by decide) rfl ?_
          refine tr_ldc2 (pc' := 24) (v := (-1 : Int64)) (show decode cX9_few 21 = .ok (.ldc2_w 303, 3) by decide +kernel) rfl kd_HandRing_303 ?_
          cases h
          exact tr_lret rfl (show decode cX9_few 24 = .ok (.lreturn, 1) by decide +kernel) hL
def f_X9_compare_J44 (v1 : Int32) (s0 : Option Nat) (μ1 : hm_M) : Option (Int32 × hm_M) :=
  Option.bind (f_X0_draw 65 s0 (0 : Int32) μ1) fun μ4 =>
  hm_b2 (f_X0_tellRow (0 : Int32) (0 : Int32) μ4) fun x5 μ6 =>
  some (x5, μ6)
theorem ok_X9_compare_J44 {fr : Nat} (hfr : 6 ≤ fr) {ν : hm_N} {r : Int32} {μR : hm_M}  (v1 : Int32)    (s0 : Option Nat) (hs0 : ∀ p, s0 = some p → hm_pg ν p) (μ1 : hm_M) (hL : hm_LL ν μ1) (h : f_X9_compare_J44 v1 s0 μ1 = some (r, μR)) : hm_T (hm_LL ν) m_X9_compare fr 0 0 (some (.int r)) μR 44 [some (.ref 64), none] [va_rf s0, .ref 65, .ref 145] μ1 := by
  unfold f_X9_compare_J44 at h
  refine tr_iconst (pc' := 45) (v := (0 : Int32)) (show decode cX9_compare 44 = .ok (.iconst 0, 1) by decide +kernel) rfl (by decide) ?_
  obtain ⟨μ4, ex3, h⟩ := hm_bs h
  have cx3 := ok_X0_draw (fr := fr - 1) (ν := ν) (by omega) 65 s0 (0 : Int32) (by unfold hm_V; decide) hs0 μ1 hL ex3
  refine tp_callV (pc' := 48) (As := [.ref 65, va_rf s0, .int (0 : Int32)]) (fr1 := fr - 1) (ci := 0) okm_X0_draw lk_HandRing_239 (show decode cX9_compare 45 = .ok (.invokevirtual 239, 3) by decide +kernel) rfl rfl rfl (by decide) (la_o hL (by decide) rfl) rfl rfl (Nat.le_of_ble_eq_true rfl) (by omega) cx3 (st' := []) rfl ?_
  replace hL := cx3.1
  refine tr_aload_n (pc' := 49) (show decode cX9_compare 48 = .ok (.aload_n 0, 1) by decide +kernel) rfl rfl rfl ?_
  refine tr_getR (pc' := 52) fl_HandRing_62 (show decode cX9_compare 49 = .ok (.getfield 62, 3) by decide +kernel) rfl (la_o hL (by decide) rfl) (la_r hL 8 rfl) ?_
  refine tr_iconst (pc' := 53) (v := (0 : Int32)) (show decode cX9_compare 52 = .ok (.iconst 0, 1) by decide +kernel) rfl (by decide) ?_
  refine tr_iconst (pc' := 54) (v := (0 : Int32)) (show decode cX9_compare 53 = .ok (.iconst 0, 1) by decide +kernel) rfl (by decide) ?_
  obtain ⟨x5, μ6, ex5, h⟩ := hm_b2s h
  have cx5 := ok_X0_tellRow (fr := fr - 1) (ν := ν) (by omega) (0 : Int32) (0 : Int32) μ4 hL ex5
  refine tp_callV (pc' := 57) (As := [.int (0 : Int32), .int (0 : Int32)]) (fr1 := fr - 1) (ci := 0) okm_X0_tellRow lk_HandRing_243 (show decode cX9_compare 54 = .ok (.invokevirtual 243, 3) by decide +kernel) rfl rfl rfl (by decide) (la_o hL (by decide) rfl) rfl rfl (Nat.le_of_ble_eq_true rfl) (by omega) cx5 (st' := [.int x5]) rfl ?_
  replace hL := cx5.1
  cases h
  exact tr_iret rfl (show decode cX9_compare 57 = .ok (.ireturn, 1) by decide +kernel) hL
def f_X9_compare_J18 (v1 : Int32) (μ1 : hm_M) : Option (Int32 × hm_M) :=
  (if v1 = (-1 : Int32) then
  f_X9_compare_J44 v1 none μ1
  else
  Option.bind (hm_ldR μ1 71 6 v1) fun x2 =>
  f_X9_compare_J44 v1 x2 μ1)
theorem ok_X9_compare_J18 {fr : Nat} (hfr : 6 ≤ fr) {ν : hm_N} {r : Int32} {μR : hm_M}  (v1 : Int32)     (μ1 : hm_M) (hL : hm_LL ν μ1) (h : f_X9_compare_J18 v1 μ1 = some (r, μR)) : hm_T (hm_LL ν) m_X9_compare fr 0 0 (some (.int r)) μR 18 [some (.ref 64), some (.int v1)] [] μ1 := by
  unfold f_X9_compare_J18 at h
  refine tr_aload_n (pc' := 19) (show decode cX9_compare 18 = .ok (.aload_n 0, 1) by decide +kernel) rfl rfl rfl ?_
  refine tr_getR (pc' := 22) fl_HandRing_62 (show decode cX9_compare 19 = .ok (.getfield 62, 3) by decide +kernel) rfl (la_o hL (by decide) rfl) (la_r hL 8 rfl) ?_
  refine tr_aload_n (pc' := 23) (show decode cX9_compare 22 = .ok (.aload_n 0, 1) by decide +kernel) rfl rfl rfl ?_
  refine tr_getR (pc' := 26) fl_HandRing_12 (show decode cX9_compare 23 = .ok (.getfield 12, 3) by decide +kernel) rfl (la_o hL (by decide) rfl) (la_r hL 0 rfl) ?_
  refine tr_iload_n (pc' := 27) (show decode cX9_compare 26 = .ok (.iload_n 1, 1) by decide +kernel) rfl rfl rfl ?_
  refine tr_iconst (pc' := 28) (v := (-1 : Int32)) (show decode cX9_compare 27 = .ok (.iconst (-1), 1) by decide +kernel) rfl (by decide) ?_
  rcases hm_is h with ⟨hc, h⟩ | ⟨hc, h⟩
  · refine tr_icmp_ne_f (tgt := 35) (pc' := 31) hc (show decode cX9_compare 28 = .ok (.if_icmp .ne 7, 3) by decide +kernel) (by decide) rfl ?_
    refine tr_null (pc' := 32) (show decode cX9_compare 31 = .ok (.aconst_null, 1) by decide +kernel) rfl ?_
    refine tr_goto (tgt := 44) (show decode cX9_compare 32 = .ok (.goto 12, 3) by decide +kernel) rfl ?_
    refine hm_fgt [true, false] (lv' := [some (.ref 64), none]) rfl ?_
    exact ok_X9_compare_J44 hfr _ none (fun _ z => by cases z) μ1 hL h
  · refine tr_icmp_ne_t (tgt := 35) hc (show decode cX9_compare 28 = .ok (.if_icmp .ne 7, 3) by decide +kernel) (by decide) ?_
    refine tr_aload_n (pc' := 36) (show decode cX9_compare 35 = .ok (.aload_n 0, 1) by decide +kernel) rfl rfl rfl ?_
    refine tr_getR (pc' := 39) fl_HandRing_12 (show decode cX9_compare 36 = .ok (.getfield 12, 3) by decide +kernel) rfl (la_o hL (by decide) rfl) (la_r hL 0 rfl) ?_
    refine tr_getR (pc' := 42) fl_HandRing_315 (show decode cX9_compare 39 = .ok (.getfield 315, 3) by decide +kernel) rfl (la_o hL (by decide) rfl) (la_r hL 18 rfl) ?_
    refine tr_iload_n (pc' := 43) (show decode cX9_compare 42 = .ok (.iload_n 1, 1) by decide +kernel) rfl rfl rfl ?_
    obtain ⟨x2, ex2, h⟩ := hm_bs h
    have hx2 := la_law hL (by unfold hm_V; decide) ex2
    refine tp_ldR (pc' := 44) (t0 := 5) (by decide) (fun _ => rfl) rfl (show decode cX9_compare 43 = .ok (.aaload, 1) by decide +kernel) rfl (la_a hL (by decide) rfl) ex2 rfl ?_
    refine hm_fgt [true, false] (lv' := [some (.ref 64), none]) rfl ?_
    exact ok_X9_compare_J44 hfr _ x2 hx2 μ1 hL h
def f_X9_compare (v1 : Int32) (μ : hm_M) : Option (Int32 × hm_M) :=
  (if v1 = (-1 : Int32) then
  f_X9_compare_J18 v1 μ
  else
  Option.bind (f_X8_hasLaw 65 v1 μ) fun x7 =>
  (if x7 = 0 then
  some ((-1 : Int32), μ)
  else
  f_X9_compare_J18 v1 μ))
set_option maxRecDepth 100000 in
theorem ok_X9_compare {fr : Nat} (hfr : 6 ≤ fr) {ν : hm_N} {r : Int32} {μR : hm_M}  (v1 : Int32)  (μ : hm_M) (hL : hm_LL ν μ) (h : f_X9_compare v1 μ = some (r, μR)) : hm_CC (hm_LL ν) m_X9_compare fr 0 0 [.ref 64, .int v1] μ (some (.int r)) μR := by
  refine hm_enter (lv := [some (.ref 64), some (.int v1)]) (by decide) rfl (Nat.le_of_ble_eq_true rfl) ?_
  unfold f_X9_compare at h
  refine tr_iload_n (pc' := 1) (show decode cX9_compare 0 = .ok (.iload_n 1, 1) by decide +kernel) rfl rfl rfl ?_
  refine tr_iconst (pc' := 2) (v := (-1 : Int32)) (show decode cX9_compare 1 = .ok (.iconst (-1), 1) by decide +kernel) rfl (by decide) ?_
  rcases hm_is h with ⟨hc, h⟩ | ⟨hc, h⟩
  · refine tr_icmp_eq_t (tgt := 18) hc (show decode cX9_compare 2 = .ok (.if_icmp .eq 16, 3) by decide +kernel) (by decide) ?_
    exact ok_X9_compare_J18 hfr _ μ hL h
  · refine tr_icmp_eq_f (tgt := 18) (pc' := 5) hc (show decode cX9_compare 2 = .ok (.if_icmp .eq 16, 3) by decide +kernel) (by decide) rfl ?_
    refine tr_aload_n (pc' := 6) (show decode cX9_compare 5 = .ok (.aload_n 0, 1) by decide +kernel) rfl rfl rfl ?_
    refine tr_getR (pc' := 9) fl_HandRing_12 (show decode cX9_compare 6 = .ok (.getfield 12, 3) by decide +kernel) rfl (la_o hL (by decide) rfl) (la_r hL 0 rfl) ?_
    refine tr_iload_n (pc' := 10) (show decode cX9_compare 9 = .ok (.iload_n 1, 1) by decide +kernel) rfl rfl rfl ?_
    obtain ⟨x7, ex7, h⟩ := hm_bs h
    have cx7 := ok_X8_hasLaw (fr := fr - 1) (ν := ν) (by omega) 65 v1 (by unfold hm_V; decide) μ hL ex7
    refine tp_callV (pc' := 13) (As := [.int v1]) (fr1 := fr - 1) (ci := 8) okm_X8_hasLaw lk_HandRing_212 (show decode cX9_compare 10 = .ok (.invokevirtual 212, 3) by decide +kernel) rfl rfl rfl (by decide) (la_o hL (by decide) rfl) rfl rfl (Nat.le_of_ble_eq_true rfl) (by omega) cx7 (st' := [.int x7]) rfl ?_
    rcases hm_is h with ⟨hc, h⟩ | ⟨hc, h⟩
    · refine tr_if_ne_f (tgt := 18) (pc' := 16) hc (show decode cX9_compare 13 = .ok (.ifCond .ne 5, 3) by decide +kernel) (by decide) rfl ?_
      refine tr_iconst (pc' := 17) (v := (-1 : Int32)) (show decode cX9_compare 16 = .ok (.iconst (-1), 1) by decide +kernel) rfl (by decide) ?_
      cases h
      exact tr_iret rfl (show decode cX9_compare 17 = .ok (.ireturn, 1) by decide +kernel) hL
    · refine tr_if_ne_t (tgt := 18) hc (show decode cX9_compare 13 = .ok (.ifCond .ne 5, 3) by decide +kernel) (by decide) ?_
      exact ok_X9_compare_J18 hfr _ μ hL h
def f_X9_nextDraw (v0 : Int32) : Option Int32 :=
  some ((((v0.toInt64 * (1103 : Int64)) + (12345 : Int64)) - ((v0.toInt64 * (1103 : Int64)) + (12345 : Int64)) / (1000003 : Int64) * (1000003 : Int64)).toInt32)
set_option maxRecDepth 100000 in
theorem ok_X9_nextDraw {fr : Nat} (hfr : 0 ≤ fr) {ν : hm_N} {r : Int32}  (v0 : Int32)  (μ : hm_M) (hL : hm_LL ν μ) (h : f_X9_nextDraw v0 = some r) : hm_CC (hm_LL ν) m_X9_nextDraw fr 0 0 [.int v0] μ (some (.int r)) μ := by
  refine hm_enter (lv := [some (.int v0)]) (by decide) rfl (Nat.le_of_ble_eq_true rfl) ?_
  unfold f_X9_nextDraw at h
  refine tr_iload_n (pc' := 1) (show decode cX9_nextDraw 0 = .ok (.iload_n 0, 1) by decide +kernel) rfl rfl rfl ?_
  refine tr_i2l (pc' := 2) (show decode cX9_nextDraw 1 = .ok (.i2l, 1) by decide +kernel) rfl ?_
  refine tr_ldc2 (pc' := 5) (v := (1103 : Int64)) (show decode cX9_nextDraw 2 = .ok (.ldc2_w 342, 3) by decide +kernel) rfl kd_HandRing_342 ?_
  refine tr_lmul (pc' := 6) (show decode cX9_nextDraw 5 = .ok (.lmul, 1) by decide +kernel) rfl ?_
  refine tr_ldc2 (pc' := 9) (v := (12345 : Int64)) (show decode cX9_nextDraw 6 = .ok (.ldc2_w 344, 3) by decide +kernel) rfl kd_HandRing_344 ?_
  refine tr_ladd (pc' := 10) (show decode cX9_nextDraw 9 = .ok (.ladd, 1) by decide +kernel) rfl ?_
  refine tr_ldc2 (pc' := 13) (v := (1000003 : Int64)) (show decode cX9_nextDraw 10 = .ok (.ldc2_w 346, 3) by decide +kernel) rfl kd_HandRing_346 ?_
  refine tr_lrem (pc' := 14) (show decode cX9_nextDraw 13 = .ok (.lrem, 1) by decide +kernel) rfl (by decide) ?_
  refine tr_l2i (pc' := 15) (show decode cX9_nextDraw 14 = .ok (.l2i, 1) by decide +kernel) rfl ?_
  cases h
  exact tr_iret rfl (show decode cX9_nextDraw 15 = .ok (.ireturn, 1) by decide +kernel) hL
def f_X9_days_J22 (v1 : Int32) (v2 : Int32) (μ1 : hm_M) : Option (Int32 × hm_M) :=
  hm_b2 (f_X9_refused (-1 : Int32) μ1) fun x2 μ3 =>
  some (x2, μ3)
theorem ok_X9_days_J22 {fr : Nat} (hfr : 6 ≤ fr) {ν : hm_N} {r : Int32} {μR : hm_M}  (v1 : Int32) (v2 : Int32)     (μ1 : hm_M) (hL : hm_LL ν μ1) (h : f_X9_days_J22 v1 v2 μ1 = some (r, μR)) : hm_T (hm_LL ν) m_X9_days fr 0 0 (some (.int r)) μR 22 [some (.ref 64), none, none, none, none, none, none, none] [] μ1 := by
  unfold f_X9_days_J22 at h
  refine tr_aload_n (pc' := 23) (show decode cX9_days 22 = .ok (.aload_n 0, 1) by decide +kernel) rfl rfl rfl ?_
  refine tr_iconst (pc' := 24) (v := (-1 : Int32)) (show decode cX9_days 23 = .ok (.iconst (-1), 1) by decide +kernel) rfl (by decide) ?_
  obtain ⟨x2, μ3, ex2, h⟩ := hm_b2s h
  have cx2 := ok_X9_refused (fr := fr - 1) (ν := ν) (by omega) (-1 : Int32) μ1 hL ex2
  refine tp_callV (pc' := 27) (As := [.int (-1 : Int32)]) (fr1 := fr - 1) (ci := 9) okm_X9_refused lk_HandRing_96 (show decode cX9_days 24 = .ok (.invokevirtual 96, 3) by decide +kernel) rfl rfl rfl (by decide) (la_o hL (by decide) rfl) rfl rfl (Nat.le_of_ble_eq_true rfl) (by omega) cx2 (st' := [.int x2]) rfl ?_
  replace hL := cx2.1
  cases h
  exact tr_iret rfl (show decode cX9_days 27 = .ok (.ireturn, 1) by decide +kernel) hL
def f_X9_days_J160 (v1 : Int32) (v2 : Int32) (c66 : Int32 → Int32 → hm_M → Option (Int32 × hm_M)) (e185 : hm_M → Option (Int32 × hm_M)) (s0 : Int32) (s1 : Int32) (s2 : Int32) (y3 : Int32) (y4 : Int32) (μ1 : hm_M) : Option (Int32 × hm_M) :=
  hm_b2 (f_X1_doOne 77 s2 s1 s0 μ1) fun x15 μ16 =>
  hm_b2 (f_X1_doOne 77 (3 : Int32) (0 : Int32) (0 : Int32) μ16) fun x17 μ18 =>
  c66 y3 (y4 + (1 : Int32)) μ18
theorem ok_X9_days_J160 {fr : Nat} (hfr : 6 ≤ fr) {ν : hm_N} {r : Int32} {μR : hm_M}  (v1 : Int32) (v2 : Int32) (c66 : Int32 → Int32 → hm_M → Option (Int32 × hm_M)) (e185 : hm_M → Option (Int32 × hm_M)) (hc66 : ∀ (y3 : Int32) (y4 : Int32)  (μ1 : hm_M), hm_LL ν μ1 → c66 y3 y4 μ1 = some (r, μR) → hm_T (hm_LL ν) m_X9_days fr 0 0 (some (.int r)) μR 66 [some (.ref 64), none, some (.int v2), some (.int y3), some (.int y4), none, none, none] [] μ1) (he185 : ∀   (μ1 : hm_M), hm_LL ν μ1 → e185 μ1 = some (r, μR) → hm_T (hm_LL ν) m_X9_days fr 0 0 (some (.int r)) μR 185 [some (.ref 64), none, none, none, none, none, none, none] [] μ1)  (s0 : Int32) (s1 : Int32) (s2 : Int32) (y3 : Int32) (y4 : Int32) (μ1 : hm_M) (hL : hm_LL ν μ1) (h : f_X9_days_J160 v1 v2 c66 e185 s0 s1 s2 y3 y4 μ1 = some (r, μR)) : hm_T (hm_LL ν) m_X9_days fr 0 0 (some (.int r)) μR 160 [some (.ref 64), none, some (.int v2), some (.int y3), some (.int y4), none, none, none] [.int s0, .int s1, .int s2, .ref 77, .ref 110] μ1 := by
  unfold f_X9_days_J160 at h
  obtain ⟨x15, μ16, ex15, h⟩ := hm_b2s h
  have cx15 := ok_X1_doOne (fr := fr - 1) (ν := ν) (by omega) 77 s2 s1 s0 (by unfold hm_V; decide) μ1 hL ex15
  refine tp_callV (pc' := 163) (As := [.ref 77, .int s2, .int s1, .int s0]) (fr1 := fr - 1) (ci := 1) okm_X1_doOne lk_HandRing_331 (show decode cX9_days 160 = .ok (.invokevirtual 331, 3) by decide +kernel) rfl rfl rfl (by decide) (la_o hL (by decide) rfl) rfl rfl (Nat.le_of_ble_eq_true rfl) (by omega) cx15 (st' := [.int x15]) rfl ?_
  replace hL := cx15.1
  refine tr_pop (pc' := 164) (show decode cX9_days 163 = .ok (.pop, 1) by decide +kernel) rfl rfl ?_
  refine tr_aload_n (pc' := 165) (show decode cX9_days 164 = .ok (.aload_n 0, 1) by decide +kernel) rfl rfl rfl ?_
  refine tr_getR (pc' := 168) fl_HandRing_46 (show decode cX9_days 165 = .ok (.getfield 46, 3) by decide +kernel) rfl (la_o hL (by decide) rfl) (la_r hL 6 rfl) ?_
  refine tr_aload_n (pc' := 169) (show decode cX9_days 168 = .ok (.aload_n 0, 1) by decide +kernel) rfl rfl rfl ?_
  refine tr_getR (pc' := 172) fl_HandRing_24 (show decode cX9_days 169 = .ok (.getfield 24, 3) by decide +kernel) rfl (la_o hL (by decide) rfl) (la_r hL 3 rfl) ?_
  refine tr_iconst (pc' := 173) (v := (3 : Int32)) (show decode cX9_days 172 = .ok (.iconst 3, 1) by decide +kernel) rfl (by decide) ?_
  refine tr_iconst (pc' := 174) (v := (0 : Int32)) (show decode cX9_days 173 = .ok (.iconst 0, 1) by decide +kernel) rfl (by decide) ?_
  refine tr_iconst (pc' := 175) (v := (0 : Int32)) (show decode cX9_days 174 = .ok (.iconst 0, 1) by decide +kernel) rfl (by decide) ?_
  obtain ⟨x17, μ18, ex17, h⟩ := hm_b2s h
  have cx17 := ok_X1_doOne (fr := fr - 1) (ν := ν) (by omega) 77 (3 : Int32) (0 : Int32) (0 : Int32) (by unfold hm_V; decide) μ16 hL ex17
  refine tp_callV (pc' := 178) (As := [.ref 77, .int (3 : Int32), .int (0 : Int32), .int (0 : Int32)]) (fr1 := fr - 1) (ci := 1) okm_X1_doOne lk_HandRing_331 (show decode cX9_days 175 = .ok (.invokevirtual 331, 3) by decide +kernel) rfl rfl rfl (by decide) (la_o hL (by decide) rfl) rfl rfl (Nat.le_of_ble_eq_true rfl) (by omega) cx17 (st' := [.int x17]) rfl ?_
  replace hL := cx17.1
  refine tr_pop (pc' := 179) (show decode cX9_days 178 = .ok (.pop, 1) by decide +kernel) rfl rfl ?_
  refine tr_iinc (pc' := 182) (v := y4 + (1 : Int32)) (lv' := [some (.ref 64), none, some (.int v2), some (.int y3), some (.int (y4 + (1 : Int32))), none, none, none]) (show decode cX9_days 179 = .ok (.iinc 4 1, 3) by decide +kernel) rfl rfl rfl (Nat.le_of_ble_eq_true rfl) rfl rfl ?_
  refine tr_goto (tgt := 66) (show decode cX9_days 182 = .ok (.goto (-116), 3) by decide +kernel) rfl ?_
  exact hc66 y3 (y4 + (1 : Int32)) μ18 hL h
def f_X9_days_L66 (v1 : Int32) (v2 : Int32) (e185 : hm_M → Option (Int32 × hm_M)) : Nat → Int32 → Int32 → hm_M → Option (Int32 × hm_M)
  | 0, _, _, _ => none
  | n + 1, y3, y4, μ1 => (if v2 ≤ y4 then
  e185 μ1
  else
  Option.bind (hm_ld μ1 82 4 (0 : Int32)) fun x7 =>
  Option.bind (hm_ldX 1 (0 : Int32)) fun x8 =>
  (if x8 ≤ x7 then
  e185 μ1
  else
  Option.bind (f_X9_nextDraw y3) fun x9 =>
  Option.bind (hm_rm2 x9 (μ1.1 77 0)) fun x10 =>
  Option.bind (f_X9_nextDraw x9) fun x11 =>
  Option.bind (hm_rm2 x11 (μ1.1 77 0)) fun x12 =>
  Option.bind (f_X9_nextDraw x11) fun x13 =>
  Option.bind (some (x13 - x13 / (3 : Int32) * (3 : Int32))) fun x14 =>
  (if x14 = (2 : Int32) then
  f_X9_days_J160 v1 v2 (f_X9_days_L66 v1 v2 e185 n) e185 ((x12 - x12 / (4 : Int32) * (4 : Int32)) + (1 : Int32)) x10 x14 x13 y4 μ1
  else
  f_X9_days_J160 v1 v2 (f_X9_days_L66 v1 v2 e185 n) e185 x12 x10 x14 x13 y4 μ1)))
theorem ok_X9_days_L66 {fr : Nat} (hfr : 6 ≤ fr) {ν : hm_N} {r : Int32} {μR : hm_M}  (v1 : Int32) (v2 : Int32) (e185 : hm_M → Option (Int32 × hm_M))  (he185 : ∀   (μ1 : hm_M), hm_LL ν μ1 → e185 μ1 = some (r, μR) → hm_T (hm_LL ν) m_X9_days fr 0 0 (some (.int r)) μR 185 [some (.ref 64), none, none, none, none, none, none, none] [] μ1)  : ∀ (n : Nat) (y3 : Int32) (y4 : Int32)  (μ1 : hm_M), hm_LL ν μ1 → f_X9_days_L66 v1 v2 e185 n y3 y4 μ1 = some (r, μR) → hm_T (hm_LL ν) m_X9_days fr 0 0 (some (.int r)) μR 66 [some (.ref 64), none, some (.int v2), some (.int y3), some (.int y4), none, none, none] [] μ1 := by
  intro n
  induction n with
  | zero =>
    intro y3 y4 μ1 hL h
    unfold f_X9_days_L66 at h
    cases h
  | succ n ih =>
    intro y3 y4 μ1 hL h
    unfold f_X9_days_L66 at h
    refine tr_iload (pc' := 68) (show decode cX9_days 66 = .ok (.iload 4, 2) by decide +kernel) rfl rfl ?_
    refine tr_iload_n (pc' := 69) (show decode cX9_days 68 = .ok (.iload_n 2, 1) by decide +kernel) rfl rfl rfl ?_
    rcases hm_is h with ⟨hc, h⟩ | ⟨hc, h⟩
    · refine tr_icmp_ge_t (tgt := 185) hc (show decode cX9_days 69 = .ok (.if_icmp .ge 116, 3) by decide +kernel) (by decide) ?_
      refine hm_fgt [true, false, false, false, false, false, false, false] (lv' := [some (.ref 64), none, none, none, none, none, none, none]) rfl ?_
      exact he185 μ1 hL h
    · refine tr_icmp_ge_f (tgt := 185) (pc' := 72) hc (show decode cX9_days 69 = .ok (.if_icmp .ge 116, 3) by decide +kernel) (by decide) rfl ?_
      refine tr_aload_n (pc' := 73) (show decode cX9_days 72 = .ok (.aload_n 0, 1) by decide +kernel) rfl rfl rfl ?_
      refine tr_getR (pc' := 76) fl_HandRing_24 (show decode cX9_days 73 = .ok (.getfield 24, 3) by decide +kernel) rfl (la_o hL (by decide) rfl) (la_r hL 3 rfl) ?_
      refine tr_getR (pc' := 79) fl_HandRing_155 (show decode cX9_days 76 = .ok (.getfield 155, 3) by decide +kernel) rfl (la_o hL (by decide) rfl) (la_r hL 28 rfl) ?_
      refine tr_iconst (pc' := 80) (v := (0 : Int32)) (show decode cX9_days 79 = .ok (.iconst 0, 1) by decide +kernel) rfl (by decide) ?_
      obtain ⟨x7, ex7, h⟩ := hm_bs h
      refine tp_ldI (pc' := 81) (show decode cX9_days 80 = .ok (.iaload, 1) by decide +kernel) rfl (la_a hL (by decide) rfl) ex7 ?_
      refine tr_gets (pc' := 84) (i := 1) rfl (by decide) fs_HandRing_152 (show decode cX9_days 81 = .ok (.getstatic 152, 3) by decide +kernel) rfl ?_
      refine tr_iconst (pc' := 85) (v := (0 : Int32)) (show decode cX9_days 84 = .ok (.iconst 0, 1) by decide +kernel) rfl (by decide) ?_
      obtain ⟨x8, ex8, h⟩ := hm_bs h
      refine tr_ldX (pc' := 86) (i0 := 1) (by decide) (show decode cX9_days 85 = .ok (.iaload, 1) by decide +kernel) rfl ex8 ?_
      rcases hm_is h with ⟨hc, h⟩ | ⟨hc, h⟩
      · refine tr_icmp_ge_t (tgt := 185) hc (show decode cX9_days 86 = .ok (.if_icmp .ge 99, 3) by decide +kernel) (by decide) ?_
        refine hm_fgt [true, false, false, false, false, false, false, false] (lv' := [some (.ref 64), none, none, none, none, none, none, none]) rfl ?_
        exact he185 μ1 hL h
      · refine tr_icmp_ge_f (tgt := 185) (pc' := 89) hc (show decode cX9_days 86 = .ok (.if_icmp .ge 99, 3) by decide +kernel) (by decide) rfl ?_
        refine tr_iload_n (pc' := 90) (show decode cX9_days 89 = .ok (.iload_n 3, 1) by decide +kernel) rfl rfl rfl ?_
        obtain ⟨x9, ex9, h⟩ := hm_bs h
        have cx9 := ok_X9_nextDraw (fr := fr - 1) (ν := ν) (by omega) y3 μ1 hL ex9
        refine tp_callS (pc' := 93) (As := [.int y3]) (fr1 := fr - 1) okm_X9_nextDraw lk_HandRing_328 (show decode cX9_days 90 = .ok (.invokestatic 328, 3) by decide +kernel) rfl rfl rfl (Nat.le_of_ble_eq_true rfl) (by omega) cx9 (st' := [.int x9]) rfl ?_
        refine tr_istore_n (pc' := 94) (lv' := [some (.ref 64), none, some (.int v2), some (.int x9), some (.int y4), none, none, none]) (show decode cX9_days 93 = .ok (.istore_n 3, 1) by decide +kernel) rfl rfl (Nat.le_of_ble_eq_true rfl) rfl rfl ?_
        refine tr_iload_n (pc' := 95) (show decode cX9_days 94 = .ok (.iload_n 3, 1) by decide +kernel) rfl rfl rfl ?_
        refine tr_aload_n (pc' := 96) (show decode cX9_days 95 = .ok (.aload_n 0, 1) by decide +kernel) rfl rfl rfl ?_
        refine tr_getR (pc' := 99) fl_HandRing_24 (show decode cX9_days 96 = .ok (.getfield 24, 3) by decide +kernel) rfl (la_o hL (by decide) rfl) (la_r hL 3 rfl) ?_
        refine tr_getI (pc' := 102) fl_HandRing_100 (show decode cX9_days 99 = .ok (.getfield 100, 3) by decide +kernel) rfl (la_o hL (by decide) rfl) ?_
        obtain ⟨x10, ex10, h⟩ := hm_bs h
        refine tp_rm (pc' := 103) (show decode cX9_days 102 = .ok (.irem, 1) by decide +kernel) rfl ex10 ?_
        refine tr_istore (pc' := 105) (lv' := [some (.ref 64), none, some (.int v2), some (.int x9), some (.int y4), some (.int x10), none, none]) (show decode cX9_days 103 = .ok (.istore 5, 2) by decide +kernel) rfl (Nat.le_of_ble_eq_true rfl) rfl rfl ?_
        refine tr_iload_n (pc' := 106) (show decode cX9_days 105 = .ok (.iload_n 3, 1) by decide +kernel) rfl rfl rfl ?_
        obtain ⟨x11, ex11, h⟩ := hm_bs h
        have cx11 := ok_X9_nextDraw (fr := fr - 1) (ν := ν) (by omega) x9 μ1 hL ex11
        refine tp_callS (pc' := 109) (As := [.int x9]) (fr1 := fr - 1) okm_X9_nextDraw lk_HandRing_328 (show decode cX9_days 106 = .ok (.invokestatic 328, 3) by decide +kernel) rfl rfl rfl (Nat.le_of_ble_eq_true rfl) (by omega) cx11 (st' := [.int x11]) rfl ?_
        refine tr_istore_n (pc' := 110) (lv' := [some (.ref 64), none, some (.int v2), some (.int x11), some (.int y4), some (.int x10), none, none]) (show decode cX9_days 109 = .ok (.istore_n 3, 1) by decide +kernel) rfl rfl (Nat.le_of_ble_eq_true rfl) rfl rfl ?_
        refine tr_iload_n (pc' := 111) (show decode cX9_days 110 = .ok (.iload_n 3, 1) by decide +kernel) rfl rfl rfl ?_
        refine tr_aload_n (pc' := 112) (show decode cX9_days 111 = .ok (.aload_n 0, 1) by decide +kernel) rfl rfl rfl ?_
        refine tr_getR (pc' := 115) fl_HandRing_24 (show decode cX9_days 112 = .ok (.getfield 24, 3) by decide +kernel) rfl (la_o hL (by decide) rfl) (la_r hL 3 rfl) ?_
        refine tr_getI (pc' := 118) fl_HandRing_100 (show decode cX9_days 115 = .ok (.getfield 100, 3) by decide +kernel) rfl (la_o hL (by decide) rfl) ?_
        obtain ⟨x12, ex12, h⟩ := hm_bs h
        refine tp_rm (pc' := 119) (show decode cX9_days 118 = .ok (.irem, 1) by decide +kernel) rfl ex12 ?_
        refine tr_istore (pc' := 121) (lv' := [some (.ref 64), none, some (.int v2), some (.int x11), some (.int y4), some (.int x10), some (.int x12), none]) (show decode cX9_days 119 = .ok (.istore 6, 2) by decide +kernel) rfl (Nat.le_of_ble_eq_true rfl) rfl rfl ?_
        refine tr_iload_n (pc' := 122) (show decode cX9_days 121 = .ok (.iload_n 3, 1) by decide +kernel) rfl rfl rfl ?_
        obtain ⟨x13, ex13, h⟩ := hm_bs h
        have cx13 := ok_X9_nextDraw (fr := fr - 1) (ν := ν) (by omega) x11 μ1 hL ex13
        refine tp_callS (pc' := 125) (As := [.int x11]) (fr1 := fr - 1) okm_X9_nextDraw lk_HandRing_328 (show decode cX9_days 122 = .ok (.invokestatic 328, 3) by decide +kernel) rfl rfl rfl (Nat.le_of_ble_eq_true rfl) (by omega) cx13 (st' := [.int x13]) rfl ?_
        refine tr_istore_n (pc' := 126) (lv' := [some (.ref 64), none, some (.int v2), some (.int x13), some (.int y4), some (.int x10), some (.int x12), none]) (show decode cX9_days 125 = .ok (.istore_n 3, 1) by decide +kernel) rfl rfl (Nat.le_of_ble_eq_true rfl) rfl rfl ?_
        refine tr_iload_n (pc' := 127) (show decode cX9_days 126 = .ok (.iload_n 3, 1) by decide +kernel) rfl rfl rfl ?_
        refine tr_iconst (pc' := 128) (v := (3 : Int32)) (show decode cX9_days 127 = .ok (.iconst 3, 1) by decide +kernel) rfl (by decide) ?_
        refine tr_irem (pc' := 129) (show decode cX9_days 128 = .ok (.irem, 1) by decide +kernel) rfl (by decide) ?_
        obtain ⟨x14, ex14, h⟩ := hm_bs h
        have ex14 := Option.some.inj ex14
        rw [ex14]
        refine tr_istore (pc' := 131) (lv' := [some (.ref 64), none, some (.int v2), some (.int x13), some (.int y4), some (.int x10), some (.int x12), some (.int x14)]) (show decode cX9_days 129 = .ok (.istore 7, 2) by decide +kernel) rfl (Nat.le_of_ble_eq_true rfl) rfl rfl ?_
        refine tr_aload_n (pc' := 132) (show decode cX9_days 131 = .ok (.aload_n 0, 1) by decide +kernel) rfl rfl rfl ?_
        refine tr_getR (pc' := 135) fl_HandRing_46 (show decode cX9_days 132 = .ok (.getfield 46, 3) by decide +kernel) rfl (la_o hL (by decide) rfl) (la_r hL 6 rfl) ?_
        refine tr_aload_n (pc' := 136) (show decode cX9_days 135 = .ok (.aload_n 0, 1) by decide +kernel) rfl rfl rfl ?_
        refine tr_getR (pc' := 139) fl_HandRing_24 (show decode cX9_days 136 = .ok (.getfield 24, 3) by decide +kernel) rfl (la_o hL (by decide) rfl) (la_r hL 3 rfl) ?_
        refine tr_iload (pc' := 141) (show decode cX9_days 139 = .ok (.iload 7, 2) by decide +kernel) rfl rfl ?_
        refine tr_iload (pc' := 143) (show decode cX9_days 141 = .ok (.iload 5, 2) by decide +kernel) rfl rfl ?_
        refine tr_iload (pc' := 145) (show decode cX9_days 143 = .ok (.iload 7, 2) by decide +kernel) rfl rfl ?_
        refine tr_iconst (pc' := 146) (v := (2 : Int32)) (show decode cX9_days 145 = .ok (.iconst 2, 1) by decide +kernel) rfl (by decide) ?_
        rcases hm_is h with ⟨hc, h⟩ | ⟨hc, h⟩
        · refine tr_icmp_ne_f (tgt := 158) (pc' := 149) hc (show decode cX9_days 146 = .ok (.if_icmp .ne 12, 3) by decide +kernel) (by decide) rfl ?_
          refine tr_iload (pc' := 151) (show decode cX9_days 149 = .ok (.iload 6, 2) by decide +kernel) rfl rfl ?_
          refine tr_iconst (pc' := 152) (v := (4 : Int32)) (show decode cX9_days 151 = .ok (.iconst 4, 1) by decide +kernel) rfl (by decide) ?_
          refine tr_irem (pc' := 153) (show decode cX9_days 152 = .ok (.irem, 1) by decide +kernel) rfl (by decide) ?_
          refine tr_iconst (pc' := 154) (v := (1 : Int32)) (show decode cX9_days 153 = .ok (.iconst 1, 1) by decide +kernel) rfl (by decide) ?_
          refine tr_iadd (pc' := 155) (show decode cX9_days 154 = .ok (.iadd, 1) by decide +kernel) rfl ?_
          refine tr_goto (tgt := 160) (show decode cX9_days 155 = .ok (.goto 5, 3) by decide +kernel) rfl ?_
          refine hm_fgt [true, false, true, true, true, false, false, false] (lv' := [some (.ref 64), none, some (.int v2), some (.int x13), some (.int y4), none, none, none]) rfl ?_
          exact ok_X9_days_J160 hfr _ _ (f_X9_days_L66 v1 v2 e185 n) e185 ih he185 ((x12 - x12 / (4 : Int32) * (4 : Int32)) + (1 : Int32)) x10 x14 x13 y4 μ1 hL h
        · refine tr_icmp_ne_t (tgt := 158) hc (show decode cX9_days 146 = .ok (.if_icmp .ne 12, 3) by decide +kernel) (by decide) ?_
          refine tr_iload (pc' := 160) (show decode cX9_days 158 = .ok (.iload 6, 2) by decide +kernel) rfl rfl ?_
          refine hm_fgt [true, false, true, true, true, false, false, false] (lv' := [some (.ref 64), none, some (.int v2), some (.int x13), some (.int y4), none, none, none]) rfl ?_
          exact ok_X9_days_J160 hfr _ _ (f_X9_days_L66 v1 v2 e185 n) e185 ih he185 x12 x10 x14 x13 y4 μ1 hL h
def f_X9_days_J185 (v1 : Int32) (v2 : Int32) (μ1 : hm_M) : Option (Int32 × hm_M) :=
  Option.bind (f_X8_countHolds 77 μ1) fun x20 =>
  hm_b2 (f_X9_granted x20 μ1) fun x21 μ22 =>
  some (x21, μ22)
theorem ok_X9_days_J185 {fr : Nat} (hfr : 6 ≤ fr) {ν : hm_N} {r : Int32} {μR : hm_M}  (v1 : Int32) (v2 : Int32)     (μ1 : hm_M) (hL : hm_LL ν μ1) (h : f_X9_days_J185 v1 v2 μ1 = some (r, μR)) : hm_T (hm_LL ν) m_X9_days fr 0 0 (some (.int r)) μR 185 [some (.ref 64), none, none, none, none, none, none, none] [] μ1 := by
  unfold f_X9_days_J185 at h
  refine tr_aload_n (pc' := 186) (show decode cX9_days 185 = .ok (.aload_n 0, 1) by decide +kernel) rfl rfl rfl ?_
  refine tr_aload_n (pc' := 187) (show decode cX9_days 186 = .ok (.aload_n 0, 1) by decide +kernel) rfl rfl rfl ?_
  refine tr_getR (pc' := 190) fl_HandRing_24 (show decode cX9_days 187 = .ok (.getfield 24, 3) by decide +kernel) rfl (la_o hL (by decide) rfl) (la_r hL 3 rfl) ?_
  obtain ⟨x20, ex20, h⟩ := hm_bs h
  have cx20 := ok_X8_countHolds (fr := fr - 1) (ν := ν) (by omega) 77 (by unfold hm_V; decide) μ1 hL ex20
  refine tp_callV (pc' := 193) (As := []) (fr1 := fr - 1) (ci := 8) okm_X8_countHolds lk_HandRing_335 (show decode cX9_days 190 = .ok (.invokevirtual 335, 3) by decide +kernel) rfl rfl rfl (by decide) (la_o hL (by decide) rfl) rfl rfl (Nat.le_of_ble_eq_true rfl) (by omega) cx20 (st' := [.int x20, .ref 64]) rfl ?_
  obtain ⟨x21, μ22, ex21, h⟩ := hm_b2s h
  have cx21 := ok_X9_granted (fr := fr - 1) (ν := ν) (by omega) x20 μ1 hL ex21
  refine tp_callV (pc' := 196) (As := [.int x20]) (fr1 := fr - 1) (ci := 9) okm_X9_granted lk_HandRing_110 (show decode cX9_days 193 = .ok (.invokevirtual 110, 3) by decide +kernel) rfl rfl rfl (by decide) (la_o hL (by decide) rfl) rfl rfl (Nat.le_of_ble_eq_true rfl) (by omega) cx21 (st' := [.int x21]) rfl ?_
  replace hL := cx21.1
  cases h
  exact tr_iret rfl (show decode cX9_days 196 = .ok (.ireturn, 1) by decide +kernel) hL
def f_X9_days (v1 : Int32) (v2 : Int32) (μ : hm_M) : Option (Int32 × hm_M) :=
  (if v1 < 0 then
  f_X9_days_J22 v1 v2 μ
  else
  (if (1000000 : Int32) < v1 then
  f_X9_days_J22 v1 v2 μ
  else
  (if v2 < (1 : Int32) then
  f_X9_days_J22 v1 v2 μ
  else
  (if v2 ≤ (60 : Int32) then
  (if (μ.1 65 0) = 0 then
  hm_b2 (f_X9_refused (-3 : Int32) μ) fun x23 μ24 =>
  some (x23, μ24)
  else
  Option.bind (f_X8_copyFrom 77 65 μ) fun μ5 =>
  Option.bind (hm_pZ μ5 64 4 (1 : Int32)) fun μ6 =>
  f_X9_days_L66 v1 v2 (fun μz19 => f_X9_days_J185 v1 v2 μz19) hm_fu v1 (0 : Int32) μ6)
  else
  f_X9_days_J22 v1 v2 μ))))
set_option maxRecDepth 100000 in
theorem ok_X9_days {fr : Nat} (hfr : 6 ≤ fr) {ν : hm_N} {r : Int32} {μR : hm_M}  (v1 : Int32) (v2 : Int32)  (μ : hm_M) (hL : hm_LL ν μ) (h : f_X9_days v1 v2 μ = some (r, μR)) : hm_CC (hm_LL ν) m_X9_days fr 0 0 [.ref 64, .int v1, .int v2] μ (some (.int r)) μR := by
  refine hm_enter (lv := [some (.ref 64), some (.int v1), some (.int v2), none, none, none, none, none]) (by decide) rfl (Nat.le_of_ble_eq_true rfl) ?_
  unfold f_X9_days at h
  refine tr_iload_n (pc' := 1) (show decode cX9_days 0 = .ok (.iload_n 1, 1) by decide +kernel) rfl rfl rfl ?_
  rcases hm_is h with ⟨hc, h⟩ | ⟨hc, h⟩
  · refine tr_if_lt_t (tgt := 22) hc (show decode cX9_days 1 = .ok (.ifCond .lt 21, 3) by decide +kernel) (by decide) ?_
    refine hm_fgt [true, false, false, false, false, false, false, false] (lv' := [some (.ref 64), none, none, none, none, none, none, none]) rfl ?_
    exact ok_X9_days_J22 hfr _ _ μ hL h
  · refine tr_if_lt_f (tgt := 22) (pc' := 4) hc (show decode cX9_days 1 = .ok (.ifCond .lt 21, 3) by decide +kernel) (by decide) rfl ?_
    refine tr_iload_n (pc' := 5) (show decode cX9_days 4 = .ok (.iload_n 1, 1) by decide +kernel) rfl rfl rfl ?_
    refine tr_ldcw (pc' := 8) (v := (1000000 : Int32)) (show decode cX9_days 5 = .ok (.ldc_w 319, 3) by decide +kernel) rfl kc_HandRing_319 ?_
    rcases hm_is h with ⟨hc, h⟩ | ⟨hc, h⟩
    · refine tr_icmp_gt_t (tgt := 22) hc (show decode cX9_days 8 = .ok (.if_icmp .gt 14, 3) by decide +kernel) (by decide) ?_
      refine hm_fgt [true, false, false, false, false, false, false, false] (lv' := [some (.ref 64), none, none, none, none, none, none, none]) rfl ?_
      exact ok_X9_days_J22 hfr _ _ μ hL h
    · refine tr_icmp_gt_f (tgt := 22) (pc' := 11) hc (show decode cX9_days 8 = .ok (.if_icmp .gt 14, 3) by decide +kernel) (by decide) rfl ?_
      refine tr_iload_n (pc' := 12) (show decode cX9_days 11 = .ok (.iload_n 2, 1) by decide +kernel) rfl rfl rfl ?_
      refine tr_iconst (pc' := 13) (v := (1 : Int32)) (show decode cX9_days 12 = .ok (.iconst 1, 1) by decide +kernel) rfl (by decide) ?_
      rcases hm_is h with ⟨hc, h⟩ | ⟨hc, h⟩
      · refine tr_icmp_lt_t (tgt := 22) hc (show decode cX9_days 13 = .ok (.if_icmp .lt 9, 3) by decide +kernel) (by decide) ?_
        refine hm_fgt [true, false, false, false, false, false, false, false] (lv' := [some (.ref 64), none, none, none, none, none, none, none]) rfl ?_
        exact ok_X9_days_J22 hfr _ _ μ hL h
      · refine tr_icmp_lt_f (tgt := 22) (pc' := 16) hc (show decode cX9_days 13 = .ok (.if_icmp .lt 9, 3) by decide +kernel) (by decide) rfl ?_
        refine tr_iload_n (pc' := 17) (show decode cX9_days 16 = .ok (.iload_n 2, 1) by decide +kernel) rfl rfl rfl ?_
        refine tr_bipush (pc' := 19) (v := (60 : Int32)) (show decode cX9_days 17 = .ok (.bipush 60, 2) by decide +kernel) rfl (by decide) ?_
        rcases hm_is h with ⟨hc, h⟩ | ⟨hc, h⟩
        · refine tr_icmp_le_t (tgt := 28) hc (show decode cX9_days 19 = .ok (.if_icmp .le 9, 3) by decide +kernel) (by decide) ?_
          refine tr_aload_n (pc' := 29) (show decode cX9_days 28 = .ok (.aload_n 0, 1) by decide +kernel) rfl rfl rfl ?_
          refine tr_getR (pc' := 32) fl_HandRing_12 (show decode cX9_days 29 = .ok (.getfield 12, 3) by decide +kernel) rfl (la_o hL (by decide) rfl) (la_r hL 0 rfl) ?_
          refine tr_getI (pc' := 35) fl_HandRing_100 (show decode cX9_days 32 = .ok (.getfield 100, 3) by decide +kernel) rfl (la_o hL (by decide) rfl) ?_
          rcases hm_is h with ⟨hc, h⟩ | ⟨hc, h⟩
          · refine tr_if_ne_f (tgt := 45) (pc' := 38) hc (show decode cX9_days 35 = .ok (.ifCond .ne 10, 3) by decide +kernel) (by decide) rfl ?_
            refine tr_aload_n (pc' := 39) (show decode cX9_days 38 = .ok (.aload_n 0, 1) by decide +kernel) rfl rfl rfl ?_
            refine tr_bipush (pc' := 41) (v := (-3 : Int32)) (show decode cX9_days 39 = .ok (.bipush (-3), 2) by decide +kernel) rfl (by decide) ?_
            obtain ⟨x23, μ24, ex23, h⟩ := hm_b2s h
            have cx23 := ok_X9_refused (fr := fr - 1) (ν := ν) (by omega) (-3 : Int32) μ hL ex23
            refine tp_callV (pc' := 44) (As := [.int (-3 : Int32)]) (fr1 := fr - 1) (ci := 9) okm_X9_refused lk_HandRing_96 (show decode cX9_days 41 = .ok (.invokevirtual 96, 3) by decide +kernel) rfl rfl rfl (by decide) (la_o hL (by decide) rfl) rfl rfl (Nat.le_of_ble_eq_true rfl) (by omega) cx23 (st' := [.int x23]) rfl ?_
            replace hL := cx23.1
            cases h
            exact tr_iret rfl (show decode cX9_days 44 = .ok (.ireturn, 1) by decide +kernel) hL
          · refine tr_if_ne_t (tgt := 45) hc (show decode cX9_days 35 = .ok (.ifCond .ne 10, 3) by decide +kernel) (by decide) ?_
            refine tr_aload_n (pc' := 46) (show decode cX9_days 45 = .ok (.aload_n 0, 1) by decide +kernel) rfl rfl rfl ?_
            refine tr_getR (pc' := 49) fl_HandRing_24 (show decode cX9_days 46 = .ok (.getfield 24, 3) by decide +kernel) rfl (la_o hL (by decide) rfl) (la_r hL 3 rfl) ?_
            refine tr_aload_n (pc' := 50) (show decode cX9_days 49 = .ok (.aload_n 0, 1) by decide +kernel) rfl rfl rfl ?_
            refine tr_getR (pc' := 53) fl_HandRing_12 (show decode cX9_days 50 = .ok (.getfield 12, 3) by decide +kernel) rfl (la_o hL (by decide) rfl) (la_r hL 0 rfl) ?_
            obtain ⟨μ5, ex4, h⟩ := hm_bs h
            have cx4 := ok_X8_copyFrom (fr := fr - 1) (ν := ν) (by omega) 77 65 (by unfold hm_V; decide) (by unfold hm_V; decide) μ hL ex4
            refine tp_callV (pc' := 56) (As := [.ref 65]) (fr1 := fr - 1) (ci := 8) okm_X8_copyFrom lk_HandRing_320 (show decode cX9_days 53 = .ok (.invokevirtual 320, 3) by decide +kernel) rfl rfl rfl (by decide) (la_o hL (by decide) rfl) rfl rfl (Nat.le_of_ble_eq_true rfl) (by omega) cx4 (st' := []) rfl ?_
            replace hL := cx4.1
            refine tr_aload_n (pc' := 57) (show decode cX9_days 56 = .ok (.aload_n 0, 1) by decide +kernel) rfl rfl rfl ?_
            refine tr_iconst (pc' := 58) (v := (1 : Int32)) (show decode cX9_days 57 = .ok (.iconst 1, 1) by decide +kernel) rfl (by decide) ?_
            obtain ⟨μ6, eμ6, h⟩ := hm_bs h
            refine tp_pZ (pc' := 61) fl_HandRing_324 (show decode cX9_days 58 = .ok (.putfield 324, 3) by decide +kernel) rfl (la_o hL (by decide) rfl) eμ6 ?_
            replace hL := hL.same (hm_pZ_s eμ6)
            refine tr_iload_n (pc' := 62) (show decode cX9_days 61 = .ok (.iload_n 1, 1) by decide +kernel) rfl rfl rfl ?_
            refine tr_istore_n (pc' := 63) (lv' := [some (.ref 64), some (.int v1), some (.int v2), some (.int v1), none, none, none, none]) (show decode cX9_days 62 = .ok (.istore_n 3, 1) by decide +kernel) rfl rfl (Nat.le_of_ble_eq_true rfl) rfl rfl ?_
            refine tr_iconst (pc' := 64) (v := (0 : Int32)) (show decode cX9_days 63 = .ok (.iconst 0, 1) by decide +kernel) rfl (by decide) ?_
            refine tr_istore (pc' := 66) (lv' := [some (.ref 64), some (.int v1), some (.int v2), some (.int v1), some (.int (0 : Int32)), none, none, none]) (show decode cX9_days 64 = .ok (.istore 4, 2) by decide +kernel) rfl (Nat.le_of_ble_eq_true rfl) rfl rfl ?_
            refine hm_fgt [true, false, true, true, true, false, false, false] (lv' := [some (.ref 64), none, some (.int v2), some (.int v1), some (.int (0 : Int32)), none, none, none]) rfl ?_
            refine ok_X9_days_L66 hfr _ _ _ ?_ _ v1 (0 : Int32) μ6 hL h
            · intro μz19 hL h
              exact ok_X9_days_J185 hfr _ _ μz19 hL h
        · refine tr_icmp_le_f (tgt := 28) (pc' := 22) hc (show decode cX9_days 19 = .ok (.if_icmp .le 9, 3) by decide +kernel) (by decide) rfl ?_
          refine hm_fgt [true, false, false, false, false, false, false, false] (lv' := [some (.ref 64), none, none, none, none, none, none, none]) rfl ?_
          exact ok_X9_days_J22 hfr _ _ μ hL h
