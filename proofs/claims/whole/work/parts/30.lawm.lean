def f_X9_law (μ : hm_M) : Option (Int32 × hm_M) :=
  hm_b2 (f_X9_emptiedTape μ) fun x1 μ1 =>
  if μ1.1 65 7 < (6 : Int32) then
  hm_b2 (f_X6_readText x1 (1 : Int32) μ1) fun x2 μ2 =>
  Option.bind (hm_pI μ2 64 13 x2) fun μ3 =>
  if μ3.1 64 13 = (-1 : Int32) then
  Option.bind (hm_tm μ3) fun μ4 =>
  hm_b2 (f_X8_addLaw 65 (hm_nx μ3) μ4) fun x5 μ5 =>
  f_X9_granted x5 μ5
  else f_X9_refused (-6 : Int32) μ3
  else f_X9_refused (-5 : Int32) μ1
set_option maxRecDepth 100000 in
theorem ok_X9_law {fr : Nat} (hfr : 100 ≤ fr) {ν : hm_N} {r : Int32} {μR : hm_M} (μ : hm_M) (hL : hm_LL ν μ) (h : f_X9_law μ = some (r, μR)) : hm_CC hm_LX m_X9_law fr 4 878 [.ref 64] μ (some (.int r)) μR := by
  refine hm_enter (lv := [some (.ref 64), none]) (by decide) rfl (Nat.le_of_ble_eq_true rfl) ?_
  unfold f_X9_law at h
  refine tr_aload_n (pc' := 1) (show decode cX9_law 0 = .ok (.aload_n 0, 1) by decide +kernel) rfl rfl rfl ?_
  obtain ⟨x1, μ1, d1, h⟩ := hm_b2s h
  have c1 := ok_X9_emptiedTape (fr := fr - 1) (ν := ν) (by omega) μ hL d1
  refine tp_callV (pc' := 4) (As := []) (fr1 := fr - 1) (ci := 9) okm_X9_emptiedTape lk_HandRing_165 (show decode cX9_law 1 = .ok (.invokevirtual 165, 3) by decide +kernel) rfl rfl rfl (by decide) (la_o hL (by decide) rfl) rfl rfl (Nat.le_of_ble_eq_true rfl) (by omega) c1 (st' := [.int x1]) rfl ?_
  replace hL := c1.1
  refine tr_istore_n (pc' := 5) (lv' := [some (.ref 64), some (.int x1)]) (show decode cX9_law 4 = .ok (.istore_n 1, 1) by decide +kernel) rfl rfl (Nat.le_of_ble_eq_true rfl) rfl rfl ?_
  refine tr_aload_n (pc' := 6) (show decode cX9_law 5 = .ok (.aload_n 0, 1) by decide +kernel) rfl rfl rfl ?_
  refine tr_getR (pc' := 9) fl_HandRing_12 (show decode cX9_law 6 = .ok (.getfield 12, 3) by decide +kernel) rfl (la_o hL (by decide) rfl) (la_r hL 0 rfl) ?_
  refine tr_getI (pc' := 12) fl_HandRing_172 (show decode cX9_law 9 = .ok (.getfield 172, 3) by decide +kernel) rfl (la_o hL (by decide) rfl) ?_
  refine tr_bipush (pc' := 14) (v := (6 : Int32)) (show decode cX9_law 12 = .ok (.bipush 6, 2) by decide +kernel) rfl (by decide) ?_
  rcases hm_is h with ⟨hc, h⟩ | ⟨hc, h⟩
  · refine tr_icmp_lt_t (tgt := 24) hc (show decode cX9_law 14 = .ok (.if_icmp .lt 10, 3) by decide +kernel) (by decide) ?_
    refine tr_aload_n (pc' := 25) (show decode cX9_law 24 = .ok (.aload_n 0, 1) by decide +kernel) rfl rfl rfl ?_
    refine tr_aload_n (pc' := 26) (show decode cX9_law 25 = .ok (.aload_n 0, 1) by decide +kernel) rfl rfl rfl ?_
    refine tr_getR (pc' := 29) fl_HandRing_69 (show decode cX9_law 26 = .ok (.getfield 69, 3) by decide +kernel) rfl (la_o hL (by decide) rfl) (la_r hL 9 rfl) ?_
    refine tr_aload_n (pc' := 30) (show decode cX9_law 29 = .ok (.aload_n 0, 1) by decide +kernel) rfl rfl rfl ?_
    refine tr_getR (pc' := 33) fl_HandRing_73 (show decode cX9_law 30 = .ok (.getfield 73, 3) by decide +kernel) rfl (la_o hL (by decide) rfl) (la_r hL 10 rfl) ?_
    refine tr_iload_n (pc' := 34) (show decode cX9_law 33 = .ok (.iload_n 1, 1) by decide +kernel) rfl rfl rfl ?_
    refine tr_iconst (pc' := 35) (v := (1 : Int32)) (show decode cX9_law 34 = .ok (.iconst 1, 1) by decide +kernel) rfl (by decide) ?_
    obtain ⟨x2, μ2, d2, h⟩ := hm_b2s h
    have c2 := ok_X6_readText (fr := fr - 1) (ν := (some 156, ν.2)) (τ := ν.1) (by omega) x1 (1 : Int32) rfl μ1 hL d2
    refine tp_callV (pc' := 38) (As := [.ref 156, .int x1, .int (1 : Int32)]) (fr1 := fr - 1) (ci := 6) okm_X6_readText lk_HandRing_175 (show decode cX9_law 35 = .ok (.invokevirtual 175, 3) by decide +kernel) rfl rfl rfl (by decide) (la_o hL (by decide) rfl) rfl rfl (Nat.le_of_ble_eq_true rfl) (by omega) c2 (st' := [.int x2, .ref 64]) rfl ?_
    have hL2 : hm_LL (some 156, ν.2) μ2 := c2.1
    obtain ⟨μ3, d3, h⟩ := hm_bs h
    refine tp_pI (pc' := 41) fl_HandRing_77 (show decode cX9_law 38 = .ok (.putfield 77, 3) by decide +kernel) rfl (la_o hL2 (by decide) rfl) d3 ?_
    replace hL2 := hL2.same (hm_pI_s d3)
    refine tr_aload_n (pc' := 42) (show decode cX9_law 41 = .ok (.aload_n 0, 1) by decide +kernel) rfl rfl rfl ?_
    refine tr_getI (pc' := 45) fl_HandRing_77 (show decode cX9_law 42 = .ok (.getfield 77, 3) by decide +kernel) rfl (la_o hL2 (by decide) rfl) ?_
    refine tr_iconst (pc' := 46) (v := (-1 : Int32)) (show decode cX9_law 45 = .ok (.iconst (-1), 1) by decide +kernel) rfl (by decide) ?_
    rcases hm_is h with ⟨hc, h⟩ | ⟨hc, h⟩
    · refine tr_icmp_eq_t (tgt := 56) hc (show decode cX9_law 46 = .ok (.if_icmp .eq 10, 3) by decide +kernel) (by decide) ?_
      refine tr_aload_n (pc' := 57) (show decode cX9_law 56 = .ok (.aload_n 0, 1) by decide +kernel) rfl rfl rfl ?_
      refine tr_aload_n (pc' := 58) (show decode cX9_law 57 = .ok (.aload_n 0, 1) by decide +kernel) rfl rfl rfl ?_
      refine tr_getR (pc' := 61) fl_HandRing_12 (show decode cX9_law 58 = .ok (.getfield 12, 3) by decide +kernel) rfl (la_o hL2 (by decide) rfl) (la_r hL2 0 rfl) ?_
      refine tr_aload_n (pc' := 62) (show decode cX9_law 61 = .ok (.aload_n 0, 1) by decide +kernel) rfl rfl rfl ?_
      refine tr_getR (pc' := 65) fl_HandRing_69 (show decode cX9_law 62 = .ok (.getfield 69, 3) by decide +kernel) rfl (la_o hL2 (by decide) rfl) (la_r hL2 9 rfl) ?_
      refine tr_getR (pc' := 68) fl_HandRing_179 (show decode cX9_law 65 = .ok (.getfield 179, 3) by decide +kernel) rfl (la_o hL2 (by decide) rfl) (la_r hL2 95 rfl) ?_
      obtain ⟨μ4, d4, h⟩ := hm_bs h
      obtain ⟨ν4, hL4, hp4, -, -⟩ := la_tm hL2 d4
      have c4 := ok_tm (Λ := fun _ => True) (fr := fr - 1) (by omega) μ3 hL2 d4 trivial
      refine tr_callV (pc' := 71) (As := []) (fr1 := fr - 1) (ci := 5) okm_X5_trimmed lk_HandRing_183 (show decode cX9_law 68 = .ok (.invokevirtual 183, 3) by decide +kernel) rfl rfl rfl (by decide) (la_o hL2 (by decide) rfl) rfl rfl (Nat.le_of_ble_eq_true rfl) (by omega) (Nat.le_refl _) (Nat.le_refl _) c4 ?_
      obtain ⟨x5, μ5, d5, h⟩ := hm_b2s h
      have c5 := ok_X8_addLaw (fr := fr - 1) (ν := ν4) (by omega) 65 (hm_nx μ3) (by unfold hm_V; decide) hp4 μ4 hL4 d5
      refine tp_callV (pc' := 74) (As := [.ref (hm_nx μ3)]) (fr1 := fr - 1) (ci := 8) okm_X8_addLaw lk_HandRing_188 (show decode cX9_law 71 = .ok (.invokevirtual 188, 3) by decide +kernel) rfl rfl rfl (by decide) (la_o hL4 (by decide) rfl) rfl rfl (Nat.le_of_ble_eq_true rfl) (by omega) c5 (st' := [.int x5, .ref 64]) rfl ?_
      replace hL4 := c5.1
      have c6 := ok_X9_granted (fr := fr - 1) (ν := ν4) (by omega) x5 μ5 hL4 h
      refine tp_callV (pc' := 77) (As := [.int x5]) (fr1 := fr - 1) (ci := 9) okm_X9_granted lk_HandRing_110 (show decode cX9_law 74 = .ok (.invokevirtual 110, 3) by decide +kernel) rfl rfl rfl (by decide) (la_o hL4 (by decide) rfl) rfl rfl (Nat.le_of_ble_eq_true rfl) (by omega) c6 (st' := [.int r]) rfl ?_
      exact tr_iret rfl (show decode cX9_law 77 = .ok (.ireturn, 1) by decide +kernel) ⟨ν4, c6.1⟩
    · refine tr_icmp_eq_f (tgt := 56) (pc' := 49) hc (show decode cX9_law 46 = .ok (.if_icmp .eq 10, 3) by decide +kernel) (by decide) rfl ?_
      refine tr_aload_n (pc' := 50) (show decode cX9_law 49 = .ok (.aload_n 0, 1) by decide +kernel) rfl rfl rfl ?_
      refine tr_bipush (pc' := 52) (v := (-6 : Int32)) (show decode cX9_law 50 = .ok (.bipush (-6), 2) by decide +kernel) rfl (by decide) ?_
      have c6 := ok_X9_refused (fr := fr - 1) (ν := (some 156, ν.2)) (by omega) (-6 : Int32) μ3 hL2 h
      refine tp_callV (pc' := 55) (As := [.int (-6 : Int32)]) (fr1 := fr - 1) (ci := 9) okm_X9_refused lk_HandRing_96 (show decode cX9_law 52 = .ok (.invokevirtual 96, 3) by decide +kernel) rfl rfl rfl (by decide) (la_o hL2 (by decide) rfl) rfl rfl (Nat.le_of_ble_eq_true rfl) (by omega) c6 (st' := [.int r]) rfl ?_
      exact tr_iret rfl (show decode cX9_law 55 = .ok (.ireturn, 1) by decide +kernel) ⟨_, c6.1⟩
  · refine tr_icmp_lt_f (tgt := 24) (pc' := 17) hc (show decode cX9_law 14 = .ok (.if_icmp .lt 10, 3) by decide +kernel) (by decide) rfl ?_
    refine tr_aload_n (pc' := 18) (show decode cX9_law 17 = .ok (.aload_n 0, 1) by decide +kernel) rfl rfl rfl ?_
    refine tr_bipush (pc' := 20) (v := (-5 : Int32)) (show decode cX9_law 18 = .ok (.bipush (-5), 2) by decide +kernel) rfl (by decide) ?_
    have c6 := ok_X9_refused (fr := fr - 1) (ν := ν) (by omega) (-5 : Int32) μ1 hL h
    refine tp_callV (pc' := 23) (As := [.int (-5 : Int32)]) (fr1 := fr - 1) (ci := 9) okm_X9_refused lk_HandRing_96 (show decode cX9_law 20 = .ok (.invokevirtual 96, 3) by decide +kernel) rfl rfl rfl (by decide) (la_o hL (by decide) rfl) rfl rfl (Nat.le_of_ble_eq_true rfl) (by omega) c6 (st' := [.int r]) rfl ?_
    exact tr_iret rfl (show decode cX9_law 23 = .ok (.ireturn, 1) by decide +kernel) ⟨_, c6.1⟩
