def f_X0_countRounds_J48 (v1 : Int32) (c4 : Int32 → Int32 → hm_M → Option Int32) (e54 : Int32 → hm_M → Option Int32) (y2 : Int32) (y3 : Int32) (μ1 : hm_M) : Option Int32 :=
  c4 y2 (y3 + (1 : Int32)) μ1
theorem ok_X0_countRounds_J48 {fr : Nat} (hfr : 3 ≤ fr) {ν : hm_N} {r : Int32}  (v1 : Int32) (c4 : Int32 → Int32 → hm_M → Option Int32) (e54 : Int32 → hm_M → Option Int32) (hc4 : ∀ (y2 : Int32) (y3 : Int32)  (μ1 : hm_M), hm_LL ν μ1 → c4 y2 y3 μ1 = some r → hm_T (hm_LL ν) m_X0_countRounds fr 0 0 (some (.int r)) μ1 4 [some (.ref 145), some (.int v1), some (.int y2), some (.int y3)] [] μ1) (he54 : ∀ (y2 : Int32)  (μ1 : hm_M), hm_LL ν μ1 → e54 y2 μ1 = some r → hm_T (hm_LL ν) m_X0_countRounds fr 0 0 (some (.int r)) μ1 54 [none, none, some (.int y2), none] [] μ1)  (y2 : Int32) (y3 : Int32) (μ1 : hm_M) (hL : hm_LL ν μ1) (h : f_X0_countRounds_J48 v1 c4 e54 y2 y3 μ1 = some r) : hm_T (hm_LL ν) m_X0_countRounds fr 0 0 (some (.int r)) μ1 48 [some (.ref 145), some (.int v1), some (.int y2), some (.int y3)] [] μ1 := by
  unfold f_X0_countRounds_J48 at h
  refine tr_iinc (pc' := 51) (v := y3 + (1 : Int32)) (lv' := [some (.ref 145), some (.int v1), some (.int y2), some (.int (y3 + (1 : Int32)))]) (show decode cX0_countRounds 48 = .ok (.iinc 3 1, 3) by decide +kernel) rfl rfl rfl (Nat.le_of_ble_eq_true rfl) rfl rfl ?_
  refine tr_goto (tgt := 4) (show decode cX0_countRounds 51 = .ok (.goto (-47), 3) by decide +kernel) rfl ?_
  exact hc4 y2 (y3 + (1 : Int32)) μ1 hL h
def f_X0_countRounds_L4 (v1 : Int32) (e54 : Int32 → hm_M → Option Int32) : Nat → Int32 → Int32 → hm_M → Option Int32
  | 0, _, _, _ => none
  | n + 1, y2, y3, μ1 => (if (μ1.1 145 5) ≤ y3 then
  e54 y2 μ1
  else
  (if v1 = (-1 : Int32) then
  e54 y2 μ1
  else
  Option.bind (f_X0_everybody μ1) fun x2 =>
  Option.bind (f_X0_leastClosed x2 (0 : Int32) y3 μ1) fun x3 =>
  (if x3 = v1 then
  Option.bind (f_X0_everybody μ1) fun x4 =>
  Option.bind (hm_ld μ1 148 2048 ((x4 * (8 : Int32)) + y3)) fun x5 =>
  f_X0_countRounds_J48 v1 (f_X0_countRounds_L4 v1 e54 n) e54 (y2 + x5) y3 μ1
  else
  f_X0_countRounds_J48 v1 (f_X0_countRounds_L4 v1 e54 n) e54 y2 y3 μ1)))
theorem ok_X0_countRounds_L4 {fr : Nat} (hfr : 3 ≤ fr) {ν : hm_N} {r : Int32}  (v1 : Int32) (e54 : Int32 → hm_M → Option Int32)  (he54 : ∀ (y2 : Int32)  (μ1 : hm_M), hm_LL ν μ1 → e54 y2 μ1 = some r → hm_T (hm_LL ν) m_X0_countRounds fr 0 0 (some (.int r)) μ1 54 [none, none, some (.int y2), none] [] μ1)  : ∀ (n : Nat) (y2 : Int32) (y3 : Int32)  (μ1 : hm_M), hm_LL ν μ1 → f_X0_countRounds_L4 v1 e54 n y2 y3 μ1 = some r → hm_T (hm_LL ν) m_X0_countRounds fr 0 0 (some (.int r)) μ1 4 [some (.ref 145), some (.int v1), some (.int y2), some (.int y3)] [] μ1 := by
  intro n
  induction n with
  | zero =>
    intro y2 y3 μ1 hL h
    unfold f_X0_countRounds_L4 at h
    cases h
  | succ n ih =>
    intro y2 y3 μ1 hL h
    unfold f_X0_countRounds_L4 at h
    refine tr_iload_n (pc' := 5) (show decode cX0_countRounds 4 = .ok (.iload_n 3, 1) by decide +kernel) rfl rfl rfl ?_
    refine tr_aload_n (pc' := 6) (show decode cX0_countRounds 5 = .ok (.aload_n 0, 1) by decide +kernel) rfl rfl rfl ?_
    refine tr_getI (pc' := 9) fl_HandRing_Circle_28 (show decode cX0_countRounds 6 = .ok (.getfield 28, 3) by decide +kernel) rfl (la_o hL (by decide) rfl) ?_
    rcases hm_is h with ⟨hc, h⟩ | ⟨hc, h⟩
    · refine tr_icmp_ge_t (tgt := 54) hc (show decode cX0_countRounds 9 = .ok (.if_icmp .ge 45, 3) by decide +kernel) (by decide) ?_
      refine hm_fgt [false, false, true, false] (lv' := [none, none, some (.int y2), none]) rfl ?_
      exact he54 y2 μ1 hL h
    · refine tr_icmp_ge_f (tgt := 54) (pc' := 12) hc (show decode cX0_countRounds 9 = .ok (.if_icmp .ge 45, 3) by decide +kernel) (by decide) rfl ?_
      refine tr_iload_n (pc' := 13) (show decode cX0_countRounds 12 = .ok (.iload_n 1, 1) by decide +kernel) rfl rfl rfl ?_
      refine tr_iconst (pc' := 14) (v := (-1 : Int32)) (show decode cX0_countRounds 13 = .ok (.iconst (-1), 1) by decide +kernel) rfl (by decide) ?_
      rcases hm_is h with ⟨hc, h⟩ | ⟨hc, h⟩
      · refine tr_icmp_eq_t (tgt := 54) hc (show decode cX0_countRounds 14 = .ok (.if_icmp .eq 40, 3) by decide +kernel) (by decide) ?_
        refine hm_fgt [false, false, true, false] (lv' := [none, none, some (.int y2), none]) rfl ?_
        exact he54 y2 μ1 hL h
      · refine tr_icmp_eq_f (tgt := 54) (pc' := 17) hc (show decode cX0_countRounds 14 = .ok (.if_icmp .eq 40, 3) by decide +kernel) (by decide) rfl ?_
        refine tr_aload_n (pc' := 18) (show decode cX0_countRounds 17 = .ok (.aload_n 0, 1) by decide +kernel) rfl rfl rfl ?_
        refine tr_aload_n (pc' := 19) (show decode cX0_countRounds 18 = .ok (.aload_n 0, 1) by decide +kernel) rfl rfl rfl ?_
        obtain ⟨x2, ex2, h⟩ := hm_bs h
        have cx2 := ok_X0_everybody (fr := fr - 1) (ν := ν) (by omega) μ1 hL ex2
        refine tp_callV (pc' := 22) (As := []) (fr1 := fr - 1) (ci := 0) okm_X0_everybody lk_HandRing_Circle_124 (show decode cX0_countRounds 19 = .ok (.invokevirtual 124, 3) by decide +kernel) rfl rfl rfl (by decide) (la_o hL (by decide) rfl) rfl rfl (Nat.le_of_ble_eq_true rfl) (by omega) cx2 (st' := [.int x2, .ref 145]) rfl ?_
        refine tr_iconst (pc' := 23) (v := (0 : Int32)) (show decode cX0_countRounds 22 = .ok (.iconst 0, 1) by decide +kernel) rfl (by decide) ?_
        refine tr_iload_n (pc' := 24) (show decode cX0_countRounds 23 = .ok (.iload_n 3, 1) by decide +kernel) rfl rfl rfl ?_
        obtain ⟨x3, ex3, h⟩ := hm_bs h
        have cx3 := ok_X0_leastClosed (fr := fr - 1) (ν := ν) (by omega) x2 (0 : Int32) y3 μ1 hL ex3
        refine tp_callV (pc' := 27) (As := [.int x2, .int (0 : Int32), .int y3]) (fr1 := fr - 1) (ci := 0) okm_X0_leastClosed lk_HandRing_Circle_120 (show decode cX0_countRounds 24 = .ok (.invokevirtual 120, 3) by decide +kernel) rfl rfl rfl (by decide) (la_o hL (by decide) rfl) rfl rfl (Nat.le_of_ble_eq_true rfl) (by omega) cx3 (st' := [.int x3]) rfl ?_
        refine tr_iload_n (pc' := 28) (show decode cX0_countRounds 27 = .ok (.iload_n 1, 1) by decide +kernel) rfl rfl rfl ?_
        rcases hm_is h with ⟨hc, h⟩ | ⟨hc, h⟩
        · refine tr_icmp_ne_f (tgt := 48) (pc' := 31) hc (show decode cX0_countRounds 28 = .ok (.if_icmp .ne 20, 3) by decide +kernel) (by decide) rfl ?_
          refine tr_iload_n (pc' := 32) (show decode cX0_countRounds 31 = .ok (.iload_n 2, 1) by decide +kernel) rfl rfl rfl ?_
          refine tr_aload_n (pc' := 33) (show decode cX0_countRounds 32 = .ok (.aload_n 0, 1) by decide +kernel) rfl rfl rfl ?_
          refine tr_getR (pc' := 36) fl_HandRing_Circle_18 (show decode cX0_countRounds 33 = .ok (.getfield 18, 3) by decide +kernel) rfl (la_o hL (by decide) rfl) (la_r hL 93 rfl) ?_
          refine tr_aload_n (pc' := 37) (show decode cX0_countRounds 36 = .ok (.aload_n 0, 1) by decide +kernel) rfl rfl rfl ?_
          obtain ⟨x4, ex4, h⟩ := hm_bs h
          have cx4 := ok_X0_everybody (fr := fr - 1) (ν := ν) (by omega) μ1 hL ex4
          refine tp_callV (pc' := 40) (As := []) (fr1 := fr - 1) (ci := 0) okm_X0_everybody lk_HandRing_Circle_124 (show decode cX0_countRounds 37 = .ok (.invokevirtual 124, 3) by decide +kernel) rfl rfl rfl (by decide) (la_o hL (by decide) rfl) rfl rfl (Nat.le_of_ble_eq_true rfl) (by omega) cx4 (st' := [.int x4, .ref 148, .int y2]) rfl ?_
          refine tr_bipush (pc' := 42) (v := (8 : Int32)) (show decode cX0_countRounds 40 = .ok (.bipush 8, 2) by decide +kernel) rfl (by decide) ?_
          refine tr_imul (pc' := 43) (show decode cX0_countRounds 42 = .ok (.imul, 1) by decide +kernel) rfl ?_
          refine tr_iload_n (pc' := 44) (show decode cX0_countRounds 43 = .ok (.iload_n 3, 1) by decide +kernel) rfl rfl rfl ?_
          refine tr_iadd (pc' := 45) (show decode cX0_countRounds 44 = .ok (.iadd, 1) by decide +kernel) rfl ?_
          obtain ⟨x5, ex5, h⟩ := hm_bs h
          refine tp_ldI (pc' := 46) (show decode cX0_countRounds 45 = .ok (.iaload, 1) by decide +kernel) rfl (la_a hL (by decide) rfl) ex5 ?_
          refine tr_iadd (pc' := 47) (show decode cX0_countRounds 46 = .ok (.iadd, 1) by decide +kernel) rfl ?_
          refine tr_istore_n (pc' := 48) (lv' := [some (.ref 145), some (.int v1), some (.int (y2 + x5)), some (.int y3)]) (show decode cX0_countRounds 47 = .ok (.istore_n 2, 1) by decide +kernel) rfl rfl (Nat.le_of_ble_eq_true rfl) rfl rfl ?_
          exact ok_X0_countRounds_J48 hfr _ (f_X0_countRounds_L4 v1 e54 n) e54 ih he54 (y2 + x5) y3 μ1 hL h
        · refine tr_icmp_ne_t (tgt := 48) hc (show decode cX0_countRounds 28 = .ok (.if_icmp .ne 20, 3) by decide +kernel) (by decide) ?_
          exact ok_X0_countRounds_J48 hfr _ (f_X0_countRounds_L4 v1 e54 n) e54 ih he54 y2 y3 μ1 hL h
def f_X0_countRounds (v1 : Int32) (μ : hm_M) : Option Int32 :=
  f_X0_countRounds_L4 v1 (fun z6_2 μz6 => some (z6_2 / (2 : Int32))) hm_fu (0 : Int32) (1 : Int32) μ
set_option maxRecDepth 100000 in
theorem ok_X0_countRounds {fr : Nat} (hfr : 3 ≤ fr) {ν : hm_N} {r : Int32}  (v1 : Int32)  (μ : hm_M) (hL : hm_LL ν μ) (h : f_X0_countRounds v1 μ = some r) : hm_CC (hm_LL ν) m_X0_countRounds fr 0 0 [.ref 145, .int v1] μ (some (.int r)) μ := by
  refine hm_enter (lv := [some (.ref 145), some (.int v1), none, none]) (by decide) rfl (Nat.le_of_ble_eq_true rfl) ?_
  unfold f_X0_countRounds at h
  refine tr_iconst (pc' := 1) (v := (0 : Int32)) (show decode cX0_countRounds 0 = .ok (.iconst 0, 1) by decide +kernel) rfl (by decide) ?_
  refine tr_istore_n (pc' := 2) (lv' := [some (.ref 145), some (.int v1), some (.int (0 : Int32)), none]) (show decode cX0_countRounds 1 = .ok (.istore_n 2, 1) by decide +kernel) rfl rfl (Nat.le_of_ble_eq_true rfl) rfl rfl ?_
  refine tr_iconst (pc' := 3) (v := (1 : Int32)) (show decode cX0_countRounds 2 = .ok (.iconst 1, 1) by decide +kernel) rfl (by decide) ?_
  refine tr_istore_n (pc' := 4) (lv' := [some (.ref 145), some (.int v1), some (.int (0 : Int32)), some (.int (1 : Int32))]) (show decode cX0_countRounds 3 = .ok (.istore_n 3, 1) by decide +kernel) rfl rfl (Nat.le_of_ble_eq_true rfl) rfl rfl ?_
  refine ok_X0_countRounds_L4 hfr _ _ ?_ _ (0 : Int32) (1 : Int32) μ hL h
  · intro z6_2 μz6 hL h
    refine tr_iload_n (pc' := 55) (show decode cX0_countRounds 54 = .ok (.iload_n 2, 1) by decide +kernel) rfl rfl rfl ?_
    refine tr_iconst (pc' := 56) (v := (2 : Int32)) (show decode cX0_countRounds 55 = .ok (.iconst 2, 1) by decide +kernel) rfl (by decide) ?_
    refine tr_idiv (pc' := 57) (show decode cX0_countRounds 56 = .ok (.idiv, 1) by decide +kernel) rfl (by decide) ?_
    cases h
    exact tr_iret rfl (show decode cX0_countRounds 57 = .ok (.ireturn, 1) by decide +kernel) hL
def f_X0_wayHome (v1 : Int32) (v2 : Int32) (μ : hm_M) : Option Int32 :=
  Option.bind (f_X0_everybody μ) fun x2 =>
  some (((x2 &&& (v1 ^^^ (-1 : Int32))) ||| (1 : Int32)) ||| ((1 : Int32) <<< (v2 &&& 31)))
set_option maxRecDepth 100000 in
theorem ok_X0_wayHome {fr : Nat} (hfr : 1 ≤ fr) {ν : hm_N} {r : Int32}  (v1 : Int32) (v2 : Int32)  (μ : hm_M) (hL : hm_LL ν μ) (h : f_X0_wayHome v1 v2 μ = some r) : hm_CC (hm_LL ν) m_X0_wayHome fr 0 0 [.ref 145, .int v1, .int v2] μ (some (.int r)) μ := by
  refine hm_enter (lv := [some (.ref 145), some (.int v1), some (.int v2)]) (by decide) rfl (Nat.le_of_ble_eq_true rfl) ?_
  unfold f_X0_wayHome at h
  refine tr_aload_n (pc' := 1) (show decode cX0_wayHome 0 = .ok (.aload_n 0, 1) by decide +kernel) rfl rfl rfl ?_
  obtain ⟨x2, ex2, h⟩ := hm_bs h
  have cx2 := ok_X0_everybody (fr := fr - 1) (ν := ν) (by omega) μ hL ex2
  refine tp_callV (pc' := 4) (As := []) (fr1 := fr - 1) (ci := 0) okm_X0_everybody lk_HandRing_Circle_124 (show decode cX0_wayHome 1 = .ok (.invokevirtual 124, 3) by decide +kernel) rfl rfl rfl (by decide) (la_o hL (by decide) rfl) rfl rfl (Nat.le_of_ble_eq_true rfl) (by omega) cx2 (st' := [.int x2]) rfl ?_
  refine tr_iload_n (pc' := 5) (show decode cX0_wayHome 4 = .ok (.iload_n 1, 1) by decide +kernel) rfl rfl rfl ?_
  refine tr_iconst (pc' := 6) (v := (-1 : Int32)) (show decode cX0_wayHome 5 = .ok (.iconst (-1), 1) by decide +kernel) rfl (by decide) ?_
  refine tr_ixor (pc' := 7) (show decode cX0_wayHome 6 = .ok (.ixor, 1) by decide +kernel) rfl ?_
  refine tr_iand (pc' := 8) (show decode cX0_wayHome 7 = .ok (.iand, 1) by decide +kernel) rfl ?_
  refine tr_iconst (pc' := 9) (v := (1 : Int32)) (show decode cX0_wayHome 8 = .ok (.iconst 1, 1) by decide +kernel) rfl (by decide) ?_
  refine tr_ior (pc' := 10) (show decode cX0_wayHome 9 = .ok (.ior, 1) by decide +kernel) rfl ?_
  refine tr_iconst (pc' := 11) (v := (1 : Int32)) (show decode cX0_wayHome 10 = .ok (.iconst 1, 1) by decide +kernel) rfl (by decide) ?_
  refine tr_iload_n (pc' := 12) (show decode cX0_wayHome 11 = .ok (.iload_n 2, 1) by decide +kernel) rfl rfl rfl ?_
  refine tr_ishl (pc' := 13) (show decode cX0_wayHome 12 = .ok (.ishl, 1) by decide +kernel) rfl ?_
  refine tr_ior (pc' := 14) (show decode cX0_wayHome 13 = .ok (.ior, 1) by decide +kernel) rfl ?_
  cases h
  exact tr_iret rfl (show decode cX0_wayHome 14 = .ok (.ireturn, 1) by decide +kernel) hL
def f_X0_firstNext_J77 (v1 : Int32) (v2 : Int32) (v3 : Int32) (v4 : Int32) (c3 : Int32 → hm_M → Option Int32) (e83 : hm_M → Option Int32) (y5 : Int32) (μ1 : hm_M) : Option Int32 :=
  c3 (y5 + (1 : Int32)) μ1
theorem ok_X0_firstNext_J77 {fr : Nat} (hfr : 2 ≤ fr) {ν : hm_N} {r : Int32}  (v1 : Int32) (v2 : Int32) (v3 : Int32) (v4 : Int32) (c3 : Int32 → hm_M → Option Int32) (e83 : hm_M → Option Int32) (hc3 : ∀ (y5 : Int32)  (μ1 : hm_M), hm_LL ν μ1 → c3 y5 μ1 = some r → hm_T (hm_LL ν) m_X0_firstNext fr 0 0 (some (.int r)) μ1 3 [some (.ref 145), some (.int v1), some (.int v2), some (.int v3), some (.int v4), some (.int y5), none, none] [] μ1) (he83 : ∀   (μ1 : hm_M), hm_LL ν μ1 → e83 μ1 = some r → hm_T (hm_LL ν) m_X0_firstNext fr 0 0 (some (.int r)) μ1 83 [none, none, none, none, none, none, none, none] [] μ1)  (y5 : Int32) (μ1 : hm_M) (hL : hm_LL ν μ1) (h : f_X0_firstNext_J77 v1 v2 v3 v4 c3 e83 y5 μ1 = some r) : hm_T (hm_LL ν) m_X0_firstNext fr 0 0 (some (.int r)) μ1 77 [some (.ref 145), some (.int v1), some (.int v2), some (.int v3), some (.int v4), some (.int y5), none, none] [] μ1 := by
  unfold f_X0_firstNext_J77 at h
  refine tr_iinc (pc' := 80) (v := y5 + (1 : Int32)) (lv' := [some (.ref 145), some (.int v1), some (.int v2), some (.int v3), some (.int v4), some (.int (y5 + (1 : Int32))), none, none]) (show decode cX0_firstNext 77 = .ok (.iinc 5 1, 3) by decide +kernel) rfl rfl rfl (Nat.le_of_ble_eq_true rfl) rfl rfl ?_
  refine tr_goto (tgt := 3) (show decode cX0_firstNext 80 = .ok (.goto (-77), 3) by decide +kernel) rfl ?_
  exact hc3 (y5 + (1 : Int32)) μ1 hL h
def f_X0_firstNext_L3 (v1 : Int32) (v2 : Int32) (v3 : Int32) (v4 : Int32) (e83 : hm_M → Option Int32) : Nat → Int32 → hm_M → Option Int32
  | 0, _, _ => none
  | n + 1, y5, μ1 => (if (μ1.1 145 5) ≤ y5 then
  e83 μ1
  else
  Option.bind (f_X0_costBetween v2 y5 μ1) fun x2 =>
  (if ((v1 >>> (y5 &&& 31)) &&& (1 : Int32)) = 0 then
  (if x2 = (-1 : Int32) then
  f_X0_firstNext_J77 v1 v2 v3 v4 (f_X0_firstNext_L3 v1 v2 v3 v4 e83 n) e83 y5 μ1
  else
  Option.bind (f_X0_wayHome (v1 ||| ((1 : Int32) <<< (y5 &&& 31))) y5 μ1) fun x3 =>
  Option.bind (f_X0_leastTo x3 y5 μ1) fun x4 =>
  Option.bind (f_X0_together v3 x2 μ1) fun x5 =>
  Option.bind (f_X0_together x5 x4 μ1) fun x6 =>
  (if v4 < x6 then
  f_X0_firstNext_J77 v1 v2 v3 v4 (f_X0_firstNext_L3 v1 v2 v3 v4 e83 n) e83 y5 μ1
  else
  some y5))
  else
  f_X0_firstNext_J77 v1 v2 v3 v4 (f_X0_firstNext_L3 v1 v2 v3 v4 e83 n) e83 y5 μ1))
theorem ok_X0_firstNext_L3 {fr : Nat} (hfr : 2 ≤ fr) {ν : hm_N} {r : Int32}  (v1 : Int32) (v2 : Int32) (v3 : Int32) (v4 : Int32) (e83 : hm_M → Option Int32)  (he83 : ∀   (μ1 : hm_M), hm_LL ν μ1 → e83 μ1 = some r → hm_T (hm_LL ν) m_X0_firstNext fr 0 0 (some (.int r)) μ1 83 [none, none, none, none, none, none, none, none] [] μ1)  : ∀ (n : Nat) (y5 : Int32)  (μ1 : hm_M), hm_LL ν μ1 → f_X0_firstNext_L3 v1 v2 v3 v4 e83 n y5 μ1 = some r → hm_T (hm_LL ν) m_X0_firstNext fr 0 0 (some (.int r)) μ1 3 [some (.ref 145), some (.int v1), some (.int v2), some (.int v3), some (.int v4), some (.int y5), none, none] [] μ1 := by
  intro n
  induction n with
  | zero =>
    intro y5 μ1 hL h
    unfold f_X0_firstNext_L3 at h
    cases h
  | succ n ih =>
    intro y5 μ1 hL h
    unfold f_X0_firstNext_L3 at h
    refine tr_iload (pc' := 5) (show decode cX0_firstNext 3 = .ok (.iload 5, 2) by decide +kernel) rfl rfl ?_
    refine tr_aload_n (pc' := 6) (show decode cX0_firstNext 5 = .ok (.aload_n 0, 1) by decide +kernel) rfl rfl rfl ?_
    refine tr_getI (pc' := 9) fl_HandRing_Circle_28 (show decode cX0_firstNext 6 = .ok (.getfield 28, 3) by decide +kernel) rfl (la_o hL (by decide) rfl) ?_
    rcases hm_is h with ⟨hc, h⟩ | ⟨hc, h⟩
    · refine tr_icmp_ge_t (tgt := 83) hc (show decode cX0_firstNext 9 = .ok (.if_icmp .ge 74, 3) by decide +kernel) (by decide) ?_
      refine hm_fgt [false, false, false, false, false, false, false, false] (lv' := [none, none, none, none, none, none, none, none]) rfl ?_
      exact he83 μ1 hL h
    · refine tr_icmp_ge_f (tgt := 83) (pc' := 12) hc (show decode cX0_firstNext 9 = .ok (.if_icmp .ge 74, 3) by decide +kernel) (by decide) rfl ?_
      refine tr_aload_n (pc' := 13) (show decode cX0_firstNext 12 = .ok (.aload_n 0, 1) by decide +kernel) rfl rfl rfl ?_
      refine tr_iload_n (pc' := 14) (show decode cX0_firstNext 13 = .ok (.iload_n 2, 1) by decide +kernel) rfl rfl rfl ?_
      refine tr_iload (pc' := 16) (show decode cX0_firstNext 14 = .ok (.iload 5, 2) by decide +kernel) rfl rfl ?_
      obtain ⟨x2, ex2, h⟩ := hm_bs h
      have cx2 := ok_X0_costBetween (fr := fr - 1) (ν := ν) (by omega) v2 y5 μ1 hL ex2
      refine tp_callV (pc' := 19) (As := [.int v2, .int y5]) (fr1 := fr - 1) (ci := 0) okm_X0_costBetween lk_HandRing_Circle_73 (show decode cX0_firstNext 16 = .ok (.invokevirtual 73, 3) by decide +kernel) rfl rfl rfl (by decide) (la_o hL (by decide) rfl) rfl rfl (Nat.le_of_ble_eq_true rfl) (by omega) cx2 (st' := [.int x2]) rfl ?_
      refine tr_istore (pc' := 21) (lv' := [some (.ref 145), some (.int v1), some (.int v2), some (.int v3), some (.int v4), some (.int y5), some (.int x2), none]) (show decode cX0_firstNext 19 = .ok (.istore 6, 2) by decide +kernel) rfl (Nat.le_of_ble_eq_true rfl) rfl rfl ?_
      refine tr_iload_n (pc' := 22) (show decode cX0_firstNext 21 = .ok (.iload_n 1, 1) by decide +kernel) rfl rfl rfl ?_
      refine tr_iload (pc' := 24) (show decode cX0_firstNext 22 = .ok (.iload 5, 2) by decide +kernel) rfl rfl ?_
      refine tr_ishr (pc' := 25) (show decode cX0_firstNext 24 = .ok (.ishr, 1) by decide +kernel) rfl ?_
      refine tr_iconst (pc' := 26) (v := (1 : Int32)) (show decode cX0_firstNext 25 = .ok (.iconst 1, 1) by decide +kernel) rfl (by decide) ?_
      refine tr_iand (pc' := 27) (show decode cX0_firstNext 26 = .ok (.iand, 1) by decide +kernel) rfl ?_
      rcases hm_is h with ⟨hc, h⟩ | ⟨hc, h⟩
      · refine tr_if_ne_f (tgt := 77) (pc' := 30) hc (show decode cX0_firstNext 27 = .ok (.ifCond .ne 50, 3) by decide +kernel) (by decide) rfl ?_
        refine tr_iload (pc' := 32) (show decode cX0_firstNext 30 = .ok (.iload 6, 2) by decide +kernel) rfl rfl ?_
        refine tr_iconst (pc' := 33) (v := (-1 : Int32)) (show decode cX0_firstNext 32 = .ok (.iconst (-1), 1) by decide +kernel) rfl (by decide) ?_
        rcases hm_is h with ⟨hc, h⟩ | ⟨hc, h⟩
        · refine tr_icmp_eq_t (tgt := 77) hc (show decode cX0_firstNext 33 = .ok (.if_icmp .eq 44, 3) by decide +kernel) (by decide) ?_
          refine hm_fgt [true, true, true, true, true, true, false, false] (lv' := [some (.ref 145), some (.int v1), some (.int v2), some (.int v3), some (.int v4), some (.int y5), none, none]) rfl ?_
          exact ok_X0_firstNext_J77 hfr _ _ _ _ (f_X0_firstNext_L3 v1 v2 v3 v4 e83 n) e83 ih he83 y5 μ1 hL h
        · refine tr_icmp_eq_f (tgt := 77) (pc' := 36) hc (show decode cX0_firstNext 33 = .ok (.if_icmp .eq 44, 3) by decide +kernel) (by decide) rfl ?_
          refine tr_aload_n (pc' := 37) (show decode cX0_firstNext 36 = .ok (.aload_n 0, 1) by decide +kernel) rfl rfl rfl ?_
          refine tr_aload_n (pc' := 38) (show decode cX0_firstNext 37 = .ok (.aload_n 0, 1) by decide +kernel) rfl rfl rfl ?_
          refine tr_iload_n (pc' := 39) (show decode cX0_firstNext 38 = .ok (.iload_n 1, 1) by decide +kernel) rfl rfl rfl ?_
          refine tr_iconst (pc' := 40) (v := (1 : Int32)) (show decode cX0_firstNext 39 = .ok (.iconst 1, 1) by decide +kernel) rfl (by decide) ?_
          refine tr_iload (pc' := 42) (show decode cX0_firstNext 40 = .ok (.iload 5, 2) by decide +kernel) rfl rfl ?_
          refine tr_ishl (pc' := 43) (show decode cX0_firstNext 42 = .ok (.ishl, 1) by decide +kernel) rfl ?_
          refine tr_ior (pc' := 44) (show decode cX0_firstNext 43 = .ok (.ior, 1) by decide +kernel) rfl ?_
          refine tr_iload (pc' := 46) (show decode cX0_firstNext 44 = .ok (.iload 5, 2) by decide +kernel) rfl rfl ?_
          obtain ⟨x3, ex3, h⟩ := hm_bs h
          have cx3 := ok_X0_wayHome (fr := fr - 1) (ν := ν) (by omega) (v1 ||| ((1 : Int32) <<< (y5 &&& 31))) y5 μ1 hL ex3
          refine tp_callV (pc' := 49) (As := [.int (v1 ||| ((1 : Int32) <<< (y5 &&& 31))), .int y5]) (fr1 := fr - 1) (ci := 0) okm_X0_wayHome lk_HandRing_Circle_142 (show decode cX0_firstNext 46 = .ok (.invokevirtual 142, 3) by decide +kernel) rfl rfl rfl (by decide) (la_o hL (by decide) rfl) rfl rfl (Nat.le_of_ble_eq_true rfl) (by omega) cx3 (st' := [.int x3, .ref 145]) rfl ?_
          refine tr_iload (pc' := 51) (show decode cX0_firstNext 49 = .ok (.iload 5, 2) by decide +kernel) rfl rfl ?_
          obtain ⟨x4, ex4, h⟩ := hm_bs h
          have cx4 := ok_X0_leastTo (fr := fr - 1) (ν := ν) (by omega) x3 y5 μ1 hL ex4
          refine tp_callV (pc' := 54) (As := [.int x3, .int y5]) (fr1 := fr - 1) (ci := 0) okm_X0_leastTo lk_HandRing_Circle_109 (show decode cX0_firstNext 51 = .ok (.invokevirtual 109, 3) by decide +kernel) rfl rfl rfl (by decide) (la_o hL (by decide) rfl) rfl rfl (Nat.le_of_ble_eq_true rfl) (by omega) cx4 (st' := [.int x4]) rfl ?_
          refine tr_istore (pc' := 56) (lv' := [some (.ref 145), some (.int v1), some (.int v2), some (.int v3), some (.int v4), some (.int y5), some (.int x2), some (.int x4)]) (show decode cX0_firstNext 54 = .ok (.istore 7, 2) by decide +kernel) rfl (Nat.le_of_ble_eq_true rfl) rfl rfl ?_
          refine tr_aload_n (pc' := 57) (show decode cX0_firstNext 56 = .ok (.aload_n 0, 1) by decide +kernel) rfl rfl rfl ?_
          refine tr_aload_n (pc' := 58) (show decode cX0_firstNext 57 = .ok (.aload_n 0, 1) by decide +kernel) rfl rfl rfl ?_
          refine tr_iload_n (pc' := 59) (show decode cX0_firstNext 58 = .ok (.iload_n 3, 1) by decide +kernel) rfl rfl rfl ?_
          refine tr_iload (pc' := 61) (show decode cX0_firstNext 59 = .ok (.iload 6, 2) by decide +kernel) rfl rfl ?_
          obtain ⟨x5, ex5, h⟩ := hm_bs h
          have cx5 := ok_X0_together (fr := fr - 1) (ν := ν) (by omega) v3 x2 μ1 hL ex5
          refine tp_callV (pc' := 64) (As := [.int v3, .int x2]) (fr1 := fr - 1) (ci := 0) okm_X0_together lk_HandRing_Circle_115 (show decode cX0_firstNext 61 = .ok (.invokevirtual 115, 3) by decide +kernel) rfl rfl rfl (by decide) (la_o hL (by decide) rfl) rfl rfl (Nat.le_of_ble_eq_true rfl) (by omega) cx5 (st' := [.int x5, .ref 145]) rfl ?_
          refine tr_iload (pc' := 66) (show decode cX0_firstNext 64 = .ok (.iload 7, 2) by decide +kernel) rfl rfl ?_
          obtain ⟨x6, ex6, h⟩ := hm_bs h
          have cx6 := ok_X0_together (fr := fr - 1) (ν := ν) (by omega) x5 x4 μ1 hL ex6
          refine tp_callV (pc' := 69) (As := [.int x5, .int x4]) (fr1 := fr - 1) (ci := 0) okm_X0_together lk_HandRing_Circle_115 (show decode cX0_firstNext 66 = .ok (.invokevirtual 115, 3) by decide +kernel) rfl rfl rfl (by decide) (la_o hL (by decide) rfl) rfl rfl (Nat.le_of_ble_eq_true rfl) (by omega) cx6 (st' := [.int x6]) rfl ?_
          refine tr_iload (pc' := 71) (show decode cX0_firstNext 69 = .ok (.iload 4, 2) by decide +kernel) rfl rfl ?_
          rcases hm_is h with ⟨hc, h⟩ | ⟨hc, h⟩
          · refine tr_icmp_gt_t (tgt := 77) hc (show decode cX0_firstNext 71 = .ok (.if_icmp .gt 6, 3) by decide +kernel) (by decide) ?_
            refine hm_fgt [true, true, true, true, true, true, false, false] (lv' := [some (.ref 145), some (.int v1), some (.int v2), some (.int v3), some (.int v4), some (.int y5), none, none]) rfl ?_
            exact ok_X0_firstNext_J77 hfr _ _ _ _ (f_X0_firstNext_L3 v1 v2 v3 v4 e83 n) e83 ih he83 y5 μ1 hL h
          · refine tr_icmp_gt_f (tgt := 77) (pc' := 74) hc (show decode cX0_firstNext 71 = .ok (.if_icmp .gt 6, 3) by decide +kernel) (by decide) rfl ?_
            refine tr_iload (pc' := 76) (show decode cX0_firstNext 74 = .ok (.iload 5, 2) by decide +kernel) rfl rfl ?_
            cases h
            exact tr_iret rfl (show decode cX0_firstNext 76 = .ok (.ireturn, 1) by decide +kernel) hL
      · refine tr_if_ne_t (tgt := 77) hc (show decode cX0_firstNext 27 = .ok (.ifCond .ne 50, 3) by decide +kernel) (by decide) ?_
        refine hm_fgt [true, true, true, true, true, true, false, false] (lv' := [some (.ref 145), some (.int v1), some (.int v2), some (.int v3), some (.int v4), some (.int y5), none, none]) rfl ?_
        exact ok_X0_firstNext_J77 hfr _ _ _ _ (f_X0_firstNext_L3 v1 v2 v3 v4 e83 n) e83 ih he83 y5 μ1 hL h
def f_X0_firstNext (v1 : Int32) (v2 : Int32) (v3 : Int32) (v4 : Int32) (μ : hm_M) : Option Int32 :=
  f_X0_firstNext_L3 v1 v2 v3 v4 (fun μz7 => some (-1 : Int32)) hm_fu (1 : Int32) μ
set_option maxRecDepth 100000 in
theorem ok_X0_firstNext {fr : Nat} (hfr : 2 ≤ fr) {ν : hm_N} {r : Int32}  (v1 : Int32) (v2 : Int32) (v3 : Int32) (v4 : Int32)  (μ : hm_M) (hL : hm_LL ν μ) (h : f_X0_firstNext v1 v2 v3 v4 μ = some r) : hm_CC (hm_LL ν) m_X0_firstNext fr 0 0 [.ref 145, .int v1, .int v2, .int v3, .int v4] μ (some (.int r)) μ := by
  refine hm_enter (lv := [some (.ref 145), some (.int v1), some (.int v2), some (.int v3), some (.int v4), none, none, none]) (by decide) rfl (Nat.le_of_ble_eq_true rfl) ?_
  unfold f_X0_firstNext at h
  refine tr_iconst (pc' := 1) (v := (1 : Int32)) (show decode cX0_firstNext 0 = .ok (.iconst 1, 1) by decide +kernel) rfl (by decide) ?_
  refine tr_istore (pc' := 3) (lv' := [some (.ref 145), some (.int v1), some (.int v2), some (.int v3), some (.int v4), some (.int (1 : Int32)), none, none]) (show decode cX0_firstNext 1 = .ok (.istore 5, 2) by decide +kernel) rfl (Nat.le_of_ble_eq_true rfl) rfl rfl ?_
  refine ok_X0_firstNext_L3 hfr _ _ _ _ _ ?_ _ (1 : Int32) μ hL h
  · intro μz7 hL h
    refine tr_iconst (pc' := 84) (v := (-1 : Int32)) (show decode cX0_firstNext 83 = .ok (.iconst (-1), 1) by decide +kernel) rfl (by decide) ?_
    cases h
    exact tr_iret rfl (show decode cX0_firstNext 84 = .ok (.ireturn, 1) by decide +kernel) hL
def f_X0_inRow_J78 (v1 : Int32) (v2 : Int32) (c25 : Int32 → Int32 → Int32 → Int32 → hm_M → Option Int32) (e87 : Int32 → hm_M → Option Int32) (y4 : Int32) (y5 : Int32) (y6 : Int32) (y7 : Int32) (μ1 : hm_M) : Option Int32 :=
  c25 y7 y4 y5 (y6 + (1 : Int32)) μ1
theorem ok_X0_inRow_J78 {fr : Nat} (hfr : 3 ≤ fr) {ν : hm_N} {r : Int32}  (v1 : Int32) (v2 : Int32) (c25 : Int32 → Int32 → Int32 → Int32 → hm_M → Option Int32) (e87 : Int32 → hm_M → Option Int32) (hc25 : ∀ (y3 : Int32) (y4 : Int32) (y5 : Int32) (y6 : Int32)  (μ1 : hm_M), hm_LL ν μ1 → c25 y3 y4 y5 y6 μ1 = some r → hm_T (hm_LL ν) m_X0_inRow fr 0 0 (some (.int r)) μ1 25 [some (.ref 145), some (.int v1), some (.int v2), some (.int y3), some (.int y4), some (.int y5), some (.int y6), none] [] μ1) (he87 : ∀ (y3 : Int32)  (μ1 : hm_M), hm_LL ν μ1 → e87 y3 μ1 = some r → hm_T (hm_LL ν) m_X0_inRow fr 0 0 (some (.int r)) μ1 87 [none, none, none, some (.int y3), none, none, none, none] [] μ1)  (y4 : Int32) (y5 : Int32) (y6 : Int32) (y7 : Int32) (μ1 : hm_M) (hL : hm_LL ν μ1) (h : f_X0_inRow_J78 v1 v2 c25 e87 y4 y5 y6 y7 μ1 = some r) : hm_T (hm_LL ν) m_X0_inRow fr 0 0 (some (.int r)) μ1 78 [some (.ref 145), some (.int v1), some (.int v2), none, some (.int y4), some (.int y5), some (.int y6), some (.int y7)] [] μ1 := by
  unfold f_X0_inRow_J78 at h
  refine tr_iload (pc' := 80) (show decode cX0_inRow 78 = .ok (.iload 7, 2) by decide +kernel) rfl rfl ?_
  refine tr_istore_n (pc' := 81) (lv' := [some (.ref 145), some (.int v1), some (.int v2), some (.int y7), some (.int y4), some (.int y5), some (.int y6), some (.int y7)]) (show decode cX0_inRow 80 = .ok (.istore_n 3, 1) by decide +kernel) rfl rfl (Nat.le_of_ble_eq_true rfl) rfl rfl ?_
  refine tr_iinc (pc' := 84) (v := y6 + (1 : Int32)) (lv' := [some (.ref 145), some (.int v1), some (.int v2), some (.int y7), some (.int y4), some (.int y5), some (.int (y6 + (1 : Int32))), some (.int y7)]) (show decode cX0_inRow 81 = .ok (.iinc 6 1, 3) by decide +kernel) rfl rfl rfl (Nat.le_of_ble_eq_true rfl) rfl rfl ?_
  refine tr_goto (tgt := 25) (show decode cX0_inRow 84 = .ok (.goto (-59), 3) by decide +kernel) rfl ?_
  refine hm_fgt [true, true, true, true, true, true, true, false] (lv' := [some (.ref 145), some (.int v1), some (.int v2), some (.int y7), some (.int y4), some (.int y5), some (.int (y6 + (1 : Int32))), none]) rfl ?_
  exact hc25 y7 y4 y5 (y6 + (1 : Int32)) μ1 hL h
def f_X0_inRow_L25 (v1 : Int32) (v2 : Int32) (e87 : Int32 → hm_M → Option Int32) : Nat → Int32 → Int32 → Int32 → Int32 → hm_M → Option Int32
  | 0, _, _, _, _, _ => none
  | n + 1, y3, y4, y5, y6, μ1 => (if v2 ≤ y6 then
  e87 y3 μ1
  else
  (if y3 = (-1 : Int32) then
  e87 y3 μ1
  else
  Option.bind (f_X0_firstNext y4 y3 y5 v1 μ1) fun x2 =>
  (if x2 = (-1 : Int32) then
  f_X0_inRow_J78 v1 v2 (f_X0_inRow_L25 v1 v2 e87 n) e87 y4 y5 y6 x2 μ1
  else
  Option.bind (f_X0_costBetween y3 x2 μ1) fun x3 =>
  Option.bind (f_X0_together y5 x3 μ1) fun x4 =>
  Option.bind (some (y4 ||| ((1 : Int32) <<< (x2 &&& 31)))) fun x5 =>
  f_X0_inRow_J78 v1 v2 (f_X0_inRow_L25 v1 v2 e87 n) e87 x5 x4 y6 x2 μ1)))
theorem ok_X0_inRow_L25 {fr : Nat} (hfr : 3 ≤ fr) {ν : hm_N} {r : Int32}  (v1 : Int32) (v2 : Int32) (e87 : Int32 → hm_M → Option Int32)  (he87 : ∀ (y3 : Int32)  (μ1 : hm_M), hm_LL ν μ1 → e87 y3 μ1 = some r → hm_T (hm_LL ν) m_X0_inRow fr 0 0 (some (.int r)) μ1 87 [none, none, none, some (.int y3), none, none, none, none] [] μ1)  : ∀ (n : Nat) (y3 : Int32) (y4 : Int32) (y5 : Int32) (y6 : Int32)  (μ1 : hm_M), hm_LL ν μ1 → f_X0_inRow_L25 v1 v2 e87 n y3 y4 y5 y6 μ1 = some r → hm_T (hm_LL ν) m_X0_inRow fr 0 0 (some (.int r)) μ1 25 [some (.ref 145), some (.int v1), some (.int v2), some (.int y3), some (.int y4), some (.int y5), some (.int y6), none] [] μ1 := by
  intro n
  induction n with
  | zero =>
    intro y3 y4 y5 y6 μ1 hL h
    unfold f_X0_inRow_L25 at h
    cases h
  | succ n ih =>
    intro y3 y4 y5 y6 μ1 hL h
    unfold f_X0_inRow_L25 at h
    refine tr_iload (pc' := 27) (show decode cX0_inRow 25 = .ok (.iload 6, 2) by decide +kernel) rfl rfl ?_
    refine tr_iload_n (pc' := 28) (show decode cX0_inRow 27 = .ok (.iload_n 2, 1) by decide +kernel) rfl rfl rfl ?_
    rcases hm_is h with ⟨hc, h⟩ | ⟨hc, h⟩
    · refine tr_icmp_ge_t (tgt := 87) hc (show decode cX0_inRow 28 = .ok (.if_icmp .ge 59, 3) by decide +kernel) (by decide) ?_
      refine hm_fgt [false, false, false, true, false, false, false, false] (lv' := [none, none, none, some (.int y3), none, none, none, none]) rfl ?_
      exact he87 y3 μ1 hL h
    · refine tr_icmp_ge_f (tgt := 87) (pc' := 31) hc (show decode cX0_inRow 28 = .ok (.if_icmp .ge 59, 3) by decide +kernel) (by decide) rfl ?_
      refine tr_iload_n (pc' := 32) (show decode cX0_inRow 31 = .ok (.iload_n 3, 1) by decide +kernel) rfl rfl rfl ?_
      refine tr_iconst (pc' := 33) (v := (-1 : Int32)) (show decode cX0_inRow 32 = .ok (.iconst (-1), 1) by decide +kernel) rfl (by decide) ?_
      rcases hm_is h with ⟨hc, h⟩ | ⟨hc, h⟩
      · refine tr_icmp_eq_t (tgt := 87) hc (show decode cX0_inRow 33 = .ok (.if_icmp .eq 54, 3) by decide +kernel) (by decide) ?_
        refine hm_fgt [false, false, false, true, false, false, false, false] (lv' := [none, none, none, some (.int y3), none, none, none, none]) rfl ?_
        exact he87 y3 μ1 hL h
      · refine tr_icmp_eq_f (tgt := 87) (pc' := 36) hc (show decode cX0_inRow 33 = .ok (.if_icmp .eq 54, 3) by decide +kernel) (by decide) rfl ?_
        refine tr_aload_n (pc' := 37) (show decode cX0_inRow 36 = .ok (.aload_n 0, 1) by decide +kernel) rfl rfl rfl ?_
        refine tr_iload (pc' := 39) (show decode cX0_inRow 37 = .ok (.iload 4, 2) by decide +kernel) rfl rfl ?_
        refine tr_iload_n (pc' := 40) (show decode cX0_inRow 39 = .ok (.iload_n 3, 1) by decide +kernel) rfl rfl rfl ?_
        refine tr_iload (pc' := 42) (show decode cX0_inRow 40 = .ok (.iload 5, 2) by decide +kernel) rfl rfl ?_
        refine tr_iload_n (pc' := 43) (show decode cX0_inRow 42 = .ok (.iload_n 1, 1) by decide +kernel) rfl rfl rfl ?_
        obtain ⟨x2, ex2, h⟩ := hm_bs h
        have cx2 := ok_X0_firstNext (fr := fr - 1) (ν := ν) (by omega) y4 y3 y5 v1 μ1 hL ex2
        refine tp_callV (pc' := 46) (As := [.int y4, .int y3, .int y5, .int v1]) (fr1 := fr - 1) (ci := 0) okm_X0_firstNext lk_HandRing_Circle_138 (show decode cX0_inRow 43 = .ok (.invokevirtual 138, 3) by decide +kernel) rfl rfl rfl (by decide) (la_o hL (by decide) rfl) rfl rfl (Nat.le_of_ble_eq_true rfl) (by omega) cx2 (st' := [.int x2]) rfl ?_
        refine tr_istore (pc' := 48) (lv' := [some (.ref 145), some (.int v1), some (.int v2), some (.int y3), some (.int y4), some (.int y5), some (.int y6), some (.int x2)]) (show decode cX0_inRow 46 = .ok (.istore 7, 2) by decide +kernel) rfl (Nat.le_of_ble_eq_true rfl) rfl rfl ?_
        refine tr_iload (pc' := 50) (show decode cX0_inRow 48 = .ok (.iload 7, 2) by decide +kernel) rfl rfl ?_
        refine tr_iconst (pc' := 51) (v := (-1 : Int32)) (show decode cX0_inRow 50 = .ok (.iconst (-1), 1) by decide +kernel) rfl (by decide) ?_
        rcases hm_is h with ⟨hc, h⟩ | ⟨hc, h⟩
        · refine tr_icmp_eq_t (tgt := 78) hc (show decode cX0_inRow 51 = .ok (.if_icmp .eq 27, 3) by decide +kernel) (by decide) ?_
          refine hm_fgt [true, true, true, false, true, true, true, true] (lv' := [some (.ref 145), some (.int v1), some (.int v2), none, some (.int y4), some (.int y5), some (.int y6), some (.int x2)]) rfl ?_
          exact ok_X0_inRow_J78 hfr _ _ (f_X0_inRow_L25 v1 v2 e87 n) e87 ih he87 y4 y5 y6 x2 μ1 hL h
        · refine tr_icmp_eq_f (tgt := 78) (pc' := 54) hc (show decode cX0_inRow 51 = .ok (.if_icmp .eq 27, 3) by decide +kernel) (by decide) rfl ?_
          refine tr_aload_n (pc' := 55) (show decode cX0_inRow 54 = .ok (.aload_n 0, 1) by decide +kernel) rfl rfl rfl ?_
          refine tr_iload (pc' := 57) (show decode cX0_inRow 55 = .ok (.iload 5, 2) by decide +kernel) rfl rfl ?_
          refine tr_aload_n (pc' := 58) (show decode cX0_inRow 57 = .ok (.aload_n 0, 1) by decide +kernel) rfl rfl rfl ?_
          refine tr_iload_n (pc' := 59) (show decode cX0_inRow 58 = .ok (.iload_n 3, 1) by decide +kernel) rfl rfl rfl ?_
          refine tr_iload (pc' := 61) (show decode cX0_inRow 59 = .ok (.iload 7, 2) by decide +kernel) rfl rfl ?_
          obtain ⟨x3, ex3, h⟩ := hm_bs h
          have cx3 := ok_X0_costBetween (fr := fr - 1) (ν := ν) (by omega) y3 x2 μ1 hL ex3
          refine tp_callV (pc' := 64) (As := [.int y3, .int x2]) (fr1 := fr - 1) (ci := 0) okm_X0_costBetween lk_HandRing_Circle_73 (show decode cX0_inRow 61 = .ok (.invokevirtual 73, 3) by decide +kernel) rfl rfl rfl (by decide) (la_o hL (by decide) rfl) rfl rfl (Nat.le_of_ble_eq_true rfl) (by omega) cx3 (st' := [.int x3, .int y5, .ref 145]) rfl ?_
          obtain ⟨x4, ex4, h⟩ := hm_bs h
          have cx4 := ok_X0_together (fr := fr - 1) (ν := ν) (by omega) y5 x3 μ1 hL ex4
          refine tp_callV (pc' := 67) (As := [.int y5, .int x3]) (fr1 := fr - 1) (ci := 0) okm_X0_together lk_HandRing_Circle_115 (show decode cX0_inRow 64 = .ok (.invokevirtual 115, 3) by decide +kernel) rfl rfl rfl (by decide) (la_o hL (by decide) rfl) rfl rfl (Nat.le_of_ble_eq_true rfl) (by omega) cx4 (st' := [.int x4]) rfl ?_
          refine tr_istore (pc' := 69) (lv' := [some (.ref 145), some (.int v1), some (.int v2), some (.int y3), some (.int y4), some (.int x4), some (.int y6), some (.int x2)]) (show decode cX0_inRow 67 = .ok (.istore 5, 2) by decide +kernel) rfl (Nat.le_of_ble_eq_true rfl) rfl rfl ?_
          refine tr_iload (pc' := 71) (show decode cX0_inRow 69 = .ok (.iload 4, 2) by decide +kernel) rfl rfl ?_
          refine tr_iconst (pc' := 72) (v := (1 : Int32)) (show decode cX0_inRow 71 = .ok (.iconst 1, 1) by decide +kernel) rfl (by decide) ?_
          refine tr_iload (pc' := 74) (show decode cX0_inRow 72 = .ok (.iload 7, 2) by decide +kernel) rfl rfl ?_
          refine tr_ishl (pc' := 75) (show decode cX0_inRow 74 = .ok (.ishl, 1) by decide +kernel) rfl ?_
          refine tr_ior (pc' := 76) (show decode cX0_inRow 75 = .ok (.ior, 1) by decide +kernel) rfl ?_
          obtain ⟨x5, ex5, h⟩ := hm_bs h
          have ex5 := Option.some.inj ex5
          rw [ex5]
          refine tr_istore (pc' := 78) (lv' := [some (.ref 145), some (.int v1), some (.int v2), some (.int y3), some (.int x5), some (.int x4), some (.int y6), some (.int x2)]) (show decode cX0_inRow 76 = .ok (.istore 4, 2) by decide +kernel) rfl (Nat.le_of_ble_eq_true rfl) rfl rfl ?_
          refine hm_fgt [true, true, true, false, true, true, true, true] (lv' := [some (.ref 145), some (.int v1), some (.int v2), none, some (.int x5), some (.int x4), some (.int y6), some (.int x2)]) rfl ?_
          exact ok_X0_inRow_J78 hfr _ _ (f_X0_inRow_L25 v1 v2 e87 n) e87 ih he87 x5 x4 y6 x2 μ1 hL h
def f_X0_inRow (v1 : Int32) (v2 : Int32) (μ : hm_M) : Option Int32 :=
  (if v2 < 0 then
  some (-1 : Int32)
  else
  (if v2 < (μ.1 145 5) then
  f_X0_inRow_L25 v1 v2 (fun z6_3 μz6 => some z6_3) hm_fu (0 : Int32) (1 : Int32) (0 : Int32) (0 : Int32) μ
  else
  some (-1 : Int32)))
set_option maxRecDepth 100000 in
theorem ok_X0_inRow {fr : Nat} (hfr : 3 ≤ fr) {ν : hm_N} {r : Int32}  (v1 : Int32) (v2 : Int32)  (μ : hm_M) (hL : hm_LL ν μ) (h : f_X0_inRow v1 v2 μ = some r) : hm_CC (hm_LL ν) m_X0_inRow fr 0 0 [.ref 145, .int v1, .int v2] μ (some (.int r)) μ := by
  refine hm_enter (lv := [some (.ref 145), some (.int v1), some (.int v2), none, none, none, none, none]) (by decide) rfl (Nat.le_of_ble_eq_true rfl) ?_
  unfold f_X0_inRow at h
  refine tr_iload_n (pc' := 1) (show decode cX0_inRow 0 = .ok (.iload_n 2, 1) by decide +kernel) rfl rfl rfl ?_
  rcases hm_is h with ⟨hc, h⟩ | ⟨hc, h⟩
  · refine tr_if_lt_t (tgt := 12) hc (show decode cX0_inRow 1 = .ok (.ifCond .lt 11, 3) by decide +kernel) (by decide) ?_
    refine tr_iconst (pc' := 13) (v := (-1 : Int32)) (show decode cX0_inRow 12 = .ok (.iconst (-1), 1) by decide +kernel) rfl (by decide) ?_
    cases h
    exact tr_iret rfl (show decode cX0_inRow 13 = .ok (.ireturn, 1) by decide +kernel) hL
  · refine tr_if_lt_f (tgt := 12) (pc' := 4) hc (show decode cX0_inRow 1 = .ok (.ifCond .lt 11, 3) by decide +kernel) (by decide) rfl ?_
    refine tr_iload_n (pc' := 5) (show decode cX0_inRow 4 = .ok (.iload_n 2, 1) by decide +kernel) rfl rfl rfl ?_
    refine tr_aload_n (pc' := 6) (show decode cX0_inRow 5 = .ok (.aload_n 0, 1) by decide +kernel) rfl rfl rfl ?_
    refine tr_getI (pc' := 9) fl_HandRing_Circle_28 (show decode cX0_inRow 6 = .ok (.getfield 28, 3) by decide +kernel) rfl (la_o hL (by decide) rfl) ?_
    rcases hm_is h with ⟨hc, h⟩ | ⟨hc, h⟩
    · refine tr_icmp_lt_t (tgt := 14) hc (show decode cX0_inRow 9 = .ok (.if_icmp .lt 5, 3) by decide +kernel) (by decide) ?_
      refine tr_iconst (pc' := 15) (v := (0 : Int32)) (show decode cX0_inRow 14 = .ok (.iconst 0, 1) by decide +kernel) rfl (by decide) ?_
      refine tr_istore_n (pc' := 16) (lv' := [some (.ref 145), some (.int v1), some (.int v2), some (.int (0 : Int32)), none, none, none, none]) (show decode cX0_inRow 15 = .ok (.istore_n 3, 1) by decide +kernel) rfl rfl (Nat.le_of_ble_eq_true rfl) rfl rfl ?_
      refine tr_iconst (pc' := 17) (v := (1 : Int32)) (show decode cX0_inRow 16 = .ok (.iconst 1, 1) by decide +kernel) rfl (by decide) ?_
      refine tr_istore (pc' := 19) (lv' := [some (.ref 145), some (.int v1), some (.int v2), some (.int (0 : Int32)), some (.int (1 : Int32)), none, none, none]) (show decode cX0_inRow 17 = .ok (.istore 4, 2) by decide +kernel) rfl (Nat.le_of_ble_eq_true rfl) rfl rfl ?_
      refine tr_iconst (pc' := 20) (v := (0 : Int32)) (show decode cX0_inRow 19 = .ok (.iconst 0, 1) by decide +kernel) rfl (by decide) ?_
      refine tr_istore (pc' := 22) (lv' := [some (.ref 145), some (.int v1), some (.int v2), some (.int (0 : Int32)), some (.int (1 : Int32)), some (.int (0 : Int32)), none, none]) (show decode cX0_inRow 20 = .ok (.istore 5, 2) by decide +kernel) rfl (Nat.le_of_ble_eq_true rfl) rfl rfl ?_
      refine tr_iconst (pc' := 23) (v := (0 : Int32)) (show decode cX0_inRow 22 = .ok (.iconst 0, 1) by decide +kernel) rfl (by decide) ?_
      refine tr_istore (pc' := 25) (lv' := [some (.ref 145), some (.int v1), some (.int v2), some (.int (0 : Int32)), some (.int (1 : Int32)), some (.int (0 : Int32)), some (.int (0 : Int32)), none]) (show decode cX0_inRow 23 = .ok (.istore 6, 2) by decide +kernel) rfl (Nat.le_of_ble_eq_true rfl) rfl rfl ?_
      refine ok_X0_inRow_L25 hfr _ _ _ ?_ _ (0 : Int32) (1 : Int32) (0 : Int32) (0 : Int32) μ hL h
      · intro z6_3 μz6 hL h
        refine tr_iload_n (pc' := 88) (show decode cX0_inRow 87 = .ok (.iload_n 3, 1) by decide +kernel) rfl rfl rfl ?_
        cases h
        exact tr_iret rfl (show decode cX0_inRow 88 = .ok (.ireturn, 1) by decide +kernel) hL
    · refine tr_icmp_lt_f (tgt := 14) (pc' := 12) hc (show decode cX0_inRow 9 = .ok (.if_icmp .lt 5, 3) by decide +kernel) (by decide) rfl ?_
      refine tr_iconst (pc' := 13) (v := (-1 : Int32)) (show decode cX0_inRow 12 = .ok (.iconst (-1), 1) by decide +kernel) rfl (by decide) ?_
      cases h
      exact tr_iret rfl (show decode cX0_inRow 13 = .ok (.ireturn, 1) by decide +kernel) hL
def f_X0_tellRow (v1 : Int32) (v2 : Int32) (μ : hm_M) : Option (Int32 × hm_M) :=
  (if v2 < 0 then
  some ((-1 : Int32), μ)
  else
  (if v2 ≤ (μ.1 145 5) then
  Option.bind (f_X0_solve v1 μ) fun μ3 =>
  Option.bind (f_X0_everybody μ3) fun x4 =>
  Option.bind (f_X0_leastRound x4 μ3) fun x5 =>
  (if v2 = 0 then
  some (x5, μ3)
  else
  (if x5 = (-1 : Int32) then
  some (x5, μ3)
  else
  Option.bind (f_X0_inRow x5 (v2 - (1 : Int32)) μ3) fun x6 =>
  some (x6, μ3)))
  else
  some ((-1 : Int32), μ)))
set_option maxRecDepth 100000 in
theorem ok_X0_tellRow {fr : Nat} (hfr : 4 ≤ fr) {ν : hm_N} {r : Int32} {μR : hm_M}  (v1 : Int32) (v2 : Int32)  (μ : hm_M) (hL : hm_LL ν μ) (h : f_X0_tellRow v1 v2 μ = some (r, μR)) : hm_CC (hm_LL ν) m_X0_tellRow fr 0 0 [.ref 145, .int v1, .int v2] μ (some (.int r)) μR := by
  refine hm_enter (lv := [some (.ref 145), some (.int v1), some (.int v2), none]) (by decide) rfl (Nat.le_of_ble_eq_true rfl) ?_
  unfold f_X0_tellRow at h
  refine tr_iload_n (pc' := 1) (show decode cX0_tellRow 0 = .ok (.iload_n 2, 1) by decide +kernel) rfl rfl rfl ?_
  rcases hm_is h with ⟨hc, h⟩ | ⟨hc, h⟩
  · refine tr_if_lt_t (tgt := 12) hc (show decode cX0_tellRow 1 = .ok (.ifCond .lt 11, 3) by decide +kernel) (by decide) ?_
    refine tr_iconst (pc' := 13) (v := (-1 : Int32)) (show decode cX0_tellRow 12 = .ok (.iconst (-1), 1) by decide +kernel) rfl (by decide) ?_
    cases h
    exact tr_iret rfl (show decode cX0_tellRow 13 = .ok (.ireturn, 1) by decide +kernel) hL
  · refine tr_if_lt_f (tgt := 12) (pc' := 4) hc (show decode cX0_tellRow 1 = .ok (.ifCond .lt 11, 3) by decide +kernel) (by decide) rfl ?_
    refine tr_iload_n (pc' := 5) (show decode cX0_tellRow 4 = .ok (.iload_n 2, 1) by decide +kernel) rfl rfl rfl ?_
    refine tr_aload_n (pc' := 6) (show decode cX0_tellRow 5 = .ok (.aload_n 0, 1) by decide +kernel) rfl rfl rfl ?_
    refine tr_getI (pc' := 9) fl_HandRing_Circle_28 (show decode cX0_tellRow 6 = .ok (.getfield 28, 3) by decide +kernel) rfl (la_o hL (by decide) rfl) ?_
    rcases hm_is h with ⟨hc, h⟩ | ⟨hc, h⟩
    · refine tr_icmp_le_t (tgt := 14) hc (show decode cX0_tellRow 9 = .ok (.if_icmp .le 5, 3) by decide +kernel) (by decide) ?_
      refine tr_aload_n (pc' := 15) (show decode cX0_tellRow 14 = .ok (.aload_n 0, 1) by decide +kernel) rfl rfl rfl ?_
      refine tr_iload_n (pc' := 16) (show decode cX0_tellRow 15 = .ok (.iload_n 1, 1) by decide +kernel) rfl rfl rfl ?_
      obtain ⟨μ3, ex2, h⟩ := hm_bs h
      have cx2 := ok_X0_solve (fr := fr - 1) (ν := ν) (by omega) v1 μ hL ex2
      refine tp_callV (pc' := 19) (As := [.int v1]) (fr1 := fr - 1) (ci := 0) okm_X0_solve lk_HandRing_Circle_131 (show decode cX0_tellRow 16 = .ok (.invokevirtual 131, 3) by decide +kernel) rfl rfl rfl (by decide) (la_o hL (by decide) rfl) rfl rfl (Nat.le_of_ble_eq_true rfl) (by omega) cx2 (st' := []) rfl ?_
      replace hL := cx2.1
      refine tr_aload_n (pc' := 20) (show decode cX0_tellRow 19 = .ok (.aload_n 0, 1) by decide +kernel) rfl rfl rfl ?_
      refine tr_aload_n (pc' := 21) (show decode cX0_tellRow 20 = .ok (.aload_n 0, 1) by decide +kernel) rfl rfl rfl ?_
      obtain ⟨x4, ex4, h⟩ := hm_bs h
      have cx4 := ok_X0_everybody (fr := fr - 1) (ν := ν) (by omega) μ3 hL ex4
      refine tp_callV (pc' := 24) (As := []) (fr1 := fr - 1) (ci := 0) okm_X0_everybody lk_HandRing_Circle_124 (show decode cX0_tellRow 21 = .ok (.invokevirtual 124, 3) by decide +kernel) rfl rfl rfl (by decide) (la_o hL (by decide) rfl) rfl rfl (Nat.le_of_ble_eq_true rfl) (by omega) cx4 (st' := [.int x4, .ref 145]) rfl ?_
      obtain ⟨x5, ex5, h⟩ := hm_bs h
      have cx5 := ok_X0_leastRound (fr := fr - 1) (ν := ν) (by omega) x4 μ3 hL ex5
      refine tp_callV (pc' := 27) (As := [.int x4]) (fr1 := fr - 1) (ci := 0) okm_X0_leastRound lk_HandRing_Circle_128 (show decode cX0_tellRow 24 = .ok (.invokevirtual 128, 3) by decide +kernel) rfl rfl rfl (by decide) (la_o hL (by decide) rfl) rfl rfl (Nat.le_of_ble_eq_true rfl) (by omega) cx5 (st' := [.int x5]) rfl ?_
      refine tr_istore_n (pc' := 28) (lv' := [some (.ref 145), some (.int v1), some (.int v2), some (.int x5)]) (show decode cX0_tellRow 27 = .ok (.istore_n 3, 1) by decide +kernel) rfl rfl (Nat.le_of_ble_eq_true rfl) rfl rfl ?_
      refine tr_iload_n (pc' := 29) (show decode cX0_tellRow 28 = .ok (.iload_n 2, 1) by decide +kernel) rfl rfl rfl ?_
      rcases hm_is h with ⟨hc, h⟩ | ⟨hc, h⟩
      · refine tr_if_eq_t (tgt := 37) hc (show decode cX0_tellRow 29 = .ok (.ifCond .eq 8, 3) by decide +kernel) (by decide) ?_
        refine tr_iload_n (pc' := 38) (show decode cX0_tellRow 37 = .ok (.iload_n 3, 1) by decide +kernel) rfl rfl rfl ?_
        refine tr_goto (tgt := 49) (show decode cX0_tellRow 38 = .ok (.goto 11, 3) by decide +kernel) rfl ?_
        cases h
        exact tr_iret rfl (show decode cX0_tellRow 49 = .ok (.ireturn, 1) by decide +kernel) hL
      · refine tr_if_eq_f (tgt := 37) (pc' := 32) hc (show decode cX0_tellRow 29 = .ok (.ifCond .eq 8, 3) by decide +kernel) (by decide) rfl ?_
        refine tr_iload_n (pc' := 33) (show decode cX0_tellRow 32 = .ok (.iload_n 3, 1) by decide +kernel) rfl rfl rfl ?_
        refine tr_iconst (pc' := 34) (v := (-1 : Int32)) (show decode cX0_tellRow 33 = .ok (.iconst (-1), 1) by decide +kernel) rfl (by decide) ?_
        rcases hm_is h with ⟨hc, h⟩ | ⟨hc, h⟩
        · refine tr_icmp_ne_f (tgt := 41) (pc' := 37) hc (show decode cX0_tellRow 34 = .ok (.if_icmp .ne 7, 3) by decide +kernel) (by decide) rfl ?_
          refine tr_iload_n (pc' := 38) (show decode cX0_tellRow 37 = .ok (.iload_n 3, 1) by decide +kernel) rfl rfl rfl ?_
          refine tr_goto (tgt := 49) (show decode cX0_tellRow 38 = .ok (.goto 11, 3) by decide +kernel) rfl ?_
          cases h
          exact tr_iret rfl (show decode cX0_tellRow 49 = .ok (.ireturn, 1) by decide +kernel) hL
        · refine tr_icmp_ne_t (tgt := 41) hc (show decode cX0_tellRow 34 = .ok (.if_icmp .ne 7, 3) by decide +kernel) (by decide) ?_
          refine tr_aload_n (pc' := 42) (show decode cX0_tellRow 41 = .ok (.aload_n 0, 1) by decide +kernel) rfl rfl rfl ?_
          refine tr_iload_n (pc' := 43) (show decode cX0_tellRow 42 = .ok (.iload_n 3, 1) by decide +kernel) rfl rfl rfl ?_
          refine tr_iload_n (pc' := 44) (show decode cX0_tellRow 43 = .ok (.iload_n 2, 1) by decide +kernel) rfl rfl rfl ?_
          refine tr_iconst (pc' := 45) (v := (1 : Int32)) (show decode cX0_tellRow 44 = .ok (.iconst 1, 1) by decide +kernel) rfl (by decide) ?_
          refine tr_isub (pc' := 46) (show decode cX0_tellRow 45 = .ok (.isub, 1) by decide +kernel) rfl ?_
          obtain ⟨x6, ex6, h⟩ := hm_bs h
          have cx6 := ok_X0_inRow (fr := fr - 1) (ν := ν) (by omega) x5 (v2 - (1 : Int32)) μ3 hL ex6
          refine tp_callV (pc' := 49) (As := [.int x5, .int (v2 - (1 : Int32))]) (fr1 := fr - 1) (ci := 0) okm_X0_inRow lk_HandRing_Circle_135 (show decode cX0_tellRow 46 = .ok (.invokevirtual 135, 3) by decide +kernel) rfl rfl rfl (by decide) (la_o hL (by decide) rfl) rfl rfl (Nat.le_of_ble_eq_true rfl) (by omega) cx6 (st' := [.int x6]) rfl ?_
          cases h
          exact tr_iret rfl (show decode cX0_tellRow 49 = .ok (.ireturn, 1) by decide +kernel) hL
    · refine tr_icmp_le_f (tgt := 14) (pc' := 12) hc (show decode cX0_tellRow 9 = .ok (.if_icmp .le 5, 3) by decide +kernel) (by decide) rfl ?_
      refine tr_iconst (pc' := 13) (v := (-1 : Int32)) (show decode cX0_tellRow 12 = .ok (.iconst (-1), 1) by decide +kernel) rfl (by decide) ?_
      cases h
      exact tr_iret rfl (show decode cX0_tellRow 13 = .ok (.ireturn, 1) by decide +kernel) hL
def f_X0_mostKept_J40 (c6 : Int32 → Int32 → Int32 → hm_M → Option Int32) (e46 : Int32 → hm_M → Option Int32) (y1 : Int32) (y2 : Int32) (y3 : Int32) (μ1 : hm_M) : Option Int32 :=
  c6 y1 y2 (y3 + (1 : Int32)) μ1
theorem ok_X0_mostKept_J40 {fr : Nat} (hfr : 4 ≤ fr) {ν : hm_N} {r : Int32}   (c6 : Int32 → Int32 → Int32 → hm_M → Option Int32) (e46 : Int32 → hm_M → Option Int32) (hc6 : ∀ (y1 : Int32) (y2 : Int32) (y3 : Int32)  (μ1 : hm_M), hm_LL ν μ1 → c6 y1 y2 y3 μ1 = some r → hm_T (hm_LL ν) m_X0_mostKept fr 0 0 (some (.int r)) μ1 6 [some (.ref 145), some (.int y1), some (.int y2), some (.int y3)] [] μ1) (he46 : ∀ (y1 : Int32)  (μ1 : hm_M), hm_LL ν μ1 → e46 y1 μ1 = some r → hm_T (hm_LL ν) m_X0_mostKept fr 0 0 (some (.int r)) μ1 46 [none, some (.int y1), none, none] [] μ1)  (y1 : Int32) (y2 : Int32) (y3 : Int32) (μ1 : hm_M) (hL : hm_LL ν μ1) (h : f_X0_mostKept_J40 c6 e46 y1 y2 y3 μ1 = some r) : hm_T (hm_LL ν) m_X0_mostKept fr 0 0 (some (.int r)) μ1 40 [some (.ref 145), some (.int y1), some (.int y2), some (.int y3)] [] μ1 := by
  unfold f_X0_mostKept_J40 at h
  refine tr_iinc (pc' := 43) (v := y3 + (1 : Int32)) (lv' := [some (.ref 145), some (.int y1), some (.int y2), some (.int (y3 + (1 : Int32)))]) (show decode cX0_mostKept 40 = .ok (.iinc 3 1, 3) by decide +kernel) rfl rfl rfl (Nat.le_of_ble_eq_true rfl) rfl rfl ?_
  refine tr_goto (tgt := 6) (show decode cX0_mostKept 43 = .ok (.goto (-37), 3) by decide +kernel) rfl ?_
  exact hc6 y1 y2 (y3 + (1 : Int32)) μ1 hL h
def f_X0_mostKept_L6 (e46 : Int32 → hm_M → Option Int32) : Nat → Int32 → Int32 → Int32 → hm_M → Option Int32
  | 0, _, _, _, _ => none
  | n + 1, y1, y2, y3, μ1 => (if ((1 : Int32) <<< ((μ1.1 145 5) &&& 31)) ≤ y3 then
  e46 y1 μ1
  else
  Option.bind (f_J6_bitCount_0f7a4 y3) fun x2 =>
  (if x2 ≤ y2 then
  f_X0_mostKept_J40 (f_X0_mostKept_L6 e46 n) e46 y1 y2 y3 μ1
  else
  Option.bind (f_X0_leastRound y3 μ1) fun x3 =>
  (if x3 = (-1 : Int32) then
  f_X0_mostKept_J40 (f_X0_mostKept_L6 e46 n) e46 y1 y2 y3 μ1
  else
  Option.bind (f_J6_bitCount_0f7a4 y3) fun x4 =>
  f_X0_mostKept_J40 (f_X0_mostKept_L6 e46 n) e46 y3 x4 y3 μ1)))
theorem ok_X0_mostKept_L6 {fr : Nat} (hfr : 4 ≤ fr) {ν : hm_N} {r : Int32}   (e46 : Int32 → hm_M → Option Int32)  (he46 : ∀ (y1 : Int32)  (μ1 : hm_M), hm_LL ν μ1 → e46 y1 μ1 = some r → hm_T (hm_LL ν) m_X0_mostKept fr 0 0 (some (.int r)) μ1 46 [none, some (.int y1), none, none] [] μ1)  : ∀ (n : Nat) (y1 : Int32) (y2 : Int32) (y3 : Int32)  (μ1 : hm_M), hm_LL ν μ1 → f_X0_mostKept_L6 e46 n y1 y2 y3 μ1 = some r → hm_T (hm_LL ν) m_X0_mostKept fr 0 0 (some (.int r)) μ1 6 [some (.ref 145), some (.int y1), some (.int y2), some (.int y3)] [] μ1 := by
  intro n
  induction n with
  | zero =>
    intro y1 y2 y3 μ1 hL h
    unfold f_X0_mostKept_L6 at h
    cases h
  | succ n ih =>
    intro y1 y2 y3 μ1 hL h
    unfold f_X0_mostKept_L6 at h
    refine tr_iload_n (pc' := 7) (show decode cX0_mostKept 6 = .ok (.iload_n 3, 1) by decide +kernel) rfl rfl rfl ?_
    refine tr_iconst (pc' := 8) (v := (1 : Int32)) (show decode cX0_mostKept 7 = .ok (.iconst 1, 1) by decide +kernel) rfl (by decide) ?_
    refine tr_aload_n (pc' := 9) (show decode cX0_mostKept 8 = .ok (.aload_n 0, 1) by decide +kernel) rfl rfl rfl ?_
    refine tr_getI (pc' := 12) fl_HandRing_Circle_28 (show decode cX0_mostKept 9 = .ok (.getfield 28, 3) by decide +kernel) rfl (la_o hL (by decide) rfl) ?_
    refine tr_ishl (pc' := 13) (show decode cX0_mostKept 12 = .ok (.ishl, 1) by decide +kernel) rfl ?_
    rcases hm_is h with ⟨hc, h⟩ | ⟨hc, h⟩
    · refine tr_icmp_ge_t (tgt := 46) hc (show decode cX0_mostKept 13 = .ok (.if_icmp .ge 33, 3) by decide +kernel) (by decide) ?_
      refine hm_fgt [false, true, false, false] (lv' := [none, some (.int y1), none, none]) rfl ?_
      exact he46 y1 μ1 hL h
    · refine tr_icmp_ge_f (tgt := 46) (pc' := 16) hc (show decode cX0_mostKept 13 = .ok (.if_icmp .ge 33, 3) by decide +kernel) (by decide) rfl ?_
      refine tr_iload_n (pc' := 17) (show decode cX0_mostKept 16 = .ok (.iload_n 3, 1) by decide +kernel) rfl rfl rfl ?_
      obtain ⟨x2, ex2, h⟩ := hm_bs h
      have cx2 := ok_J6_bitCount_0f7a4 (fr := fr - 1) (ν := ν) (by omega) y3 μ1 hL ex2
      refine tp_callS (pc' := 20) (As := [.int y3]) (fr1 := fr - 1) okm_J6_bitCount_0f7a4 lk_HandRing_Circle_118 (show decode cX0_mostKept 17 = .ok (.invokestatic 118, 3) by decide +kernel) rfl rfl rfl (Nat.le_of_ble_eq_true rfl) (by omega) cx2 (st' := [.int x2]) rfl ?_
      refine tr_iload_n (pc' := 21) (show decode cX0_mostKept 20 = .ok (.iload_n 2, 1) by decide +kernel) rfl rfl rfl ?_
      rcases hm_is h with ⟨hc, h⟩ | ⟨hc, h⟩
      · refine tr_icmp_le_t (tgt := 40) hc (show decode cX0_mostKept 21 = .ok (.if_icmp .le 19, 3) by decide +kernel) (by decide) ?_
        exact ok_X0_mostKept_J40 hfr (f_X0_mostKept_L6 e46 n) e46 ih he46 y1 y2 y3 μ1 hL h
      · refine tr_icmp_le_f (tgt := 40) (pc' := 24) hc (show decode cX0_mostKept 21 = .ok (.if_icmp .le 19, 3) by decide +kernel) (by decide) rfl ?_
        refine tr_aload_n (pc' := 25) (show decode cX0_mostKept 24 = .ok (.aload_n 0, 1) by decide +kernel) rfl rfl rfl ?_
        refine tr_iload_n (pc' := 26) (show decode cX0_mostKept 25 = .ok (.iload_n 3, 1) by decide +kernel) rfl rfl rfl ?_
        obtain ⟨x3, ex3, h⟩ := hm_bs h
        have cx3 := ok_X0_leastRound (fr := fr - 1) (ν := ν) (by omega) y3 μ1 hL ex3
        refine tp_callV (pc' := 29) (As := [.int y3]) (fr1 := fr - 1) (ci := 0) okm_X0_leastRound lk_HandRing_Circle_128 (show decode cX0_mostKept 26 = .ok (.invokevirtual 128, 3) by decide +kernel) rfl rfl rfl (by decide) (la_o hL (by decide) rfl) rfl rfl (Nat.le_of_ble_eq_true rfl) (by omega) cx3 (st' := [.int x3]) rfl ?_
        refine tr_iconst (pc' := 30) (v := (-1 : Int32)) (show decode cX0_mostKept 29 = .ok (.iconst (-1), 1) by decide +kernel) rfl (by decide) ?_
        rcases hm_is h with ⟨hc, h⟩ | ⟨hc, h⟩
        · refine tr_icmp_eq_t (tgt := 40) hc (show decode cX0_mostKept 30 = .ok (.if_icmp .eq 10, 3) by decide +kernel) (by decide) ?_
          exact ok_X0_mostKept_J40 hfr (f_X0_mostKept_L6 e46 n) e46 ih he46 y1 y2 y3 μ1 hL h
        · refine tr_icmp_eq_f (tgt := 40) (pc' := 33) hc (show decode cX0_mostKept 30 = .ok (.if_icmp .eq 10, 3) by decide +kernel) (by decide) rfl ?_
          refine tr_iload_n (pc' := 34) (show decode cX0_mostKept 33 = .ok (.iload_n 3, 1) by decide +kernel) rfl rfl rfl ?_
          refine tr_istore_n (pc' := 35) (lv' := [some (.ref 145), some (.int y3), some (.int y2), some (.int y3)]) (show decode cX0_mostKept 34 = .ok (.istore_n 1, 1) by decide +kernel) rfl rfl (Nat.le_of_ble_eq_true rfl) rfl rfl ?_
          refine tr_iload_n (pc' := 36) (show decode cX0_mostKept 35 = .ok (.iload_n 3, 1) by decide +kernel) rfl rfl rfl ?_
          obtain ⟨x4, ex4, h⟩ := hm_bs h
          have cx4 := ok_J6_bitCount_0f7a4 (fr := fr - 1) (ν := ν) (by omega) y3 μ1 hL ex4
          refine tp_callS (pc' := 39) (As := [.int y3]) (fr1 := fr - 1) okm_J6_bitCount_0f7a4 lk_HandRing_Circle_118 (show decode cX0_mostKept 36 = .ok (.invokestatic 118, 3) by decide +kernel) rfl rfl rfl (Nat.le_of_ble_eq_true rfl) (by omega) cx4 (st' := [.int x4]) rfl ?_
          refine tr_istore_n (pc' := 40) (lv' := [some (.ref 145), some (.int y3), some (.int x4), some (.int y3)]) (show decode cX0_mostKept 39 = .ok (.istore_n 2, 1) by decide +kernel) rfl rfl (Nat.le_of_ble_eq_true rfl) rfl rfl ?_
          exact ok_X0_mostKept_J40 hfr (f_X0_mostKept_L6 e46 n) e46 ih he46 y3 x4 y3 μ1 hL h
def f_X0_mostKept (μ : hm_M) : Option Int32 :=
  f_X0_mostKept_L6 (fun z5_1 μz5 => some z5_1) hm_fu (-1 : Int32) (0 : Int32) (1 : Int32) μ
set_option maxRecDepth 100000 in
theorem ok_X0_mostKept {fr : Nat} (hfr : 4 ≤ fr) {ν : hm_N} {r : Int32}    (μ : hm_M) (hL : hm_LL ν μ) (h : f_X0_mostKept μ = some r) : hm_CC (hm_LL ν) m_X0_mostKept fr 0 0 [.ref 145] μ (some (.int r)) μ := by
  refine hm_enter (lv := [some (.ref 145), none, none, none]) (by decide) rfl (Nat.le_of_ble_eq_true rfl) ?_
  unfold f_X0_mostKept at h
  refine tr_iconst (pc' := 1) (v := (-1 : Int32)) (show decode cX0_mostKept 0 = .ok (.iconst (-1), 1) by decide +kernel) rfl (by decide) ?_
  refine tr_istore_n (pc' := 2) (lv' := [some (.ref 145), some (.int (-1 : Int32)), none, none]) (show decode cX0_mostKept 1 = .ok (.istore_n 1, 1) by decide +kernel) rfl rfl (Nat.le_of_ble_eq_true rfl) rfl rfl ?_
  refine tr_iconst (pc' := 3) (v := (0 : Int32)) (show decode cX0_mostKept 2 = .ok (.iconst 0, 1) by decide +kernel) rfl (by decide) ?_
  refine tr_istore_n (pc' := 4) (lv' := [some (.ref 145), some (.int (-1 : Int32)), some (.int (0 : Int32)), none]) (show decode cX0_mostKept 3 = .ok (.istore_n 2, 1) by decide +kernel) rfl rfl (Nat.le_of_ble_eq_true rfl) rfl rfl ?_
  refine tr_iconst (pc' := 5) (v := (1 : Int32)) (show decode cX0_mostKept 4 = .ok (.iconst 1, 1) by decide +kernel) rfl (by decide) ?_
  refine tr_istore_n (pc' := 6) (lv' := [some (.ref 145), some (.int (-1 : Int32)), some (.int (0 : Int32)), some (.int (1 : Int32))]) (show decode cX0_mostKept 5 = .ok (.istore_n 3, 1) by decide +kernel) rfl rfl (Nat.le_of_ble_eq_true rfl) rfl rfl ?_
  refine ok_X0_mostKept_L6 hfr _ ?_ _ (-1 : Int32) (0 : Int32) (1 : Int32) μ hL h
  · intro z5_1 μz5 hL h
    refine tr_iload_n (pc' := 47) (show decode cX0_mostKept 46 = .ok (.iload_n 1, 1) by decide +kernel) rfl rfl rfl ?_
    cases h
    exact tr_iret rfl (show decode cX0_mostKept 47 = .ok (.ireturn, 1) by decide +kernel) hL
def f_X0_lostInBoth_J27 (v1 : Int32) (s0 : Int32) (y2 : Int32) (μ1 : hm_M) : Option Int32 :=
  (if s0 = (-1 : Int32) then
  some (-1 : Int32)
  else
  some (y2 + s0))
theorem ok_X0_lostInBoth_J27 {fr : Nat} (hfr : 4 ≤ fr) {ν : hm_N} {r : Int32}  (v1 : Int32)    (s0 : Int32) (y2 : Int32) (μ1 : hm_M) (hL : hm_LL ν μ1) (h : f_X0_lostInBoth_J27 v1 s0 y2 μ1 = some r) : hm_T (hm_LL ν) m_X0_lostInBoth fr 0 0 (some (.int r)) μ1 27 [none, none, some (.int y2), none] [.int s0] μ1 := by
  unfold f_X0_lostInBoth_J27 at h
  refine tr_istore_n (pc' := 28) (lv' := [none, none, some (.int y2), some (.int s0)]) (show decode cX0_lostInBoth 27 = .ok (.istore_n 3, 1) by decide +kernel) rfl rfl (Nat.le_of_ble_eq_true rfl) rfl rfl ?_
  refine tr_iload_n (pc' := 29) (show decode cX0_lostInBoth 28 = .ok (.iload_n 3, 1) by decide +kernel) rfl rfl rfl ?_
  refine tr_iconst (pc' := 30) (v := (-1 : Int32)) (show decode cX0_lostInBoth 29 = .ok (.iconst (-1), 1) by decide +kernel) rfl (by decide) ?_
  rcases hm_is h with ⟨hc, h⟩ | ⟨hc, h⟩
  · refine tr_icmp_ne_f (tgt := 37) (pc' := 33) hc (show decode cX0_lostInBoth 30 = .ok (.if_icmp .ne 7, 3) by decide +kernel) (by decide) rfl ?_
    refine tr_iconst (pc' := 34) (v := (-1 : Int32)) (show decode cX0_lostInBoth 33 = .ok (.iconst (-1), 1) by decide +kernel) rfl (by decide) ?_
    refine tr_goto (tgt := 40) (show decode cX0_lostInBoth 34 = .ok (.goto 6, 3) by decide +kernel) rfl ?_
    cases h
    exact tr_iret rfl (show decode cX0_lostInBoth 40 = .ok (.ireturn, 1) by decide +kernel) hL
  · refine tr_icmp_ne_t (tgt := 37) hc (show decode cX0_lostInBoth 30 = .ok (.if_icmp .ne 7, 3) by decide +kernel) (by decide) ?_
    refine tr_iload_n (pc' := 38) (show decode cX0_lostInBoth 37 = .ok (.iload_n 2, 1) by decide +kernel) rfl rfl rfl ?_
    refine tr_iload_n (pc' := 39) (show decode cX0_lostInBoth 38 = .ok (.iload_n 3, 1) by decide +kernel) rfl rfl rfl ?_
    refine tr_iadd (pc' := 40) (show decode cX0_lostInBoth 39 = .ok (.iadd, 1) by decide +kernel) rfl ?_
    cases h
    exact tr_iret rfl (show decode cX0_lostInBoth 40 = .ok (.ireturn, 1) by decide +kernel) hL
def f_X0_lostInBoth (v1 : Int32) (μ : hm_M) : Option Int32 :=
  Option.bind (f_X0_leastRound v1 μ) fun x2 =>
  (if x2 = (-1 : Int32) then
  f_X0_lostInBoth_J27 v1 (-1 : Int32) x2 μ
  else
  Option.bind (f_X0_everybody μ) fun x3 =>
  Option.bind (f_X0_leastRound (x3 &&& (v1 ^^^ (-1 : Int32))) μ) fun x4 =>
  f_X0_lostInBoth_J27 v1 x4 x2 μ)
set_option maxRecDepth 100000 in
theorem ok_X0_lostInBoth {fr : Nat} (hfr : 4 ≤ fr) {ν : hm_N} {r : Int32}  (v1 : Int32)  (μ : hm_M) (hL : hm_LL ν μ) (h : f_X0_lostInBoth v1 μ = some r) : hm_CC (hm_LL ν) m_X0_lostInBoth fr 0 0 [.ref 145, .int v1] μ (some (.int r)) μ := by
  refine hm_enter (lv := [some (.ref 145), some (.int v1), none, none]) (by decide) rfl (Nat.le_of_ble_eq_true rfl) ?_
  unfold f_X0_lostInBoth at h
  refine tr_aload_n (pc' := 1) (show decode cX0_lostInBoth 0 = .ok (.aload_n 0, 1) by decide +kernel) rfl rfl rfl ?_
  refine tr_iload_n (pc' := 2) (show decode cX0_lostInBoth 1 = .ok (.iload_n 1, 1) by decide +kernel) rfl rfl rfl ?_
  obtain ⟨x2, ex2, h⟩ := hm_bs h
  have cx2 := ok_X0_leastRound (fr := fr - 1) (ν := ν) (by omega) v1 μ hL ex2
  refine tp_callV (pc' := 5) (As := [.int v1]) (fr1 := fr - 1) (ci := 0) okm_X0_leastRound lk_HandRing_Circle_128 (show decode cX0_lostInBoth 2 = .ok (.invokevirtual 128, 3) by decide +kernel) rfl rfl rfl (by decide) (la_o hL (by decide) rfl) rfl rfl (Nat.le_of_ble_eq_true rfl) (by omega) cx2 (st' := [.int x2]) rfl ?_
  refine tr_istore_n (pc' := 6) (lv' := [some (.ref 145), some (.int v1), some (.int x2), none]) (show decode cX0_lostInBoth 5 = .ok (.istore_n 2, 1) by decide +kernel) rfl rfl (Nat.le_of_ble_eq_true rfl) rfl rfl ?_
  refine tr_iload_n (pc' := 7) (show decode cX0_lostInBoth 6 = .ok (.iload_n 2, 1) by decide +kernel) rfl rfl rfl ?_
  refine tr_iconst (pc' := 8) (v := (-1 : Int32)) (show decode cX0_lostInBoth 7 = .ok (.iconst (-1), 1) by decide +kernel) rfl (by decide) ?_
  rcases hm_is h with ⟨hc, h⟩ | ⟨hc, h⟩
  · refine tr_icmp_ne_f (tgt := 15) (pc' := 11) hc (show decode cX0_lostInBoth 8 = .ok (.if_icmp .ne 7, 3) by decide +kernel) (by decide) rfl ?_
    refine tr_iconst (pc' := 12) (v := (-1 : Int32)) (show decode cX0_lostInBoth 11 = .ok (.iconst (-1), 1) by decide +kernel) rfl (by decide) ?_
    refine tr_goto (tgt := 27) (show decode cX0_lostInBoth 12 = .ok (.goto 15, 3) by decide +kernel) rfl ?_
    refine hm_fgt [false, false, true, false] (lv' := [none, none, some (.int x2), none]) rfl ?_
    exact ok_X0_lostInBoth_J27 hfr _ (-1 : Int32) x2 μ hL h
  · refine tr_icmp_ne_t (tgt := 15) hc (show decode cX0_lostInBoth 8 = .ok (.if_icmp .ne 7, 3) by decide +kernel) (by decide) ?_
    refine tr_aload_n (pc' := 16) (show decode cX0_lostInBoth 15 = .ok (.aload_n 0, 1) by decide +kernel) rfl rfl rfl ?_
    refine tr_aload_n (pc' := 17) (show decode cX0_lostInBoth 16 = .ok (.aload_n 0, 1) by decide +kernel) rfl rfl rfl ?_
    obtain ⟨x3, ex3, h⟩ := hm_bs h
    have cx3 := ok_X0_everybody (fr := fr - 1) (ν := ν) (by omega) μ hL ex3
    refine tp_callV (pc' := 20) (As := []) (fr1 := fr - 1) (ci := 0) okm_X0_everybody lk_HandRing_Circle_124 (show decode cX0_lostInBoth 17 = .ok (.invokevirtual 124, 3) by decide +kernel) rfl rfl rfl (by decide) (la_o hL (by decide) rfl) rfl rfl (Nat.le_of_ble_eq_true rfl) (by omega) cx3 (st' := [.int x3, .ref 145]) rfl ?_
    refine tr_iload_n (pc' := 21) (show decode cX0_lostInBoth 20 = .ok (.iload_n 1, 1) by decide +kernel) rfl rfl rfl ?_
    refine tr_iconst (pc' := 22) (v := (-1 : Int32)) (show decode cX0_lostInBoth 21 = .ok (.iconst (-1), 1) by decide +kernel) rfl (by decide) ?_
    refine tr_ixor (pc' := 23) (show decode cX0_lostInBoth 22 = .ok (.ixor, 1) by decide +kernel) rfl ?_
    refine tr_iand (pc' := 24) (show decode cX0_lostInBoth 23 = .ok (.iand, 1) by decide +kernel) rfl ?_
    obtain ⟨x4, ex4, h⟩ := hm_bs h
    have cx4 := ok_X0_leastRound (fr := fr - 1) (ν := ν) (by omega) (x3 &&& (v1 ^^^ (-1 : Int32))) μ hL ex4
    refine tp_callV (pc' := 27) (As := [.int (x3 &&& (v1 ^^^ (-1 : Int32)))]) (fr1 := fr - 1) (ci := 0) okm_X0_leastRound lk_HandRing_Circle_128 (show decode cX0_lostInBoth 24 = .ok (.invokevirtual 128, 3) by decide +kernel) rfl rfl rfl (by decide) (la_o hL (by decide) rfl) rfl rfl (Nat.le_of_ble_eq_true rfl) (by omega) cx4 (st' := [.int x4]) rfl ?_
    refine hm_fgt [false, false, true, false] (lv' := [none, none, some (.int x2), none]) rfl ?_
    exact ok_X0_lostInBoth_J27 hfr _ x4 x2 μ hL h
def f_X0_bestPart_J39 (c7 : Int32 → Int32 → Int32 → hm_M → Option Int32) (e45 : Int32 → hm_M → Option Int32) (y1 : Int32) (y2 : Int32) (y3 : Int32) (μ1 : hm_M) : Option Int32 :=
  c7 y1 y2 (y3 + (2 : Int32)) μ1
theorem ok_X0_bestPart_J39 {fr : Nat} (hfr : 5 ≤ fr) {ν : hm_N} {r : Int32}   (c7 : Int32 → Int32 → Int32 → hm_M → Option Int32) (e45 : Int32 → hm_M → Option Int32) (hc7 : ∀ (y1 : Int32) (y2 : Int32) (y3 : Int32)  (μ1 : hm_M), hm_LL ν μ1 → c7 y1 y2 y3 μ1 = some r → hm_T (hm_LL ν) m_X0_bestPart fr 0 0 (some (.int r)) μ1 7 [some (.ref 145), some (.int y1), some (.int y2), some (.int y3), none] [] μ1) (he45 : ∀ (y1 : Int32)  (μ1 : hm_M), hm_LL ν μ1 → e45 y1 μ1 = some r → hm_T (hm_LL ν) m_X0_bestPart fr 0 0 (some (.int r)) μ1 45 [none, some (.int y1), none, none, none] [] μ1)  (y1 : Int32) (y2 : Int32) (y3 : Int32) (μ1 : hm_M) (hL : hm_LL ν μ1) (h : f_X0_bestPart_J39 c7 e45 y1 y2 y3 μ1 = some r) : hm_T (hm_LL ν) m_X0_bestPart fr 0 0 (some (.int r)) μ1 39 [some (.ref 145), some (.int y1), some (.int y2), some (.int y3), none] [] μ1 := by
  unfold f_X0_bestPart_J39 at h
  refine tr_iinc (pc' := 42) (v := y3 + (2 : Int32)) (lv' := [some (.ref 145), some (.int y1), some (.int y2), some (.int (y3 + (2 : Int32))), none]) (show decode cX0_bestPart 39 = .ok (.iinc 3 2, 3) by decide +kernel) rfl rfl rfl (Nat.le_of_ble_eq_true rfl) rfl rfl ?_
  refine tr_goto (tgt := 7) (show decode cX0_bestPart 42 = .ok (.goto (-35), 3) by decide +kernel) rfl ?_
  exact hc7 y1 y2 (y3 + (2 : Int32)) μ1 hL h
def f_X0_bestPart_L7 (e45 : Int32 → hm_M → Option Int32) : Nat → Int32 → Int32 → Int32 → hm_M → Option Int32
  | 0, _, _, _, _ => none
  | n + 1, y1, y2, y3, μ1 => Option.bind (f_X0_everybody μ1) fun x2 =>
  (if x2 ≤ y3 then
  e45 y1 μ1
  else
  Option.bind (f_X0_lostInBoth y3 μ1) fun x3 =>
  (if x3 = (-1 : Int32) then
  f_X0_bestPart_J39 (f_X0_bestPart_L7 e45 n) e45 y1 y2 y3 μ1
  else
  (if y2 ≤ x3 then
  f_X0_bestPart_J39 (f_X0_bestPart_L7 e45 n) e45 y1 y2 y3 μ1
  else
  f_X0_bestPart_J39 (f_X0_bestPart_L7 e45 n) e45 y3 x3 y3 μ1)))
theorem ok_X0_bestPart_L7 {fr : Nat} (hfr : 5 ≤ fr) {ν : hm_N} {r : Int32}   (e45 : Int32 → hm_M → Option Int32)  (he45 : ∀ (y1 : Int32)  (μ1 : hm_M), hm_LL ν μ1 → e45 y1 μ1 = some r → hm_T (hm_LL ν) m_X0_bestPart fr 0 0 (some (.int r)) μ1 45 [none, some (.int y1), none, none, none] [] μ1)  : ∀ (n : Nat) (y1 : Int32) (y2 : Int32) (y3 : Int32)  (μ1 : hm_M), hm_LL ν μ1 → f_X0_bestPart_L7 e45 n y1 y2 y3 μ1 = some r → hm_T (hm_LL ν) m_X0_bestPart fr 0 0 (some (.int r)) μ1 7 [some (.ref 145), some (.int y1), some (.int y2), some (.int y3), none] [] μ1 := by
  intro n
  induction n with
  | zero =>
    intro y1 y2 y3 μ1 hL h
    unfold f_X0_bestPart_L7 at h
    cases h
  | succ n ih =>
    intro y1 y2 y3 μ1 hL h
    unfold f_X0_bestPart_L7 at h
    refine tr_iload_n (pc' := 8) (show decode cX0_bestPart 7 = .ok (.iload_n 3, 1) by decide +kernel) rfl rfl rfl ?_
    refine tr_aload_n (pc' := 9) (show decode cX0_bestPart 8 = .ok (.aload_n 0, 1) by decide +kernel) rfl rfl rfl ?_
    obtain ⟨x2, ex2, h⟩ := hm_bs h
    have cx2 := ok_X0_everybody (fr := fr - 1) (ν := ν) (by omega) μ1 hL ex2
    refine tp_callV (pc' := 12) (As := []) (fr1 := fr - 1) (ci := 0) okm_X0_everybody lk_HandRing_Circle_124 (show decode cX0_bestPart 9 = .ok (.invokevirtual 124, 3) by decide +kernel) rfl rfl rfl (by decide) (la_o hL (by decide) rfl) rfl rfl (Nat.le_of_ble_eq_true rfl) (by omega) cx2 (st' := [.int x2, .int y3]) rfl ?_
    rcases hm_is h with ⟨hc, h⟩ | ⟨hc, h⟩
    · refine tr_icmp_ge_t (tgt := 45) hc (show decode cX0_bestPart 12 = .ok (.if_icmp .ge 33, 3) by decide +kernel) (by decide) ?_
      refine hm_fgt [false, true, false, false, false] (lv' := [none, some (.int y1), none, none, none]) rfl ?_
      exact he45 y1 μ1 hL h
    · refine tr_icmp_ge_f (tgt := 45) (pc' := 15) hc (show decode cX0_bestPart 12 = .ok (.if_icmp .ge 33, 3) by decide +kernel) (by decide) rfl ?_
      refine tr_aload_n (pc' := 16) (show decode cX0_bestPart 15 = .ok (.aload_n 0, 1) by decide +kernel) rfl rfl rfl ?_
      refine tr_iload_n (pc' := 17) (show decode cX0_bestPart 16 = .ok (.iload_n 3, 1) by decide +kernel) rfl rfl rfl ?_
      obtain ⟨x3, ex3, h⟩ := hm_bs h
      have cx3 := ok_X0_lostInBoth (fr := fr - 1) (ν := ν) (by omega) y3 μ1 hL ex3
      refine tp_callV (pc' := 20) (As := [.int y3]) (fr1 := fr - 1) (ci := 0) okm_X0_lostInBoth lk_HandRing_Circle_145 (show decode cX0_bestPart 17 = .ok (.invokevirtual 145, 3) by decide +kernel) rfl rfl rfl (by decide) (la_o hL (by decide) rfl) rfl rfl (Nat.le_of_ble_eq_true rfl) (by omega) cx3 (st' := [.int x3]) rfl ?_
      refine tr_istore (pc' := 22) (lv' := [some (.ref 145), some (.int y1), some (.int y2), some (.int y3), some (.int x3)]) (show decode cX0_bestPart 20 = .ok (.istore 4, 2) by decide +kernel) rfl (Nat.le_of_ble_eq_true rfl) rfl rfl ?_
      refine tr_iload (pc' := 24) (show decode cX0_bestPart 22 = .ok (.iload 4, 2) by decide +kernel) rfl rfl ?_
      refine tr_iconst (pc' := 25) (v := (-1 : Int32)) (show decode cX0_bestPart 24 = .ok (.iconst (-1), 1) by decide +kernel) rfl (by decide) ?_
      rcases hm_is h with ⟨hc, h⟩ | ⟨hc, h⟩
      · refine tr_icmp_eq_t (tgt := 39) hc (show decode cX0_bestPart 25 = .ok (.if_icmp .eq 14, 3) by decide +kernel) (by decide) ?_
        refine hm_fgt [true, true, true, true, false] (lv' := [some (.ref 145), some (.int y1), some (.int y2), some (.int y3), none]) rfl ?_
        exact ok_X0_bestPart_J39 hfr (f_X0_bestPart_L7 e45 n) e45 ih he45 y1 y2 y3 μ1 hL h
      · refine tr_icmp_eq_f (tgt := 39) (pc' := 28) hc (show decode cX0_bestPart 25 = .ok (.if_icmp .eq 14, 3) by decide +kernel) (by decide) rfl ?_
        refine tr_iload (pc' := 30) (show decode cX0_bestPart 28 = .ok (.iload 4, 2) by decide +kernel) rfl rfl ?_
        refine tr_iload_n (pc' := 31) (show decode cX0_bestPart 30 = .ok (.iload_n 2, 1) by decide +kernel) rfl rfl rfl ?_
        rcases hm_is h with ⟨hc, h⟩ | ⟨hc, h⟩
        · refine tr_icmp_ge_t (tgt := 39) hc (show decode cX0_bestPart 31 = .ok (.if_icmp .ge 8, 3) by decide +kernel) (by decide) ?_
          refine hm_fgt [true, true, true, true, false] (lv' := [some (.ref 145), some (.int y1), some (.int y2), some (.int y3), none]) rfl ?_
          exact ok_X0_bestPart_J39 hfr (f_X0_bestPart_L7 e45 n) e45 ih he45 y1 y2 y3 μ1 hL h
        · refine tr_icmp_ge_f (tgt := 39) (pc' := 34) hc (show decode cX0_bestPart 31 = .ok (.if_icmp .ge 8, 3) by decide +kernel) (by decide) rfl ?_
          refine tr_iload_n (pc' := 35) (show decode cX0_bestPart 34 = .ok (.iload_n 3, 1) by decide +kernel) rfl rfl rfl ?_
          refine tr_istore_n (pc' := 36) (lv' := [some (.ref 145), some (.int y3), some (.int y2), some (.int y3), some (.int x3)]) (show decode cX0_bestPart 35 = .ok (.istore_n 1, 1) by decide +kernel) rfl rfl (Nat.le_of_ble_eq_true rfl) rfl rfl ?_
          refine tr_iload (pc' := 38) (show decode cX0_bestPart 36 = .ok (.iload 4, 2) by decide +kernel) rfl rfl ?_
          refine tr_istore_n (pc' := 39) (lv' := [some (.ref 145), some (.int y3), some (.int x3), some (.int y3), some (.int x3)]) (show decode cX0_bestPart 38 = .ok (.istore_n 2, 1) by decide +kernel) rfl rfl (Nat.le_of_ble_eq_true rfl) rfl rfl ?_
          refine hm_fgt [true, true, true, true, false] (lv' := [some (.ref 145), some (.int y3), some (.int x3), some (.int y3), none]) rfl ?_
          exact ok_X0_bestPart_J39 hfr (f_X0_bestPart_L7 e45 n) e45 ih he45 y3 x3 y3 μ1 hL h
def f_X0_bestPart (μ : hm_M) : Option Int32 :=
  f_X0_bestPart_L7 (fun z4_1 μz4 => some z4_1) hm_fu (-1 : Int32) (1000000 : Int32) (1 : Int32) μ
set_option maxRecDepth 100000 in
theorem ok_X0_bestPart {fr : Nat} (hfr : 5 ≤ fr) {ν : hm_N} {r : Int32}    (μ : hm_M) (hL : hm_LL ν μ) (h : f_X0_bestPart μ = some r) : hm_CC (hm_LL ν) m_X0_bestPart fr 0 0 [.ref 145] μ (some (.int r)) μ := by
  refine hm_enter (lv := [some (.ref 145), none, none, none, none]) (by decide) rfl (Nat.le_of_ble_eq_true rfl) ?_
  unfold f_X0_bestPart at h
  refine tr_iconst (pc' := 1) (v := (-1 : Int32)) (show decode cX0_bestPart 0 = .ok (.iconst (-1), 1) by decide +kernel) rfl (by decide) ?_
  refine tr_istore_n (pc' := 2) (lv' := [some (.ref 145), some (.int (-1 : Int32)), none, none, none]) (show decode cX0_bestPart 1 = .ok (.istore_n 1, 1) by decide +kernel) rfl rfl (Nat.le_of_ble_eq_true rfl) rfl rfl ?_
  refine tr_ldc (pc' := 4) (v := (1000000 : Int32)) (show decode cX0_bestPart 2 = .ok (.ldc 92, 2) by decide +kernel) rfl kc_HandRing_Circle_92 ?_
  refine tr_istore_n (pc' := 5) (lv' := [some (.ref 145), some (.int (-1 : Int32)), some (.int (1000000 : Int32)), none, none]) (show decode cX0_bestPart 4 = .ok (.istore_n 2, 1) by decide +kernel) rfl rfl (Nat.le_of_ble_eq_true rfl) rfl rfl ?_
  refine tr_iconst (pc' := 6) (v := (1 : Int32)) (show decode cX0_bestPart 5 = .ok (.iconst 1, 1) by decide +kernel) rfl (by decide) ?_
  refine tr_istore_n (pc' := 7) (lv' := [some (.ref 145), some (.int (-1 : Int32)), some (.int (1000000 : Int32)), some (.int (1 : Int32)), none]) (show decode cX0_bestPart 6 = .ok (.istore_n 3, 1) by decide +kernel) rfl rfl (Nat.le_of_ble_eq_true rfl) rfl rfl ?_
  refine ok_X0_bestPart_L7 hfr _ ?_ _ (-1 : Int32) (1000000 : Int32) (1 : Int32) μ hL h
  · intro z4_1 μz4 hL h
    refine tr_iload_n (pc' := 46) (show decode cX0_bestPart 45 = .ok (.iload_n 1, 1) by decide +kernel) rfl rfl rfl ?_
    cases h
    exact tr_iret rfl (show decode cX0_bestPart 46 = .ok (.ireturn, 1) by decide +kernel) hL
def f_X0_countWith_J115 (v1 : Int32) (v2 : Int32) (v3 : Int32) (w14_4 : Int32) (c14 : Int32 → Int32 → hm_M → Option Int32) (e121 : Int32 → hm_M → Option Int32) (y5 : Int32) (y6 : Int32) (μ1 : hm_M) : Option Int32 :=
  c14 y5 (y6 + (2 : Int32)) μ1
theorem ok_X0_countWith_J115 {fr : Nat} (hfr : 2 ≤ fr) {ν : hm_N} {r : Int32}  (v1 : Int32) (v2 : Int32) (v3 : Int32) (w14_4 : Int32) (c14 : Int32 → Int32 → hm_M → Option Int32) (e121 : Int32 → hm_M → Option Int32) (hc14 : ∀ (y5 : Int32) (y6 : Int32)  (μ1 : hm_M), hm_LL ν μ1 → c14 y5 y6 μ1 = some r → hm_T (hm_LL ν) m_X0_countWith fr 0 0 (some (.int r)) μ1 14 [some (.ref 145), some (.int v1), some (.int v2), some (.int v3), some (.int w14_4), some (.int y5), some (.int y6), none] [] μ1) (he121 : ∀ (y5 : Int32)  (μ1 : hm_M), hm_LL ν μ1 → e121 y5 μ1 = some r → hm_T (hm_LL ν) m_X0_countWith fr 0 0 (some (.int r)) μ1 121 [none, none, none, none, none, some (.int y5), none, none] [] μ1)  (y5 : Int32) (y6 : Int32) (μ1 : hm_M) (hL : hm_LL ν μ1) (h : f_X0_countWith_J115 v1 v2 v3 w14_4 c14 e121 y5 y6 μ1 = some r) : hm_T (hm_LL ν) m_X0_countWith fr 0 0 (some (.int r)) μ1 115 [some (.ref 145), some (.int v1), some (.int v2), some (.int v3), some (.int w14_4), some (.int y5), some (.int y6), none] [] μ1 := by
  unfold f_X0_countWith_J115 at h
  refine tr_iinc (pc' := 118) (v := y6 + (2 : Int32)) (lv' := [some (.ref 145), some (.int v1), some (.int v2), some (.int v3), some (.int w14_4), some (.int y5), some (.int (y6 + (2 : Int32))), none]) (show decode cX0_countWith 115 = .ok (.iinc 6 2, 3) by decide +kernel) rfl rfl rfl (Nat.le_of_ble_eq_true rfl) rfl rfl ?_
  refine tr_goto (tgt := 14) (show decode cX0_countWith 118 = .ok (.goto (-104), 3) by decide +kernel) rfl ?_
  exact hc14 y5 (y6 + (2 : Int32)) μ1 hL h
def f_X0_countWith_L14 (v1 : Int32) (v2 : Int32) (v3 : Int32) (w14_4 : Int32) (e121 : Int32 → hm_M → Option Int32) : Nat → Int32 → Int32 → hm_M → Option Int32
  | 0, _, _, _ => none
  | n + 1, y5, y6, μ1 => (if ((1 : Int32) <<< ((μ1.1 145 5) &&& 31)) ≤ y6 then
  e121 y5 μ1
  else
  (if w14_4 = (-1 : Int32) then
  e121 y5 μ1
  else
  (if ((y6 >>> (v1 &&& 31)) &&& (1 : Int32)) = (1 : Int32) then
  (if ((y6 >>> (v2 &&& 31)) &&& (1 : Int32)) = 0 then
  Option.bind (f_X0_wayHome (y6 ||| ((1 : Int32) <<< (v2 &&& 31))) v2 μ1) fun x3 =>
  Option.bind (f_X0_leastTo y6 v1 μ1) fun x4 =>
  Option.bind (f_X0_leastTo x3 v2 μ1) fun x5 =>
  (if ((x4 + w14_4) + x5) = v3 then
  Option.bind (hm_ld μ1 148 2048 ((y6 * (8 : Int32)) + v1)) fun x6 =>
  Option.bind (hm_ld μ1 148 2048 ((x3 * (8 : Int32)) + v2)) fun x7 =>
  f_X0_countWith_J115 v1 v2 v3 w14_4 (f_X0_countWith_L14 v1 v2 v3 w14_4 e121 n) e121 (y5 + (x6 * x7)) y6 μ1
  else
  f_X0_countWith_J115 v1 v2 v3 w14_4 (f_X0_countWith_L14 v1 v2 v3 w14_4 e121 n) e121 y5 y6 μ1)
  else
  f_X0_countWith_J115 v1 v2 v3 w14_4 (f_X0_countWith_L14 v1 v2 v3 w14_4 e121 n) e121 y5 y6 μ1)
  else
  f_X0_countWith_J115 v1 v2 v3 w14_4 (f_X0_countWith_L14 v1 v2 v3 w14_4 e121 n) e121 y5 y6 μ1)))
theorem ok_X0_countWith_L14 {fr : Nat} (hfr : 2 ≤ fr) {ν : hm_N} {r : Int32}  (v1 : Int32) (v2 : Int32) (v3 : Int32) (w14_4 : Int32) (e121 : Int32 → hm_M → Option Int32)  (he121 : ∀ (y5 : Int32)  (μ1 : hm_M), hm_LL ν μ1 → e121 y5 μ1 = some r → hm_T (hm_LL ν) m_X0_countWith fr 0 0 (some (.int r)) μ1 121 [none, none, none, none, none, some (.int y5), none, none] [] μ1)  : ∀ (n : Nat) (y5 : Int32) (y6 : Int32)  (μ1 : hm_M), hm_LL ν μ1 → f_X0_countWith_L14 v1 v2 v3 w14_4 e121 n y5 y6 μ1 = some r → hm_T (hm_LL ν) m_X0_countWith fr 0 0 (some (.int r)) μ1 14 [some (.ref 145), some (.int v1), some (.int v2), some (.int v3), some (.int w14_4), some (.int y5), some (.int y6), none] [] μ1 := by
  intro n
  induction n with
  | zero =>
    intro y5 y6 μ1 hL h
    unfold f_X0_countWith_L14 at h
    cases h
  | succ n ih =>
    intro y5 y6 μ1 hL h
    unfold f_X0_countWith_L14 at h
    refine tr_iload (pc' := 16) (show decode cX0_countWith 14 = .ok (.iload 6, 2) by decide +kernel) rfl rfl ?_
    refine tr_iconst (pc' := 17) (v := (1 : Int32)) (show decode cX0_countWith 16 = .ok (.iconst 1, 1) by decide +kernel) rfl (by decide) ?_
    refine tr_aload_n (pc' := 18) (show decode cX0_countWith 17 = .ok (.aload_n 0, 1) by decide +kernel) rfl rfl rfl ?_
    refine tr_getI (pc' := 21) fl_HandRing_Circle_28 (show decode cX0_countWith 18 = .ok (.getfield 28, 3) by decide +kernel) rfl (la_o hL (by decide) rfl) ?_
    refine tr_ishl (pc' := 22) (show decode cX0_countWith 21 = .ok (.ishl, 1) by decide +kernel) rfl ?_
    rcases hm_is h with ⟨hc, h⟩ | ⟨hc, h⟩
    · refine tr_icmp_ge_t (tgt := 121) hc (show decode cX0_countWith 22 = .ok (.if_icmp .ge 99, 3) by decide +kernel) (by decide) ?_
      refine hm_fgt [false, false, false, false, false, true, false, false] (lv' := [none, none, none, none, none, some (.int y5), none, none]) rfl ?_
      exact he121 y5 μ1 hL h
    · refine tr_icmp_ge_f (tgt := 121) (pc' := 25) hc (show decode cX0_countWith 22 = .ok (.if_icmp .ge 99, 3) by decide +kernel) (by decide) rfl ?_
      refine tr_iload (pc' := 27) (show decode cX0_countWith 25 = .ok (.iload 4, 2) by decide +kernel) rfl rfl ?_
      refine tr_iconst (pc' := 28) (v := (-1 : Int32)) (show decode cX0_countWith 27 = .ok (.iconst (-1), 1) by decide +kernel) rfl (by decide) ?_
      rcases hm_is h with ⟨hc, h⟩ | ⟨hc, h⟩
      · refine tr_icmp_eq_t (tgt := 121) hc (show decode cX0_countWith 28 = .ok (.if_icmp .eq 93, 3) by decide +kernel) (by decide) ?_
        refine hm_fgt [false, false, false, false, false, true, false, false] (lv' := [none, none, none, none, none, some (.int y5), none, none]) rfl ?_
        exact he121 y5 μ1 hL h
      · refine tr_icmp_eq_f (tgt := 121) (pc' := 31) hc (show decode cX0_countWith 28 = .ok (.if_icmp .eq 93, 3) by decide +kernel) (by decide) rfl ?_
        refine tr_iload (pc' := 33) (show decode cX0_countWith 31 = .ok (.iload 6, 2) by decide +kernel) rfl rfl ?_
        refine tr_iload_n (pc' := 34) (show decode cX0_countWith 33 = .ok (.iload_n 1, 1) by decide +kernel) rfl rfl rfl ?_
        refine tr_ishr (pc' := 35) (show decode cX0_countWith 34 = .ok (.ishr, 1) by decide +kernel) rfl ?_
        refine tr_iconst (pc' := 36) (v := (1 : Int32)) (show decode cX0_countWith 35 = .ok (.iconst 1, 1) by decide +kernel) rfl (by decide) ?_
        refine tr_iand (pc' := 37) (show decode cX0_countWith 36 = .ok (.iand, 1) by decide +kernel) rfl ?_
        refine tr_iconst (pc' := 38) (v := (1 : Int32)) (show decode cX0_countWith 37 = .ok (.iconst 1, 1) by decide +kernel) rfl (by decide) ?_
        rcases hm_is h with ⟨hc, h⟩ | ⟨hc, h⟩
        · refine tr_icmp_ne_f (tgt := 115) (pc' := 41) hc (show decode cX0_countWith 38 = .ok (.if_icmp .ne 77, 3) by decide +kernel) (by decide) rfl ?_
          refine tr_iload (pc' := 43) (show decode cX0_countWith 41 = .ok (.iload 6, 2) by decide +kernel) rfl rfl ?_
          refine tr_iload_n (pc' := 44) (show decode cX0_countWith 43 = .ok (.iload_n 2, 1) by decide +kernel) rfl rfl rfl ?_
          refine tr_ishr (pc' := 45) (show decode cX0_countWith 44 = .ok (.ishr, 1) by decide +kernel) rfl ?_
          refine tr_iconst (pc' := 46) (v := (1 : Int32)) (show decode cX0_countWith 45 = .ok (.iconst 1, 1) by decide +kernel) rfl (by decide) ?_
          refine tr_iand (pc' := 47) (show decode cX0_countWith 46 = .ok (.iand, 1) by decide +kernel) rfl ?_
          rcases hm_is h with ⟨hc, h⟩ | ⟨hc, h⟩
          · refine tr_if_ne_f (tgt := 115) (pc' := 50) hc (show decode cX0_countWith 47 = .ok (.ifCond .ne 68, 3) by decide +kernel) (by decide) rfl ?_
            refine tr_aload_n (pc' := 51) (show decode cX0_countWith 50 = .ok (.aload_n 0, 1) by decide +kernel) rfl rfl rfl ?_
            refine tr_iload (pc' := 53) (show decode cX0_countWith 51 = .ok (.iload 6, 2) by decide +kernel) rfl rfl ?_
            refine tr_iconst (pc' := 54) (v := (1 : Int32)) (show decode cX0_countWith 53 = .ok (.iconst 1, 1) by decide +kernel) rfl (by decide) ?_
            refine tr_iload_n (pc' := 55) (show decode cX0_countWith 54 = .ok (.iload_n 2, 1) by decide +kernel) rfl rfl rfl ?_
            refine tr_ishl (pc' := 56) (show decode cX0_countWith 55 = .ok (.ishl, 1) by decide +kernel) rfl ?_
            refine tr_ior (pc' := 57) (show decode cX0_countWith 56 = .ok (.ior, 1) by decide +kernel) rfl ?_
            refine tr_iload_n (pc' := 58) (show decode cX0_countWith 57 = .ok (.iload_n 2, 1) by decide +kernel) rfl rfl rfl ?_
            obtain ⟨x3, ex3, h⟩ := hm_bs h
            have cx3 := ok_X0_wayHome (fr := fr - 1) (ν := ν) (by omega) (y6 ||| ((1 : Int32) <<< (v2 &&& 31))) v2 μ1 hL ex3
            refine tp_callV (pc' := 61) (As := [.int (y6 ||| ((1 : Int32) <<< (v2 &&& 31))), .int v2]) (fr1 := fr - 1) (ci := 0) okm_X0_wayHome lk_HandRing_Circle_142 (show decode cX0_countWith 58 = .ok (.invokevirtual 142, 3) by decide +kernel) rfl rfl rfl (by decide) (la_o hL (by decide) rfl) rfl rfl (Nat.le_of_ble_eq_true rfl) (by omega) cx3 (st' := [.int x3]) rfl ?_
            refine tr_istore (pc' := 63) (lv' := [some (.ref 145), some (.int v1), some (.int v2), some (.int v3), some (.int w14_4), some (.int y5), some (.int y6), some (.int x3)]) (show decode cX0_countWith 61 = .ok (.istore 7, 2) by decide +kernel) rfl (Nat.le_of_ble_eq_true rfl) rfl rfl ?_
            refine tr_aload_n (pc' := 64) (show decode cX0_countWith 63 = .ok (.aload_n 0, 1) by decide +kernel) rfl rfl rfl ?_
            refine tr_iload (pc' := 66) (show decode cX0_countWith 64 = .ok (.iload 6, 2) by decide +kernel) rfl rfl ?_
            refine tr_iload_n (pc' := 67) (show decode cX0_countWith 66 = .ok (.iload_n 1, 1) by decide +kernel) rfl rfl rfl ?_
            obtain ⟨x4, ex4, h⟩ := hm_bs h
            have cx4 := ok_X0_leastTo (fr := fr - 1) (ν := ν) (by omega) y6 v1 μ1 hL ex4
            refine tp_callV (pc' := 70) (As := [.int y6, .int v1]) (fr1 := fr - 1) (ci := 0) okm_X0_leastTo lk_HandRing_Circle_109 (show decode cX0_countWith 67 = .ok (.invokevirtual 109, 3) by decide +kernel) rfl rfl rfl (by decide) (la_o hL (by decide) rfl) rfl rfl (Nat.le_of_ble_eq_true rfl) (by omega) cx4 (st' := [.int x4]) rfl ?_
            refine tr_iload (pc' := 72) (show decode cX0_countWith 70 = .ok (.iload 4, 2) by decide +kernel) rfl rfl ?_
            refine tr_iadd (pc' := 73) (show decode cX0_countWith 72 = .ok (.iadd, 1) by decide +kernel) rfl ?_
            refine tr_aload_n (pc' := 74) (show decode cX0_countWith 73 = .ok (.aload_n 0, 1) by decide +kernel) rfl rfl rfl ?_
            refine tr_iload (pc' := 76) (show decode cX0_countWith 74 = .ok (.iload 7, 2) by decide +kernel) rfl rfl ?_
            refine tr_iload_n (pc' := 77) (show decode cX0_countWith 76 = .ok (.iload_n 2, 1) by decide +kernel) rfl rfl rfl ?_
            obtain ⟨x5, ex5, h⟩ := hm_bs h
            have cx5 := ok_X0_leastTo (fr := fr - 1) (ν := ν) (by omega) x3 v2 μ1 hL ex5
            refine tp_callV (pc' := 80) (As := [.int x3, .int v2]) (fr1 := fr - 1) (ci := 0) okm_X0_leastTo lk_HandRing_Circle_109 (show decode cX0_countWith 77 = .ok (.invokevirtual 109, 3) by decide +kernel) rfl rfl rfl (by decide) (la_o hL (by decide) rfl) rfl rfl (Nat.le_of_ble_eq_true rfl) (by omega) cx5 (st' := [.int x5, .int (x4 + w14_4)]) rfl ?_
            refine tr_iadd (pc' := 81) (show decode cX0_countWith 80 = .ok (.iadd, 1) by decide +kernel) rfl ?_
            refine tr_iload_n (pc' := 82) (show decode cX0_countWith 81 = .ok (.iload_n 3, 1) by decide +kernel) rfl rfl rfl ?_
            rcases hm_is h with ⟨hc, h⟩ | ⟨hc, h⟩
            · refine tr_icmp_ne_f (tgt := 115) (pc' := 85) hc (show decode cX0_countWith 82 = .ok (.if_icmp .ne 33, 3) by decide +kernel) (by decide) rfl ?_
              refine tr_iload (pc' := 87) (show decode cX0_countWith 85 = .ok (.iload 5, 2) by decide +kernel) rfl rfl ?_
              refine tr_aload_n (pc' := 88) (show decode cX0_countWith 87 = .ok (.aload_n 0, 1) by decide +kernel) rfl rfl rfl ?_
              refine tr_getR (pc' := 91) fl_HandRing_Circle_18 (show decode cX0_countWith 88 = .ok (.getfield 18, 3) by decide +kernel) rfl (la_o hL (by decide) rfl) (la_r hL 93 rfl) ?_
              refine tr_iload (pc' := 93) (show decode cX0_countWith 91 = .ok (.iload 6, 2) by decide +kernel) rfl rfl ?_
              refine tr_bipush (pc' := 95) (v := (8 : Int32)) (show decode cX0_countWith 93 = .ok (.bipush 8, 2) by decide +kernel) rfl (by decide) ?_
              refine tr_imul (pc' := 96) (show decode cX0_countWith 95 = .ok (.imul, 1) by decide +kernel) rfl ?_
              refine tr_iload_n (pc' := 97) (show decode cX0_countWith 96 = .ok (.iload_n 1, 1) by decide +kernel) rfl rfl rfl ?_
              refine tr_iadd (pc' := 98) (show decode cX0_countWith 97 = .ok (.iadd, 1) by decide +kernel) rfl ?_
              obtain ⟨x6, ex6, h⟩ := hm_bs h
              refine tp_ldI (pc' := 99) (show decode cX0_countWith 98 = .ok (.iaload, 1) by decide +kernel) rfl (la_a hL (by decide) rfl) ex6 ?_
              refine tr_aload_n (pc' := 100) (show decode cX0_countWith 99 = .ok (.aload_n 0, 1) by decide +kernel) rfl rfl rfl ?_
              refine tr_getR (pc' := 103) fl_HandRing_Circle_18 (show decode cX0_countWith 100 = .ok (.getfield 18, 3) by decide +kernel) rfl (la_o hL (by decide) rfl) (la_r hL 93 rfl) ?_
              refine tr_iload (pc' := 105) (show decode cX0_countWith 103 = .ok (.iload 7, 2) by decide +kernel) rfl rfl ?_
              refine tr_bipush (pc' := 107) (v := (8 : Int32)) (show decode cX0_countWith 105 = .ok (.bipush 8, 2) by decide +kernel) rfl (by decide) ?_
              refine tr_imul (pc' := 108) (show decode cX0_countWith 107 = .ok (.imul, 1) by decide +kernel) rfl ?_
              refine tr_iload_n (pc' := 109) (show decode cX0_countWith 108 = .ok (.iload_n 2, 1) by decide +kernel) rfl rfl rfl ?_
              refine tr_iadd (pc' := 110) (show decode cX0_countWith 109 = .ok (.iadd, 1) by decide +kernel) rfl ?_
              obtain ⟨x7, ex7, h⟩ := hm_bs h
              refine tp_ldI (pc' := 111) (show decode cX0_countWith 110 = .ok (.iaload, 1) by decide +kernel) rfl (la_a hL (by decide) rfl) ex7 ?_
              refine tr_imul (pc' := 112) (show decode cX0_countWith 111 = .ok (.imul, 1) by decide +kernel) rfl ?_
              refine tr_iadd (pc' := 113) (show decode cX0_countWith 112 = .ok (.iadd, 1) by decide +kernel) rfl ?_
              refine tr_istore (pc' := 115) (lv' := [some (.ref 145), some (.int v1), some (.int v2), some (.int v3), some (.int w14_4), some (.int (y5 + (x6 * x7))), some (.int y6), some (.int x3)]) (show decode cX0_countWith 113 = .ok (.istore 5, 2) by decide +kernel) rfl (Nat.le_of_ble_eq_true rfl) rfl rfl ?_
              refine hm_fgt [true, true, true, true, true, true, true, false] (lv' := [some (.ref 145), some (.int v1), some (.int v2), some (.int v3), some (.int w14_4), some (.int (y5 + (x6 * x7))), some (.int y6), none]) rfl ?_
              exact ok_X0_countWith_J115 hfr _ _ _ w14_4 (f_X0_countWith_L14 v1 v2 v3 w14_4 e121 n) e121 ih he121 (y5 + (x6 * x7)) y6 μ1 hL h
            · refine tr_icmp_ne_t (tgt := 115) hc (show decode cX0_countWith 82 = .ok (.if_icmp .ne 33, 3) by decide +kernel) (by decide) ?_
              refine hm_fgt [true, true, true, true, true, true, true, false] (lv' := [some (.ref 145), some (.int v1), some (.int v2), some (.int v3), some (.int w14_4), some (.int y5), some (.int y6), none]) rfl ?_
              exact ok_X0_countWith_J115 hfr _ _ _ w14_4 (f_X0_countWith_L14 v1 v2 v3 w14_4 e121 n) e121 ih he121 y5 y6 μ1 hL h
          · refine tr_if_ne_t (tgt := 115) hc (show decode cX0_countWith 47 = .ok (.ifCond .ne 68, 3) by decide +kernel) (by decide) ?_
            exact ok_X0_countWith_J115 hfr _ _ _ w14_4 (f_X0_countWith_L14 v1 v2 v3 w14_4 e121 n) e121 ih he121 y5 y6 μ1 hL h
        · refine tr_icmp_ne_t (tgt := 115) hc (show decode cX0_countWith 38 = .ok (.if_icmp .ne 77, 3) by decide +kernel) (by decide) ?_
          exact ok_X0_countWith_J115 hfr _ _ _ w14_4 (f_X0_countWith_L14 v1 v2 v3 w14_4 e121 n) e121 ih he121 y5 y6 μ1 hL h
def f_X0_countWith (v1 : Int32) (v2 : Int32) (v3 : Int32) (μ : hm_M) : Option Int32 :=
  Option.bind (f_X0_costBetween v1 v2 μ) fun x2 =>
  f_X0_countWith_L14 v1 v2 v3 x2 (fun z8_5 μz8 => some z8_5) hm_fu (0 : Int32) (1 : Int32) μ
set_option maxRecDepth 100000 in
theorem ok_X0_countWith {fr : Nat} (hfr : 2 ≤ fr) {ν : hm_N} {r : Int32}  (v1 : Int32) (v2 : Int32) (v3 : Int32)  (μ : hm_M) (hL : hm_LL ν μ) (h : f_X0_countWith v1 v2 v3 μ = some r) : hm_CC (hm_LL ν) m_X0_countWith fr 0 0 [.ref 145, .int v1, .int v2, .int v3] μ (some (.int r)) μ := by
  refine hm_enter (lv := [some (.ref 145), some (.int v1), some (.int v2), some (.int v3), none, none, none, none]) (by decide) rfl (Nat.le_of_ble_eq_true rfl) ?_
  unfold f_X0_countWith at h
  refine tr_aload_n (pc' := 1) (show decode cX0_countWith 0 = .ok (.aload_n 0, 1) by decide +kernel) rfl rfl rfl ?_
  refine tr_iload_n (pc' := 2) (show decode cX0_countWith 1 = .ok (.iload_n 1, 1) by decide +kernel) rfl rfl rfl ?_
  refine tr_iload_n (pc' := 3) (show decode cX0_countWith 2 = .ok (.iload_n 2, 1) by decide +kernel) rfl rfl rfl ?_
  obtain ⟨x2, ex2, h⟩ := hm_bs h
  have cx2 := ok_X0_costBetween (fr := fr - 1) (ν := ν) (by omega) v1 v2 μ hL ex2
  refine tp_callV (pc' := 6) (As := [.int v1, .int v2]) (fr1 := fr - 1) (ci := 0) okm_X0_costBetween lk_HandRing_Circle_73 (show decode cX0_countWith 3 = .ok (.invokevirtual 73, 3) by decide +kernel) rfl rfl rfl (by decide) (la_o hL (by decide) rfl) rfl rfl (Nat.le_of_ble_eq_true rfl) (by omega) cx2 (st' := [.int x2]) rfl ?_
  refine tr_istore (pc' := 8) (lv' := [some (.ref 145), some (.int v1), some (.int v2), some (.int v3), some (.int x2), none, none, none]) (show decode cX0_countWith 6 = .ok (.istore 4, 2) by decide +kernel) rfl (Nat.le_of_ble_eq_true rfl) rfl rfl ?_
  refine tr_iconst (pc' := 9) (v := (0 : Int32)) (show decode cX0_countWith 8 = .ok (.iconst 0, 1) by decide +kernel) rfl (by decide) ?_
  refine tr_istore (pc' := 11) (lv' := [some (.ref 145), some (.int v1), some (.int v2), some (.int v3), some (.int x2), some (.int (0 : Int32)), none, none]) (show decode cX0_countWith 9 = .ok (.istore 5, 2) by decide +kernel) rfl (Nat.le_of_ble_eq_true rfl) rfl rfl ?_
  refine tr_iconst (pc' := 12) (v := (1 : Int32)) (show decode cX0_countWith 11 = .ok (.iconst 1, 1) by decide +kernel) rfl (by decide) ?_
  refine tr_istore (pc' := 14) (lv' := [some (.ref 145), some (.int v1), some (.int v2), some (.int v3), some (.int x2), some (.int (0 : Int32)), some (.int (1 : Int32)), none]) (show decode cX0_countWith 12 = .ok (.istore 6, 2) by decide +kernel) rfl (Nat.le_of_ble_eq_true rfl) rfl rfl ?_
  refine ok_X0_countWith_L14 hfr _ _ _ x2 _ ?_ _ (0 : Int32) (1 : Int32) μ hL h
  · intro z8_5 μz8 hL h
    refine tr_iload (pc' := 123) (show decode cX0_countWith 121 = .ok (.iload 5, 2) by decide +kernel) rfl rfl ?_
    cases h
    exact tr_iret rfl (show decode cX0_countWith 123 = .ok (.ireturn, 1) by decide +kernel) hL
def f_X0_leftAtMost (v1 : Int32) (v2 : Int32) (v3 : Int32) (μ : hm_M) : Option Int32 :=
  Option.bind (f_X0_countWith v1 v2 v3 μ) fun x2 =>
  Option.bind (f_X0_countRounds v3 μ) fun x3 =>
  some (if x2 < (x3 - x2) then (x3 - x2) else x2)
set_option maxRecDepth 100000 in
theorem ok_X0_leftAtMost {fr : Nat} (hfr : 4 ≤ fr) {ν : hm_N} {r : Int32}  (v1 : Int32) (v2 : Int32) (v3 : Int32)  (μ : hm_M) (hL : hm_LL ν μ) (h : f_X0_leftAtMost v1 v2 v3 μ = some r) : hm_CC (hm_LL ν) m_X0_leftAtMost fr 0 0 [.ref 145, .int v1, .int v2, .int v3] μ (some (.int r)) μ := by
  refine hm_enter (lv := [some (.ref 145), some (.int v1), some (.int v2), some (.int v3), none]) (by decide) rfl (Nat.le_of_ble_eq_true rfl) ?_
  unfold f_X0_leftAtMost at h
  refine tr_aload_n (pc' := 1) (show decode cX0_leftAtMost 0 = .ok (.aload_n 0, 1) by decide +kernel) rfl rfl rfl ?_
  refine tr_iload_n (pc' := 2) (show decode cX0_leftAtMost 1 = .ok (.iload_n 1, 1) by decide +kernel) rfl rfl rfl ?_
  refine tr_iload_n (pc' := 3) (show decode cX0_leftAtMost 2 = .ok (.iload_n 2, 1) by decide +kernel) rfl rfl rfl ?_
  refine tr_iload_n (pc' := 4) (show decode cX0_leftAtMost 3 = .ok (.iload_n 3, 1) by decide +kernel) rfl rfl rfl ?_
  obtain ⟨x2, ex2, h⟩ := hm_bs h
  have cx2 := ok_X0_countWith (fr := fr - 1) (ν := ν) (by omega) v1 v2 v3 μ hL ex2
  refine tp_callV (pc' := 7) (As := [.int v1, .int v2, .int v3]) (fr1 := fr - 1) (ci := 0) okm_X0_countWith lk_HandRing_Circle_151 (show decode cX0_leftAtMost 4 = .ok (.invokevirtual 151, 3) by decide +kernel) rfl rfl rfl (by decide) (la_o hL (by decide) rfl) rfl rfl (Nat.le_of_ble_eq_true rfl) (by omega) cx2 (st' := [.int x2]) rfl ?_
  refine tr_istore (pc' := 9) (lv' := [some (.ref 145), some (.int v1), some (.int v2), some (.int v3), some (.int x2)]) (show decode cX0_leftAtMost 7 = .ok (.istore 4, 2) by decide +kernel) rfl (Nat.le_of_ble_eq_true rfl) rfl rfl ?_
  refine tr_iload (pc' := 11) (show decode cX0_leftAtMost 9 = .ok (.iload 4, 2) by decide +kernel) rfl rfl ?_
  refine tr_aload_n (pc' := 12) (show decode cX0_leftAtMost 11 = .ok (.aload_n 0, 1) by decide +kernel) rfl rfl rfl ?_
  refine tr_iload_n (pc' := 13) (show decode cX0_leftAtMost 12 = .ok (.iload_n 3, 1) by decide +kernel) rfl rfl rfl ?_
  obtain ⟨x3, ex3, h⟩ := hm_bs h
  have cx3 := ok_X0_countRounds (fr := fr - 1) (ν := ν) (by omega) v3 μ hL ex3
  refine tp_callV (pc' := 16) (As := [.int v3]) (fr1 := fr - 1) (ci := 0) okm_X0_countRounds lk_HandRing_Circle_154 (show decode cX0_leftAtMost 13 = .ok (.invokevirtual 154, 3) by decide +kernel) rfl rfl rfl (by decide) (la_o hL (by decide) rfl) rfl rfl (Nat.le_of_ble_eq_true rfl) (by omega) cx3 (st' := [.int x3, .int x2]) rfl ?_
  refine tr_iload (pc' := 18) (show decode cX0_leftAtMost 16 = .ok (.iload 4, 2) by decide +kernel) rfl rfl ?_
  refine tr_isub (pc' := 19) (show decode cX0_leftAtMost 18 = .ok (.isub, 1) by decide +kernel) rfl ?_
  refine tr_max (pc' := 22) lk_HandRing_Circle_157 kw_max_s kw_Math_i kw_max_c (show decode cX0_leftAtMost 19 = .ok (.invokestatic 157, 3) by decide +kernel) rfl (Nat.le_of_ble_eq_true rfl) (by omega) ?_
  cases h
  exact tr_iret rfl (show decode cX0_leftAtMost 22 = .ok (.ireturn, 1) by decide +kernel) hL
def f_X0_bestAsked_J61 (v1 : Int32) (w23_4 : Int32) (c8 : Int32 → Int32 → Int32 → hm_M → Option Int32) (e73 : Int32 → hm_M → Option Int32) (c23 : Int32 → Int32 → Int32 → hm_M → Option Int32) (e67 : Int32 → Int32 → hm_M → Option Int32) (y2 : Int32) (y3 : Int32) (y5 : Int32) (μ1 : hm_M) : Option Int32 :=
  c23 y2 y3 (y5 + (1 : Int32)) μ1
theorem ok_X0_bestAsked_J61 {fr : Nat} (hfr : 5 ≤ fr) {ν : hm_N} {r : Int32}  (v1 : Int32) (w23_4 : Int32) (c8 : Int32 → Int32 → Int32 → hm_M → Option Int32) (e73 : Int32 → hm_M → Option Int32) (c23 : Int32 → Int32 → Int32 → hm_M → Option Int32) (e67 : Int32 → Int32 → hm_M → Option Int32) (hc8 : ∀ (y2 : Int32) (y3 : Int32) (y4 : Int32)  (μ1 : hm_M), hm_LL ν μ1 → c8 y2 y3 y4 μ1 = some r → hm_T (hm_LL ν) m_X0_bestAsked fr 0 0 (some (.int r)) μ1 8 [some (.ref 145), some (.int v1), some (.int y2), some (.int y3), some (.int y4), none, none] [] μ1) (he73 : ∀ (y2 : Int32)  (μ1 : hm_M), hm_LL ν μ1 → e73 y2 μ1 = some r → hm_T (hm_LL ν) m_X0_bestAsked fr 0 0 (some (.int r)) μ1 73 [none, none, some (.int y2), none, none, none, none] [] μ1) (hc23 : ∀ (y2 : Int32) (y3 : Int32) (y5 : Int32)  (μ1 : hm_M), hm_LL ν μ1 → c23 y2 y3 y5 μ1 = some r → hm_T (hm_LL ν) m_X0_bestAsked fr 0 0 (some (.int r)) μ1 23 [some (.ref 145), some (.int v1), some (.int y2), some (.int y3), some (.int w23_4), some (.int y5), none] [] μ1) (he67 : ∀ (y2 : Int32) (y3 : Int32)  (μ1 : hm_M), hm_LL ν μ1 → e67 y2 y3 μ1 = some r → hm_T (hm_LL ν) m_X0_bestAsked fr 0 0 (some (.int r)) μ1 67 [some (.ref 145), some (.int v1), some (.int y2), some (.int y3), some (.int w23_4), none, none] [] μ1)  (y2 : Int32) (y3 : Int32) (y5 : Int32) (μ1 : hm_M) (hL : hm_LL ν μ1) (h : f_X0_bestAsked_J61 v1 w23_4 c8 e73 c23 e67 y2 y3 y5 μ1 = some r) : hm_T (hm_LL ν) m_X0_bestAsked fr 0 0 (some (.int r)) μ1 61 [some (.ref 145), some (.int v1), some (.int y2), some (.int y3), some (.int w23_4), some (.int y5), none] [] μ1 := by
  unfold f_X0_bestAsked_J61 at h
  refine tr_iinc (pc' := 64) (v := y5 + (1 : Int32)) (lv' := [some (.ref 145), some (.int v1), some (.int y2), some (.int y3), some (.int w23_4), some (.int (y5 + (1 : Int32))), none]) (show decode cX0_bestAsked 61 = .ok (.iinc 5 1, 3) by decide +kernel) rfl rfl rfl (Nat.le_of_ble_eq_true rfl) rfl rfl ?_
  refine tr_goto (tgt := 23) (show decode cX0_bestAsked 64 = .ok (.goto (-41), 3) by decide +kernel) rfl ?_
  exact hc23 y2 y3 (y5 + (1 : Int32)) μ1 hL h
def f_X0_bestAsked_L23 (v1 : Int32) (w23_4 : Int32) (c8 : Int32 → Int32 → Int32 → hm_M → Option Int32) (e73 : Int32 → hm_M → Option Int32) (e67 : Int32 → Int32 → hm_M → Option Int32) : Nat → Int32 → Int32 → Int32 → hm_M → Option Int32
  | 0, _, _, _, _ => none
  | n + 1, y2, y3, y5, μ1 => (if (μ1.1 145 5) ≤ y5 then
  e67 y2 y3 μ1
  else
  Option.bind (f_X0_leftAtMost w23_4 y5 v1 μ1) fun x2 =>
  (if y3 ≤ x2 then
  f_X0_bestAsked_J61 v1 w23_4 c8 e73 (f_X0_bestAsked_L23 v1 w23_4 c8 e73 e67 n) e67 y2 y3 y5 μ1
  else
  Option.bind (some (((10 : Int32) * w23_4) + y5)) fun x3 =>
  f_X0_bestAsked_J61 v1 w23_4 c8 e73 (f_X0_bestAsked_L23 v1 w23_4 c8 e73 e67 n) e67 x3 x2 y5 μ1))
theorem ok_X0_bestAsked_L23 {fr : Nat} (hfr : 5 ≤ fr) {ν : hm_N} {r : Int32}  (v1 : Int32) (w23_4 : Int32) (c8 : Int32 → Int32 → Int32 → hm_M → Option Int32) (e73 : Int32 → hm_M → Option Int32) (e67 : Int32 → Int32 → hm_M → Option Int32) (hc8 : ∀ (y2 : Int32) (y3 : Int32) (y4 : Int32)  (μ1 : hm_M), hm_LL ν μ1 → c8 y2 y3 y4 μ1 = some r → hm_T (hm_LL ν) m_X0_bestAsked fr 0 0 (some (.int r)) μ1 8 [some (.ref 145), some (.int v1), some (.int y2), some (.int y3), some (.int y4), none, none] [] μ1) (he73 : ∀ (y2 : Int32)  (μ1 : hm_M), hm_LL ν μ1 → e73 y2 μ1 = some r → hm_T (hm_LL ν) m_X0_bestAsked fr 0 0 (some (.int r)) μ1 73 [none, none, some (.int y2), none, none, none, none] [] μ1) (he67 : ∀ (y2 : Int32) (y3 : Int32)  (μ1 : hm_M), hm_LL ν μ1 → e67 y2 y3 μ1 = some r → hm_T (hm_LL ν) m_X0_bestAsked fr 0 0 (some (.int r)) μ1 67 [some (.ref 145), some (.int v1), some (.int y2), some (.int y3), some (.int w23_4), none, none] [] μ1)  : ∀ (n : Nat) (y2 : Int32) (y3 : Int32) (y5 : Int32)  (μ1 : hm_M), hm_LL ν μ1 → f_X0_bestAsked_L23 v1 w23_4 c8 e73 e67 n y2 y3 y5 μ1 = some r → hm_T (hm_LL ν) m_X0_bestAsked fr 0 0 (some (.int r)) μ1 23 [some (.ref 145), some (.int v1), some (.int y2), some (.int y3), some (.int w23_4), some (.int y5), none] [] μ1 := by
  intro n
  induction n with
  | zero =>
    intro y2 y3 y5 μ1 hL h
    unfold f_X0_bestAsked_L23 at h
    cases h
  | succ n ih =>
    intro y2 y3 y5 μ1 hL h
    unfold f_X0_bestAsked_L23 at h
    refine tr_iload (pc' := 25) (show decode cX0_bestAsked 23 = .ok (.iload 5, 2) by decide +kernel) rfl rfl ?_
    refine tr_aload_n (pc' := 26) (show decode cX0_bestAsked 25 = .ok (.aload_n 0, 1) by decide +kernel) rfl rfl rfl ?_
    refine tr_getI (pc' := 29) fl_HandRing_Circle_28 (show decode cX0_bestAsked 26 = .ok (.getfield 28, 3) by decide +kernel) rfl (la_o hL (by decide) rfl) ?_
    rcases hm_is h with ⟨hc, h⟩ | ⟨hc, h⟩
    · refine tr_icmp_ge_t (tgt := 67) hc (show decode cX0_bestAsked 29 = .ok (.if_icmp .ge 38, 3) by decide +kernel) (by decide) ?_
      refine hm_fgt [true, true, true, true, true, false, false] (lv' := [some (.ref 145), some (.int v1), some (.int y2), some (.int y3), some (.int w23_4), none, none]) rfl ?_
      exact he67 y2 y3 μ1 hL h
    · refine tr_icmp_ge_f (tgt := 67) (pc' := 32) hc (show decode cX0_bestAsked 29 = .ok (.if_icmp .ge 38, 3) by decide +kernel) (by decide) rfl ?_
      refine tr_aload_n (pc' := 33) (show decode cX0_bestAsked 32 = .ok (.aload_n 0, 1) by decide +kernel) rfl rfl rfl ?_
      refine tr_iload (pc' := 35) (show decode cX0_bestAsked 33 = .ok (.iload 4, 2) by decide +kernel) rfl rfl ?_
      refine tr_iload (pc' := 37) (show decode cX0_bestAsked 35 = .ok (.iload 5, 2) by decide +kernel) rfl rfl ?_
      refine tr_iload_n (pc' := 38) (show decode cX0_bestAsked 37 = .ok (.iload_n 1, 1) by decide +kernel) rfl rfl rfl ?_
      obtain ⟨x2, ex2, h⟩ := hm_bs h
      have cx2 := ok_X0_leftAtMost (fr := fr - 1) (ν := ν) (by omega) w23_4 y5 v1 μ1 hL ex2
      refine tp_callV (pc' := 41) (As := [.int w23_4, .int y5, .int v1]) (fr1 := fr - 1) (ci := 0) okm_X0_leftAtMost lk_HandRing_Circle_148 (show decode cX0_bestAsked 38 = .ok (.invokevirtual 148, 3) by decide +kernel) rfl rfl rfl (by decide) (la_o hL (by decide) rfl) rfl rfl (Nat.le_of_ble_eq_true rfl) (by omega) cx2 (st' := [.int x2]) rfl ?_
      refine tr_istore (pc' := 43) (lv' := [some (.ref 145), some (.int v1), some (.int y2), some (.int y3), some (.int w23_4), some (.int y5), some (.int x2)]) (show decode cX0_bestAsked 41 = .ok (.istore 6, 2) by decide +kernel) rfl (Nat.le_of_ble_eq_true rfl) rfl rfl ?_
      refine tr_iload (pc' := 45) (show decode cX0_bestAsked 43 = .ok (.iload 6, 2) by decide +kernel) rfl rfl ?_
      refine tr_iload_n (pc' := 46) (show decode cX0_bestAsked 45 = .ok (.iload_n 3, 1) by decide +kernel) rfl rfl rfl ?_
      rcases hm_is h with ⟨hc, h⟩ | ⟨hc, h⟩
      · refine tr_icmp_ge_t (tgt := 61) hc (show decode cX0_bestAsked 46 = .ok (.if_icmp .ge 15, 3) by decide +kernel) (by decide) ?_
        refine hm_fgt [true, true, true, true, true, true, false] (lv' := [some (.ref 145), some (.int v1), some (.int y2), some (.int y3), some (.int w23_4), some (.int y5), none]) rfl ?_
        exact ok_X0_bestAsked_J61 hfr _ w23_4 c8 e73 (f_X0_bestAsked_L23 v1 w23_4 c8 e73 e67 n) e67 hc8 he73 ih he67 y2 y3 y5 μ1 hL h
      · refine tr_icmp_ge_f (tgt := 61) (pc' := 49) hc (show decode cX0_bestAsked 46 = .ok (.if_icmp .ge 15, 3) by decide +kernel) (by decide) rfl ?_
        refine tr_bipush (pc' := 51) (v := (10 : Int32)) (show decode cX0_bestAsked 49 = .ok (.bipush 10, 2) by decide +kernel) rfl (by decide) ?_
        refine tr_iload (pc' := 53) (show decode cX0_bestAsked 51 = .ok (.iload 4, 2) by decide +kernel) rfl rfl ?_
        refine tr_imul (pc' := 54) (show decode cX0_bestAsked 53 = .ok (.imul, 1) by decide +kernel) rfl ?_
        refine tr_iload (pc' := 56) (show decode cX0_bestAsked 54 = .ok (.iload 5, 2) by decide +kernel) rfl rfl ?_
        refine tr_iadd (pc' := 57) (show decode cX0_bestAsked 56 = .ok (.iadd, 1) by decide +kernel) rfl ?_
        obtain ⟨x3, ex3, h⟩ := hm_bs h
        have ex3 := Option.some.inj ex3
        rw [ex3]
        refine tr_istore_n (pc' := 58) (lv' := [some (.ref 145), some (.int v1), some (.int x3), some (.int y3), some (.int w23_4), some (.int y5), some (.int x2)]) (show decode cX0_bestAsked 57 = .ok (.istore_n 2, 1) by decide +kernel) rfl rfl (Nat.le_of_ble_eq_true rfl) rfl rfl ?_
        refine tr_iload (pc' := 60) (show decode cX0_bestAsked 58 = .ok (.iload 6, 2) by decide +kernel) rfl rfl ?_
        refine tr_istore_n (pc' := 61) (lv' := [some (.ref 145), some (.int v1), some (.int x3), some (.int x2), some (.int w23_4), some (.int y5), some (.int x2)]) (show decode cX0_bestAsked 60 = .ok (.istore_n 3, 1) by decide +kernel) rfl rfl (Nat.le_of_ble_eq_true rfl) rfl rfl ?_
        refine hm_fgt [true, true, true, true, true, true, false] (lv' := [some (.ref 145), some (.int v1), some (.int x3), some (.int x2), some (.int w23_4), some (.int y5), none]) rfl ?_
        exact ok_X0_bestAsked_J61 hfr _ w23_4 c8 e73 (f_X0_bestAsked_L23 v1 w23_4 c8 e73 e67 n) e67 hc8 he73 ih he67 x3 x2 y5 μ1 hL h
def f_X0_bestAsked_L8 (v1 : Int32) (e73 : Int32 → hm_M → Option Int32) : Nat → Int32 → Int32 → Int32 → hm_M → Option Int32
  | 0, _, _, _, _ => none
  | n + 1, y2, y3, y4, μ1 => (if (μ1.1 145 5) ≤ y4 then
  e73 y2 μ1
  else
  f_X0_bestAsked_L23 v1 y4 (f_X0_bestAsked_L8 v1 e73 n) e73 (fun z4_2 z4_3 μz4 => (f_X0_bestAsked_L8 v1 e73 n) z4_2 z4_3 (y4 + (1 : Int32)) μz4) hm_fu y2 y3 (y4 + (1 : Int32)) μ1)
theorem ok_X0_bestAsked_L8 {fr : Nat} (hfr : 5 ≤ fr) {ν : hm_N} {r : Int32}  (v1 : Int32) (e73 : Int32 → hm_M → Option Int32)  (he73 : ∀ (y2 : Int32)  (μ1 : hm_M), hm_LL ν μ1 → e73 y2 μ1 = some r → hm_T (hm_LL ν) m_X0_bestAsked fr 0 0 (some (.int r)) μ1 73 [none, none, some (.int y2), none, none, none, none] [] μ1)  : ∀ (n : Nat) (y2 : Int32) (y3 : Int32) (y4 : Int32)  (μ1 : hm_M), hm_LL ν μ1 → f_X0_bestAsked_L8 v1 e73 n y2 y3 y4 μ1 = some r → hm_T (hm_LL ν) m_X0_bestAsked fr 0 0 (some (.int r)) μ1 8 [some (.ref 145), some (.int v1), some (.int y2), some (.int y3), some (.int y4), none, none] [] μ1 := by
  intro n
  induction n with
  | zero =>
    intro y2 y3 y4 μ1 hL h
    unfold f_X0_bestAsked_L8 at h
    cases h
  | succ n ih =>
    intro y2 y3 y4 μ1 hL h
    unfold f_X0_bestAsked_L8 at h
    refine tr_iload (pc' := 10) (show decode cX0_bestAsked 8 = .ok (.iload 4, 2) by decide +kernel) rfl rfl ?_
    refine tr_aload_n (pc' := 11) (show decode cX0_bestAsked 10 = .ok (.aload_n 0, 1) by decide +kernel) rfl rfl rfl ?_
    refine tr_getI (pc' := 14) fl_HandRing_Circle_28 (show decode cX0_bestAsked 11 = .ok (.getfield 28, 3) by decide +kernel) rfl (la_o hL (by decide) rfl) ?_
    rcases hm_is h with ⟨hc, h⟩ | ⟨hc, h⟩
    · refine tr_icmp_ge_t (tgt := 73) hc (show decode cX0_bestAsked 14 = .ok (.if_icmp .ge 59, 3) by decide +kernel) (by decide) ?_
      refine hm_fgt [false, false, true, false, false, false, false] (lv' := [none, none, some (.int y2), none, none, none, none]) rfl ?_
      exact he73 y2 μ1 hL h
    · refine tr_icmp_ge_f (tgt := 73) (pc' := 17) hc (show decode cX0_bestAsked 14 = .ok (.if_icmp .ge 59, 3) by decide +kernel) (by decide) rfl ?_
      refine tr_iload (pc' := 19) (show decode cX0_bestAsked 17 = .ok (.iload 4, 2) by decide +kernel) rfl rfl ?_
      refine tr_iconst (pc' := 20) (v := (1 : Int32)) (show decode cX0_bestAsked 19 = .ok (.iconst 1, 1) by decide +kernel) rfl (by decide) ?_
      refine tr_iadd (pc' := 21) (show decode cX0_bestAsked 20 = .ok (.iadd, 1) by decide +kernel) rfl ?_
      refine tr_istore (pc' := 23) (lv' := [some (.ref 145), some (.int v1), some (.int y2), some (.int y3), some (.int y4), some (.int (y4 + (1 : Int32))), none]) (show decode cX0_bestAsked 21 = .ok (.istore 5, 2) by decide +kernel) rfl (Nat.le_of_ble_eq_true rfl) rfl rfl ?_
      refine ok_X0_bestAsked_L23 hfr _ y4 (f_X0_bestAsked_L8 v1 e73 n) e73 _ ih he73 ?_ _ y2 y3 (y4 + (1 : Int32)) μ1 hL h
      · intro z4_2 z4_3 μz4 hL h
        refine tr_iinc (pc' := 70) (v := y4 + (1 : Int32)) (lv' := [some (.ref 145), some (.int v1), some (.int z4_2), some (.int z4_3), some (.int (y4 + (1 : Int32))), none, none]) (show decode cX0_bestAsked 67 = .ok (.iinc 4 1, 3) by decide +kernel) rfl rfl rfl (Nat.le_of_ble_eq_true rfl) rfl rfl ?_
        refine tr_goto (tgt := 8) (show decode cX0_bestAsked 70 = .ok (.goto (-62), 3) by decide +kernel) rfl ?_
        exact ih z4_2 z4_3 (y4 + (1 : Int32)) μz4 hL h
def f_X0_bestAsked (v1 : Int32) (μ : hm_M) : Option Int32 :=
  f_X0_bestAsked_L8 v1 (fun z5_2 μz5 => some z5_2) hm_fu (-1 : Int32) (1000000 : Int32) (0 : Int32) μ
set_option maxRecDepth 100000 in
theorem ok_X0_bestAsked {fr : Nat} (hfr : 5 ≤ fr) {ν : hm_N} {r : Int32}  (v1 : Int32)  (μ : hm_M) (hL : hm_LL ν μ) (h : f_X0_bestAsked v1 μ = some r) : hm_CC (hm_LL ν) m_X0_bestAsked fr 0 0 [.ref 145, .int v1] μ (some (.int r)) μ := by
  refine hm_enter (lv := [some (.ref 145), some (.int v1), none, none, none, none, none]) (by decide) rfl (Nat.le_of_ble_eq_true rfl) ?_
  unfold f_X0_bestAsked at h
  refine tr_iconst (pc' := 1) (v := (-1 : Int32)) (show decode cX0_bestAsked 0 = .ok (.iconst (-1), 1) by decide +kernel) rfl (by decide) ?_
  refine tr_istore_n (pc' := 2) (lv' := [some (.ref 145), some (.int v1), some (.int (-1 : Int32)), none, none, none, none]) (show decode cX0_bestAsked 1 = .ok (.istore_n 2, 1) by decide +kernel) rfl rfl (Nat.le_of_ble_eq_true rfl) rfl rfl ?_
  refine tr_ldc (pc' := 4) (v := (1000000 : Int32)) (show decode cX0_bestAsked 2 = .ok (.ldc 92, 2) by decide +kernel) rfl kc_HandRing_Circle_92 ?_
  refine tr_istore_n (pc' := 5) (lv' := [some (.ref 145), some (.int v1), some (.int (-1 : Int32)), some (.int (1000000 : Int32)), none, none, none]) (show decode cX0_bestAsked 4 = .ok (.istore_n 3, 1) by decide +kernel) rfl rfl (Nat.le_of_ble_eq_true rfl) rfl rfl ?_
  refine tr_iconst (pc' := 6) (v := (0 : Int32)) (show decode cX0_bestAsked 5 = .ok (.iconst 0, 1) by decide +kernel) rfl (by decide) ?_
  refine tr_istore (pc' := 8) (lv' := [some (.ref 145), some (.int v1), some (.int (-1 : Int32)), some (.int (1000000 : Int32)), some (.int (0 : Int32)), none, none]) (show decode cX0_bestAsked 6 = .ok (.istore 4, 2) by decide +kernel) rfl (Nat.le_of_ble_eq_true rfl) rfl rfl ?_
  refine ok_X0_bestAsked_L8 hfr _ _ ?_ _ (-1 : Int32) (1000000 : Int32) (0 : Int32) μ hL h
  · intro z5_2 μz5 hL h
    refine tr_iload_n (pc' := 74) (show decode cX0_bestAsked 73 = .ok (.iload_n 2, 1) by decide +kernel) rfl rfl rfl ?_
    cases h
    exact tr_iret rfl (show decode cX0_bestAsked 74 = .ok (.ireturn, 1) by decide +kernel) hL
def f_X0_spread_J43 (v0 : Nat) (l0 : Nat) (v1 : Int32) (v2 : Int32) (v3 : Int32) (w15_5 : Int32) (c6 : Int32 → Int32 → hm_M → Option Int32) (e55 : Int32 → hm_M → Option Int32) (c15 : Int32 → Int32 → hm_M → Option Int32) (e49 : Int32 → hm_M → Option Int32) (y4 : Int32) (y6 : Int32) (μ1 : hm_M) : Option Int32 :=
  c15 y4 (y6 + (1 : Int32)) μ1
theorem ok_X0_spread_J43 {fr : Nat} (hfr : 0 ≤ fr) {ν : hm_N} {r : Int32}  (v0 : Nat) (l0 : Nat) (v1 : Int32) (v2 : Int32) (v3 : Int32) (w15_5 : Int32) (c6 : Int32 → Int32 → hm_M → Option Int32) (e55 : Int32 → hm_M → Option Int32) (c15 : Int32 → Int32 → hm_M → Option Int32) (e49 : Int32 → hm_M → Option Int32) (hc6 : ∀ (y4 : Int32) (y5 : Int32)  (μ1 : hm_M), hm_LL ν μ1 → c6 y4 y5 μ1 = some r → hm_T (hm_LL ν) m_X0_spread fr 0 0 (some (.int r)) μ1 6 [some (.ref v0), some (.int v1), none, some (.int v3), some (.int y4), some (.int y5), none] [] μ1) (he55 : ∀ (y4 : Int32)  (μ1 : hm_M), hm_LL ν μ1 → e55 y4 μ1 = some r → hm_T (hm_LL ν) m_X0_spread fr 0 0 (some (.int r)) μ1 55 [none, none, none, none, some (.int y4), none, none] [] μ1) (hc15 : ∀ (y4 : Int32) (y6 : Int32)  (μ1 : hm_M), hm_LL ν μ1 → c15 y4 y6 μ1 = some r → hm_T (hm_LL ν) m_X0_spread fr 0 0 (some (.int r)) μ1 15 [some (.ref v0), some (.int v1), none, some (.int v3), some (.int y4), some (.int w15_5), some (.int y6)] [] μ1) (he49 : ∀ (y4 : Int32)  (μ1 : hm_M), hm_LL ν μ1 → e49 y4 μ1 = some r → hm_T (hm_LL ν) m_X0_spread fr 0 0 (some (.int r)) μ1 49 [some (.ref v0), some (.int v1), none, some (.int v3), some (.int y4), some (.int w15_5), none] [] μ1) (hv0 : hm_arν ν v0 13 l0) (y4 : Int32) (y6 : Int32) (μ1 : hm_M) (hL : hm_LL ν μ1) (h : f_X0_spread_J43 v0 l0 v1 v2 v3 w15_5 c6 e55 c15 e49 y4 y6 μ1 = some r) : hm_T (hm_LL ν) m_X0_spread fr 0 0 (some (.int r)) μ1 43 [some (.ref v0), some (.int v1), none, some (.int v3), some (.int y4), some (.int w15_5), some (.int y6)] [] μ1 := by
  unfold f_X0_spread_J43 at h
  refine tr_iinc (pc' := 46) (v := y6 + (1 : Int32)) (lv' := [some (.ref v0), some (.int v1), none, some (.int v3), some (.int y4), some (.int w15_5), some (.int (y6 + (1 : Int32)))]) (show decode cX0_spread 43 = .ok (.iinc 6 1, 3) by decide +kernel) rfl rfl rfl (Nat.le_of_ble_eq_true rfl) rfl rfl ?_
  refine tr_goto (tgt := 15) (show decode cX0_spread 46 = .ok (.goto (-31), 3) by decide +kernel) rfl ?_
  exact hc15 y4 (y6 + (1 : Int32)) μ1 hL h
def f_X0_spread_L15 (v0 : Nat) (l0 : Nat) (v1 : Int32) (v2 : Int32) (v3 : Int32) (w15_5 : Int32) (c6 : Int32 → Int32 → hm_M → Option Int32) (e55 : Int32 → hm_M → Option Int32) (e49 : Int32 → hm_M → Option Int32) : Nat → Int32 → Int32 → hm_M → Option Int32
  | 0, _, _, _ => none
  | n + 1, y4, y6, μ1 => (if v1 ≤ y6 then
  e49 y4 μ1
  else
  (if ((y4 >>> (y6 &&& 31)) &&& (1 : Int32)) = (1 : Int32) then
  Option.bind (hm_ld μ1 v0 l0 y6) fun x2 =>
  f_X0_spread_J43 v0 l0 v1 v2 v3 w15_5 c6 e55 (f_X0_spread_L15 v0 l0 v1 v2 v3 w15_5 c6 e55 e49 n) e49 (y4 ||| (x2 &&& v3)) y6 μ1
  else
  f_X0_spread_J43 v0 l0 v1 v2 v3 w15_5 c6 e55 (f_X0_spread_L15 v0 l0 v1 v2 v3 w15_5 c6 e55 e49 n) e49 y4 y6 μ1))
theorem ok_X0_spread_L15 {fr : Nat} (hfr : 0 ≤ fr) {ν : hm_N} {r : Int32}  (v0 : Nat) (l0 : Nat) (v1 : Int32) (v2 : Int32) (v3 : Int32) (w15_5 : Int32) (c6 : Int32 → Int32 → hm_M → Option Int32) (e55 : Int32 → hm_M → Option Int32) (e49 : Int32 → hm_M → Option Int32) (hc6 : ∀ (y4 : Int32) (y5 : Int32)  (μ1 : hm_M), hm_LL ν μ1 → c6 y4 y5 μ1 = some r → hm_T (hm_LL ν) m_X0_spread fr 0 0 (some (.int r)) μ1 6 [some (.ref v0), some (.int v1), none, some (.int v3), some (.int y4), some (.int y5), none] [] μ1) (he55 : ∀ (y4 : Int32)  (μ1 : hm_M), hm_LL ν μ1 → e55 y4 μ1 = some r → hm_T (hm_LL ν) m_X0_spread fr 0 0 (some (.int r)) μ1 55 [none, none, none, none, some (.int y4), none, none] [] μ1) (he49 : ∀ (y4 : Int32)  (μ1 : hm_M), hm_LL ν μ1 → e49 y4 μ1 = some r → hm_T (hm_LL ν) m_X0_spread fr 0 0 (some (.int r)) μ1 49 [some (.ref v0), some (.int v1), none, some (.int v3), some (.int y4), some (.int w15_5), none] [] μ1) (hv0 : hm_arν ν v0 13 l0) : ∀ (n : Nat) (y4 : Int32) (y6 : Int32)  (μ1 : hm_M), hm_LL ν μ1 → f_X0_spread_L15 v0 l0 v1 v2 v3 w15_5 c6 e55 e49 n y4 y6 μ1 = some r → hm_T (hm_LL ν) m_X0_spread fr 0 0 (some (.int r)) μ1 15 [some (.ref v0), some (.int v1), none, some (.int v3), some (.int y4), some (.int w15_5), some (.int y6)] [] μ1 := by
  intro n
  induction n with
  | zero =>
    intro y4 y6 μ1 hL h
    unfold f_X0_spread_L15 at h
    cases h
  | succ n ih =>
    intro y4 y6 μ1 hL h
    unfold f_X0_spread_L15 at h
    refine tr_iload (pc' := 17) (show decode cX0_spread 15 = .ok (.iload 6, 2) by decide +kernel) rfl rfl ?_
    refine tr_iload_n (pc' := 18) (show decode cX0_spread 17 = .ok (.iload_n 1, 1) by decide +kernel) rfl rfl rfl ?_
    rcases hm_is h with ⟨hc, h⟩ | ⟨hc, h⟩
    · refine tr_icmp_ge_t (tgt := 49) hc (show decode cX0_spread 18 = .ok (.if_icmp .ge 31, 3) by decide +kernel) (by decide) ?_
      refine hm_fgt [true, true, false, true, true, true, false] (lv' := [some (.ref v0), some (.int v1), none, some (.int v3), some (.int y4), some (.int w15_5), none]) rfl ?_
      exact he49 y4 μ1 hL h
    · refine tr_icmp_ge_f (tgt := 49) (pc' := 21) hc (show decode cX0_spread 18 = .ok (.if_icmp .ge 31, 3) by decide +kernel) (by decide) rfl ?_
      refine tr_iload (pc' := 23) (show decode cX0_spread 21 = .ok (.iload 4, 2) by decide +kernel) rfl rfl ?_
      refine tr_iload (pc' := 25) (show decode cX0_spread 23 = .ok (.iload 6, 2) by decide +kernel) rfl rfl ?_
      refine tr_ishr (pc' := 26) (show decode cX0_spread 25 = .ok (.ishr, 1) by decide +kernel) rfl ?_
      refine tr_iconst (pc' := 27) (v := (1 : Int32)) (show decode cX0_spread 26 = .ok (.iconst 1, 1) by decide +kernel) rfl (by decide) ?_
      refine tr_iand (pc' := 28) (show decode cX0_spread 27 = .ok (.iand, 1) by decide +kernel) rfl ?_
      refine tr_iconst (pc' := 29) (v := (1 : Int32)) (show decode cX0_spread 28 = .ok (.iconst 1, 1) by decide +kernel) rfl (by decide) ?_
      rcases hm_is h with ⟨hc, h⟩ | ⟨hc, h⟩
      · refine tr_icmp_ne_f (tgt := 43) (pc' := 32) hc (show decode cX0_spread 29 = .ok (.if_icmp .ne 14, 3) by decide +kernel) (by decide) rfl ?_
        refine tr_iload (pc' := 34) (show decode cX0_spread 32 = .ok (.iload 4, 2) by decide +kernel) rfl rfl ?_
        refine tr_aload_n (pc' := 35) (show decode cX0_spread 34 = .ok (.aload_n 0, 1) by decide +kernel) rfl rfl rfl ?_
        refine tr_iload (pc' := 37) (show decode cX0_spread 35 = .ok (.iload 6, 2) by decide +kernel) rfl rfl ?_
        obtain ⟨x2, ex2, h⟩ := hm_bs h
        refine tp_ldI (pc' := 38) (show decode cX0_spread 37 = .ok (.iaload, 1) by decide +kernel) rfl (la_x hL hv0) ex2 ?_
        refine tr_iload_n (pc' := 39) (show decode cX0_spread 38 = .ok (.iload_n 3, 1) by decide +kernel) rfl rfl rfl ?_
        refine tr_iand (pc' := 40) (show decode cX0_spread 39 = .ok (.iand, 1) by decide +kernel) rfl ?_
        refine tr_ior (pc' := 41) (show decode cX0_spread 40 = .ok (.ior, 1) by decide +kernel) rfl ?_
        refine tr_istore (pc' := 43) (lv' := [some (.ref v0), some (.int v1), none, some (.int v3), some (.int (y4 ||| (x2 &&& v3))), some (.int w15_5), some (.int y6)]) (show decode cX0_spread 41 = .ok (.istore 4, 2) by decide +kernel) rfl (Nat.le_of_ble_eq_true rfl) rfl rfl ?_
        exact ok_X0_spread_J43 hfr _ _ _ _ _ w15_5 c6 e55 (f_X0_spread_L15 v0 l0 v1 v2 v3 w15_5 c6 e55 e49 n) e49 hc6 he55 ih he49 hv0 (y4 ||| (x2 &&& v3)) y6 μ1 hL h
      · refine tr_icmp_ne_t (tgt := 43) hc (show decode cX0_spread 29 = .ok (.if_icmp .ne 14, 3) by decide +kernel) (by decide) ?_
        exact ok_X0_spread_J43 hfr _ _ _ _ _ w15_5 c6 e55 (f_X0_spread_L15 v0 l0 v1 v2 v3 w15_5 c6 e55 e49 n) e49 hc6 he55 ih he49 hv0 y4 y6 μ1 hL h
def f_X0_spread_L6 (v0 : Nat) (l0 : Nat) (v1 : Int32) (v2 : Int32) (v3 : Int32) (e55 : Int32 → hm_M → Option Int32) : Nat → Int32 → Int32 → hm_M → Option Int32
  | 0, _, _, _ => none
  | n + 1, y4, y5, μ1 => (if v1 ≤ y5 then
  e55 y4 μ1
  else
  f_X0_spread_L15 v0 l0 v1 v2 v3 y5 (f_X0_spread_L6 v0 l0 v1 v2 v3 e55 n) e55 (fun z3_4 μz3 => (f_X0_spread_L6 v0 l0 v1 v2 v3 e55 n) z3_4 (y5 + (1 : Int32)) μz3) hm_fu y4 (0 : Int32) μ1)
theorem ok_X0_spread_L6 {fr : Nat} (hfr : 0 ≤ fr) {ν : hm_N} {r : Int32}  (v0 : Nat) (l0 : Nat) (v1 : Int32) (v2 : Int32) (v3 : Int32) (e55 : Int32 → hm_M → Option Int32)  (he55 : ∀ (y4 : Int32)  (μ1 : hm_M), hm_LL ν μ1 → e55 y4 μ1 = some r → hm_T (hm_LL ν) m_X0_spread fr 0 0 (some (.int r)) μ1 55 [none, none, none, none, some (.int y4), none, none] [] μ1) (hv0 : hm_arν ν v0 13 l0) : ∀ (n : Nat) (y4 : Int32) (y5 : Int32)  (μ1 : hm_M), hm_LL ν μ1 → f_X0_spread_L6 v0 l0 v1 v2 v3 e55 n y4 y5 μ1 = some r → hm_T (hm_LL ν) m_X0_spread fr 0 0 (some (.int r)) μ1 6 [some (.ref v0), some (.int v1), none, some (.int v3), some (.int y4), some (.int y5), none] [] μ1 := by
  intro n
  induction n with
  | zero =>
    intro y4 y5 μ1 hL h
    unfold f_X0_spread_L6 at h
    cases h
  | succ n ih =>
    intro y4 y5 μ1 hL h
    unfold f_X0_spread_L6 at h
    refine tr_iload (pc' := 8) (show decode cX0_spread 6 = .ok (.iload 5, 2) by decide +kernel) rfl rfl ?_
    refine tr_iload_n (pc' := 9) (show decode cX0_spread 8 = .ok (.iload_n 1, 1) by decide +kernel) rfl rfl rfl ?_
    rcases hm_is h with ⟨hc, h⟩ | ⟨hc, h⟩
    · refine tr_icmp_ge_t (tgt := 55) hc (show decode cX0_spread 9 = .ok (.if_icmp .ge 46, 3) by decide +kernel) (by decide) ?_
      refine hm_fgt [false, false, false, false, true, false, false] (lv' := [none, none, none, none, some (.int y4), none, none]) rfl ?_
      exact he55 y4 μ1 hL h
    · refine tr_icmp_ge_f (tgt := 55) (pc' := 12) hc (show decode cX0_spread 9 = .ok (.if_icmp .ge 46, 3) by decide +kernel) (by decide) rfl ?_
      refine tr_iconst (pc' := 13) (v := (0 : Int32)) (show decode cX0_spread 12 = .ok (.iconst 0, 1) by decide +kernel) rfl (by decide) ?_
      refine tr_istore (pc' := 15) (lv' := [some (.ref v0), some (.int v1), none, some (.int v3), some (.int y4), some (.int y5), some (.int (0 : Int32))]) (show decode cX0_spread 13 = .ok (.istore 6, 2) by decide +kernel) rfl (Nat.le_of_ble_eq_true rfl) rfl rfl ?_
      refine ok_X0_spread_L15 hfr _ _ _ _ _ y5 (f_X0_spread_L6 v0 l0 v1 v2 v3 e55 n) e55 _ ih he55 ?_ hv0 _ y4 (0 : Int32) μ1 hL h
      · intro z3_4 μz3 hL h
        refine tr_iinc (pc' := 52) (v := y5 + (1 : Int32)) (lv' := [some (.ref v0), some (.int v1), none, some (.int v3), some (.int z3_4), some (.int (y5 + (1 : Int32))), none]) (show decode cX0_spread 49 = .ok (.iinc 5 1, 3) by decide +kernel) rfl rfl rfl (Nat.le_of_ble_eq_true rfl) rfl rfl ?_
        refine tr_goto (tgt := 6) (show decode cX0_spread 52 = .ok (.goto (-46), 3) by decide +kernel) rfl ?_
        exact ih z3_4 (y5 + (1 : Int32)) μz3 hL h
def f_X0_spread (v0 : Nat) (l0 : Nat) (v1 : Int32) (v2 : Int32) (v3 : Int32) (μ : hm_M) : Option Int32 :=
  f_X0_spread_L6 v0 l0 v1 v2 v3 (fun z4_4 μz4 => some z4_4) hm_fu v2 (0 : Int32) μ
set_option maxRecDepth 100000 in
theorem ok_X0_spread {fr : Nat} (hfr : 0 ≤ fr) {ν : hm_N} {r : Int32}  (v0 : Nat) (l0 : Nat) (v1 : Int32) (v2 : Int32) (v3 : Int32) (hv0 : hm_arν ν v0 13 l0) (μ : hm_M) (hL : hm_LL ν μ) (h : f_X0_spread v0 l0 v1 v2 v3 μ = some r) : hm_CC (hm_LL ν) m_X0_spread fr 0 0 [.ref v0, .int v1, .int v2, .int v3] μ (some (.int r)) μ := by
  refine hm_enter (lv := [some (.ref v0), some (.int v1), some (.int v2), some (.int v3), none, none, none]) (by decide) rfl (Nat.le_of_ble_eq_true rfl) ?_
  unfold f_X0_spread at h
  refine tr_iload_n (pc' := 1) (show decode cX0_spread 0 = .ok (.iload_n 2, 1) by decide +kernel) rfl rfl rfl ?_
  refine tr_istore (pc' := 3) (lv' := [some (.ref v0), some (.int v1), some (.int v2), some (.int v3), some (.int v2), none, none]) (show decode cX0_spread 1 = .ok (.istore 4, 2) by decide +kernel) rfl (Nat.le_of_ble_eq_true rfl) rfl rfl ?_
  refine tr_iconst (pc' := 4) (v := (0 : Int32)) (show decode cX0_spread 3 = .ok (.iconst 0, 1) by decide +kernel) rfl (by decide) ?_
  refine tr_istore (pc' := 6) (lv' := [some (.ref v0), some (.int v1), some (.int v2), some (.int v3), some (.int v2), some (.int (0 : Int32)), none]) (show decode cX0_spread 4 = .ok (.istore 5, 2) by decide +kernel) rfl (Nat.le_of_ble_eq_true rfl) rfl rfl ?_
  refine hm_fgt [true, true, false, true, true, true, false] (lv' := [some (.ref v0), some (.int v1), none, some (.int v3), some (.int v2), some (.int (0 : Int32)), none]) rfl ?_
  refine ok_X0_spread_L6 hfr _ _ _ _ _ _ ?_ hv0 _ v2 (0 : Int32) μ hL h
  · intro z4_4 μz4 hL h
    refine tr_iload (pc' := 57) (show decode cX0_spread 55 = .ok (.iload 4, 2) by decide +kernel) rfl rfl ?_
    cases h
    exact tr_iret rfl (show decode cX0_spread 57 = .ok (.ireturn, 1) by decide +kernel) hL
def f_X0_fallsApartWithout (v1 : Int32) (v2 : Int32) (μ : hm_M) : Option Int32 :=
  Option.bind (some (((1 : Int32) <<< (v1 &&& 31)) ^^^ (-1 : Int32))) fun x2 =>
  Option.bind (f_X0_spread 149 8 v2 ((1 : Int32) <<< (v1 &&& 31)) (-1 : Int32) μ) fun x3 =>
  Option.bind (some ((x3 &&& x2) &&& (-(x3 &&& x2)))) fun x4 =>
  Option.bind (f_X0_spread 149 8 v2 x4 x2 μ) fun x5 =>
  (if x5 = (x3 &&& x2) then
  some (0 : Int32)
  else
  some (1 : Int32))
set_option maxRecDepth 100000 in
theorem ok_X0_fallsApartWithout {fr : Nat} (hfr : 1 ≤ fr) {ν : hm_N} {r : Int32}  (v1 : Int32) (v2 : Int32)  (μ : hm_M) (hL : hm_LL ν μ) (h : f_X0_fallsApartWithout v1 v2 μ = some r) : hm_CC (hm_LL ν) m_X0_fallsApartWithout fr 0 0 [.ref 145, .int v1, .int v2] μ (some (.int r)) μ := by
  refine hm_enter (lv := [some (.ref 145), some (.int v1), some (.int v2), none, none, none]) (by decide) rfl (Nat.le_of_ble_eq_true rfl) ?_
  unfold f_X0_fallsApartWithout at h
  refine tr_iconst (pc' := 1) (v := (1 : Int32)) (show decode cX0_fallsApartWithout 0 = .ok (.iconst 1, 1) by decide +kernel) rfl (by decide) ?_
  refine tr_iload_n (pc' := 2) (show decode cX0_fallsApartWithout 1 = .ok (.iload_n 1, 1) by decide +kernel) rfl rfl rfl ?_
  refine tr_ishl (pc' := 3) (show decode cX0_fallsApartWithout 2 = .ok (.ishl, 1) by decide +kernel) rfl ?_
  refine tr_iconst (pc' := 4) (v := (-1 : Int32)) (show decode cX0_fallsApartWithout 3 = .ok (.iconst (-1), 1) by decide +kernel) rfl (by decide) ?_
  refine tr_ixor (pc' := 5) (show decode cX0_fallsApartWithout 4 = .ok (.ixor, 1) by decide +kernel) rfl ?_
  obtain ⟨x2, ex2, h⟩ := hm_bs h
  have ex2 := Option.some.inj ex2
  rw [ex2]
  refine tr_istore_n (pc' := 6) (lv' := [some (.ref 145), some (.int v1), some (.int v2), some (.int x2), none, none]) (show decode cX0_fallsApartWithout 5 = .ok (.istore_n 3, 1) by decide +kernel) rfl rfl (Nat.le_of_ble_eq_true rfl) rfl rfl ?_
  refine tr_aload_n (pc' := 7) (show decode cX0_fallsApartWithout 6 = .ok (.aload_n 0, 1) by decide +kernel) rfl rfl rfl ?_
  refine tr_getR (pc' := 10) fl_HandRing_Circle_21 (show decode cX0_fallsApartWithout 7 = .ok (.getfield 21, 3) by decide +kernel) rfl (la_o hL (by decide) rfl) (la_r hL 94 rfl) ?_
  refine tr_iload_n (pc' := 11) (show decode cX0_fallsApartWithout 10 = .ok (.iload_n 2, 1) by decide +kernel) rfl rfl rfl ?_
  refine tr_iconst (pc' := 12) (v := (1 : Int32)) (show decode cX0_fallsApartWithout 11 = .ok (.iconst 1, 1) by decide +kernel) rfl (by decide) ?_
  refine tr_iload_n (pc' := 13) (show decode cX0_fallsApartWithout 12 = .ok (.iload_n 1, 1) by decide +kernel) rfl rfl rfl ?_
  refine tr_ishl (pc' := 14) (show decode cX0_fallsApartWithout 13 = .ok (.ishl, 1) by decide +kernel) rfl ?_
  refine tr_iconst (pc' := 15) (v := (-1 : Int32)) (show decode cX0_fallsApartWithout 14 = .ok (.iconst (-1), 1) by decide +kernel) rfl (by decide) ?_
  obtain ⟨x3, ex3, h⟩ := hm_bs h
  have cx3 := ok_X0_spread (fr := fr - 1) (ν := ν) (by omega) 149 8 v2 ((1 : Int32) <<< (v1 &&& 31)) (-1 : Int32) (la_n hL (la_a hL (by decide) rfl)) μ hL ex3
  refine tp_callS (pc' := 18) (As := [.ref 149, .int v2, .int ((1 : Int32) <<< (v1 &&& 31)), .int (-1 : Int32)]) (fr1 := fr - 1) okm_X0_spread lk_HandRing_Circle_160 (show decode cX0_fallsApartWithout 15 = .ok (.invokestatic 160, 3) by decide +kernel) rfl rfl rfl (Nat.le_of_ble_eq_true rfl) (by omega) cx3 (st' := [.int x3]) rfl ?_
  refine tr_iload_n (pc' := 19) (show decode cX0_fallsApartWithout 18 = .ok (.iload_n 3, 1) by decide +kernel) rfl rfl rfl ?_
  refine tr_iand (pc' := 20) (show decode cX0_fallsApartWithout 19 = .ok (.iand, 1) by decide +kernel) rfl ?_
  refine tr_istore (pc' := 22) (lv' := [some (.ref 145), some (.int v1), some (.int v2), some (.int x2), some (.int (x3 &&& x2)), none]) (show decode cX0_fallsApartWithout 20 = .ok (.istore 4, 2) by decide +kernel) rfl (Nat.le_of_ble_eq_true rfl) rfl rfl ?_
  refine tr_iload (pc' := 24) (show decode cX0_fallsApartWithout 22 = .ok (.iload 4, 2) by decide +kernel) rfl rfl ?_
  refine tr_iload (pc' := 26) (show decode cX0_fallsApartWithout 24 = .ok (.iload 4, 2) by decide +kernel) rfl rfl ?_
  refine tr_ineg (pc' := 27) (show decode cX0_fallsApartWithout 26 = .ok (.ineg, 1) by decide +kernel) rfl ?_
  refine tr_iand (pc' := 28) (show decode cX0_fallsApartWithout 27 = .ok (.iand, 1) by decide +kernel) rfl ?_
  obtain ⟨x4, ex4, h⟩ := hm_bs h
  have ex4 := Option.some.inj ex4
  rw [ex4]
  refine tr_istore (pc' := 30) (lv' := [some (.ref 145), some (.int v1), some (.int v2), some (.int x2), some (.int (x3 &&& x2)), some (.int x4)]) (show decode cX0_fallsApartWithout 28 = .ok (.istore 5, 2) by decide +kernel) rfl (Nat.le_of_ble_eq_true rfl) rfl rfl ?_
  refine tr_aload_n (pc' := 31) (show decode cX0_fallsApartWithout 30 = .ok (.aload_n 0, 1) by decide +kernel) rfl rfl rfl ?_
  refine tr_getR (pc' := 34) fl_HandRing_Circle_21 (show decode cX0_fallsApartWithout 31 = .ok (.getfield 21, 3) by decide +kernel) rfl (la_o hL (by decide) rfl) (la_r hL 94 rfl) ?_
  refine tr_iload_n (pc' := 35) (show decode cX0_fallsApartWithout 34 = .ok (.iload_n 2, 1) by decide +kernel) rfl rfl rfl ?_
  refine tr_iload (pc' := 37) (show decode cX0_fallsApartWithout 35 = .ok (.iload 5, 2) by decide +kernel) rfl rfl ?_
  refine tr_iload_n (pc' := 38) (show decode cX0_fallsApartWithout 37 = .ok (.iload_n 3, 1) by decide +kernel) rfl rfl rfl ?_
  obtain ⟨x5, ex5, h⟩ := hm_bs h
  have cx5 := ok_X0_spread (fr := fr - 1) (ν := ν) (by omega) 149 8 v2 x4 x2 (la_n hL (la_a hL (by decide) rfl)) μ hL ex5
  refine tp_callS (pc' := 41) (As := [.ref 149, .int v2, .int x4, .int x2]) (fr1 := fr - 1) okm_X0_spread lk_HandRing_Circle_160 (show decode cX0_fallsApartWithout 38 = .ok (.invokestatic 160, 3) by decide +kernel) rfl rfl rfl (Nat.le_of_ble_eq_true rfl) (by omega) cx5 (st' := [.int x5]) rfl ?_
  refine tr_iload (pc' := 43) (show decode cX0_fallsApartWithout 41 = .ok (.iload 4, 2) by decide +kernel) rfl rfl ?_
  rcases hm_is h with ⟨hc, h⟩ | ⟨hc, h⟩
  · refine tr_icmp_eq_t (tgt := 50) hc (show decode cX0_fallsApartWithout 43 = .ok (.if_icmp .eq 7, 3) by decide +kernel) (by decide) ?_
    refine tr_iconst (pc' := 51) (v := (0 : Int32)) (show decode cX0_fallsApartWithout 50 = .ok (.iconst 0, 1) by decide +kernel) rfl (by decide) ?_
    cases h
    exact tr_zret rfl (by decide) (show decode cX0_fallsApartWithout 51 = .ok (.ireturn, 1) by decide +kernel) hL
  · refine tr_icmp_eq_f (tgt := 50) (pc' := 46) hc (show decode cX0_fallsApartWithout 43 = .ok (.if_icmp .eq 7, 3) by decide +kernel) (by decide) rfl ?_
    refine tr_iconst (pc' := 47) (v := (1 : Int32)) (show decode cX0_fallsApartWithout 46 = .ok (.iconst 1, 1) by decide +kernel) rfl (by decide) ?_
    refine tr_goto (tgt := 51) (show decode cX0_fallsApartWithout 47 = .ok (.goto 4, 3) by decide +kernel) rfl ?_
    cases h
    exact tr_zret rfl (by decide) (show decode cX0_fallsApartWithout 51 = .ok (.ireturn, 1) by decide +kernel) hL
def f_X7_note (o0 : Nat) (v1 : Nat) (μ : hm_M) : Option hm_M :=
  Option.bind (hm_ldR μ (o0 + 1) 17 (((μ.1 o0 1) + (μ.1 o0 2)) - ((μ.1 o0 1) + (μ.1 o0 2)) / (17 : Int32) * (17 : Int32))) fun _x2 =>
  Option.bind (hm_ld μ (v1 + 5) 4 (0 : Int32)) fun x3 =>
  Option.bind (hm_sd μ (o0 + 2 + (((μ.1 o0 1) + (μ.1 o0 2)) - ((μ.1 o0 1) + (μ.1 o0 2)) / (17 : Int32) * (17 : Int32)).toNatClampNeg) 26 (1 : Int32) x3) fun μ4 =>
  Option.bind (hm_cp μ4 (v1 + 1) 8 (0 : Int32) (o0 + 2 + (((μ.1 o0 1) + (μ.1 o0 2)) - ((μ.1 o0 1) + (μ.1 o0 2)) / (17 : Int32) * (17 : Int32)).toNatClampNeg) 26 (2 : Int32) (8 : Int32)) fun μ5 =>
  Option.bind (hm_cp μ5 (v1 + 2) 8 (0 : Int32) (o0 + 2 + (((μ.1 o0 1) + (μ.1 o0 2)) - ((μ.1 o0 1) + (μ.1 o0 2)) / (17 : Int32) * (17 : Int32)).toNatClampNeg) 26 (10 : Int32) (8 : Int32)) fun μ6 =>
  Option.bind (hm_cp μ6 (v1 + 4) 8 (0 : Int32) (o0 + 2 + (((μ.1 o0 1) + (μ.1 o0 2)) - ((μ.1 o0 1) + (μ.1 o0 2)) / (17 : Int32) * (17 : Int32)).toNatClampNeg) 26 (18 : Int32) (8 : Int32)) fun μ7 =>
  some μ7
set_option maxRecDepth 100000 in
theorem ok_X7_note {fr : Nat} (hfr : 1 ≤ fr) {ν : hm_N} {μR : hm_M}  (o0 : Nat) (v1 : Nat) (ho0 : hm_S o0) (hv1 : hm_V v1) (μ : hm_M) (hL : hm_LL ν μ) (h : f_X7_note o0 v1 μ = some μR) : hm_CC (hm_LL ν) m_X7_note fr 0 0 [.ref o0, .ref v1] μ none μR := by
  refine hm_enter (lv := [some (.ref o0), some (.ref v1), none]) (by decide) rfl (Nat.le_of_ble_eq_true rfl) ?_
  unfold f_X7_note at h
  refine tr_aload_n (pc' := 1) (show decode cX7_note 0 = .ok (.aload_n 0, 1) by decide +kernel) rfl rfl rfl ?_
  refine tr_getR (pc' := 4) fl_HandRing_Steps_13 (show decode cX7_note 1 = .ok (.getfield 13, 3) by decide +kernel) rfl (la_so hL ho0) (la_s0 hL ho0) ?_
  refine tr_aload_n (pc' := 5) (show decode cX7_note 4 = .ok (.aload_n 0, 1) by decide +kernel) rfl rfl rfl ?_
  refine tr_getI (pc' := 8) fl_HandRing_Steps_26 (show decode cX7_note 5 = .ok (.getfield 26, 3) by decide +kernel) rfl (la_so hL ho0) ?_
  refine tr_aload_n (pc' := 9) (show decode cX7_note 8 = .ok (.aload_n 0, 1) by decide +kernel) rfl rfl rfl ?_
  refine tr_getI (pc' := 12) fl_HandRing_Steps_16 (show decode cX7_note 9 = .ok (.getfield 16, 3) by decide +kernel) rfl (la_so hL ho0) ?_
  refine tr_iadd (pc' := 13) (show decode cX7_note 12 = .ok (.iadd, 1) by decide +kernel) rfl ?_
  refine tr_bipush (pc' := 15) (v := (17 : Int32)) (show decode cX7_note 13 = .ok (.bipush 17, 2) by decide +kernel) rfl (by decide) ?_
  refine tr_irem (pc' := 16) (show decode cX7_note 15 = .ok (.irem, 1) by decide +kernel) rfl (by decide) ?_
  obtain ⟨x2, ex2, h⟩ := hm_bs h
  have bx2 := la_srow hL ho0 ex2
  have ax2 := la_n hL bx2.2
  refine tp_ldR (pc' := 17) (t0 := 7) (by decide) (fun _ => rfl) rfl (show decode cX7_note 16 = .ok (.aaload, 1) by decide +kernel) rfl (la_sa0 hL ho0) ex2 (congrArg va_rf bx2.1) ?_
  refine tr_astore_n (pc' := 18) (lv' := [some (.ref o0), some (.ref v1), some (.ref (o0 + 2 + (((μ.1 o0 1) + (μ.1 o0 2)) - ((μ.1 o0 1) + (μ.1 o0 2)) / (17 : Int32) * (17 : Int32)).toNatClampNeg))]) (show decode cX7_note 17 = .ok (.astore_n 2, 1) by decide +kernel) rfl rfl (Nat.le_of_ble_eq_true rfl) rfl rfl ?_
  refine tr_aload_n (pc' := 19) (show decode cX7_note 18 = .ok (.aload_n 2, 1) by decide +kernel) rfl rfl rfl ?_
  refine tr_iconst (pc' := 20) (v := (1 : Int32)) (show decode cX7_note 19 = .ok (.iconst 1, 1) by decide +kernel) rfl (by decide) ?_
  refine tr_aload_n (pc' := 21) (show decode cX7_note 20 = .ok (.aload_n 1, 1) by decide +kernel) rfl rfl rfl ?_
  refine tr_getR (pc' := 24) fl_HandRing_Steps_29 (show decode cX7_note 21 = .ok (.getfield 29, 3) by decide +kernel) rfl (la_vo hL hv1) (la_v5 hL hv1) ?_
  refine tr_iconst (pc' := 25) (v := (0 : Int32)) (show decode cX7_note 24 = .ok (.iconst 0, 1) by decide +kernel) rfl (by decide) ?_
  obtain ⟨x3, ex3, h⟩ := hm_bs h
  refine tp_ldI (pc' := 26) (show decode cX7_note 25 = .ok (.iaload, 1) by decide +kernel) rfl (la_va5 hL hv1) ex3 ?_
  obtain ⟨μ4, eμ4, h⟩ := hm_bs h
  refine tp_sdI (pc' := 27) (show decode cX7_note 26 = .ok (.iastore, 1) by decide +kernel) rfl (la_m hL ax2) eμ4 ?_
  replace hL := hL.same (hm_sd_s eμ4)
  refine tr_aload_n (pc' := 28) (show decode cX7_note 27 = .ok (.aload_n 1, 1) by decide +kernel) rfl rfl rfl ?_
  refine tr_getR (pc' := 31) fl_HandRing_Steps_35 (show decode cX7_note 28 = .ok (.getfield 35, 3) by decide +kernel) rfl (la_vo hL hv1) (la_v1 hL hv1) ?_
  refine tr_iconst (pc' := 32) (v := (0 : Int32)) (show decode cX7_note 31 = .ok (.iconst 0, 1) by decide +kernel) rfl (by decide) ?_
  refine tr_aload_n (pc' := 33) (show decode cX7_note 32 = .ok (.aload_n 2, 1) by decide +kernel) rfl rfl rfl ?_
  refine tr_iconst (pc' := 34) (v := (2 : Int32)) (show decode cX7_note 33 = .ok (.iconst 2, 1) by decide +kernel) rfl (by decide) ?_
  refine tr_bipush (pc' := 36) (v := (8 : Int32)) (show decode cX7_note 34 = .ok (.bipush 8, 2) by decide +kernel) rfl (by decide) ?_
  obtain ⟨μ5, eμ5, h⟩ := hm_bs h
  refine tp_cp (pc' := 39) lk_HandRing_Steps_20 kw_ac_n kw_ac_s kw_Sys_i (show decode cX7_note 36 = .ok (.invokestatic 20, 3) by decide +kernel) rfl (Nat.le_of_ble_eq_true rfl) (by omega) (la_va1 hL hv1) (la_m hL ax2) eμ5 ?_
  replace hL := hL.same (hm_cp_s eμ5)
  refine tr_aload_n (pc' := 40) (show decode cX7_note 39 = .ok (.aload_n 1, 1) by decide +kernel) rfl rfl rfl ?_
  refine tr_getR (pc' := 43) fl_HandRing_Steps_38 (show decode cX7_note 40 = .ok (.getfield 38, 3) by decide +kernel) rfl (la_vo hL hv1) (la_v2 hL hv1) ?_
  refine tr_iconst (pc' := 44) (v := (0 : Int32)) (show decode cX7_note 43 = .ok (.iconst 0, 1) by decide +kernel) rfl (by decide) ?_
  refine tr_aload_n (pc' := 45) (show decode cX7_note 44 = .ok (.aload_n 2, 1) by decide +kernel) rfl rfl rfl ?_
  refine tr_bipush (pc' := 47) (v := (10 : Int32)) (show decode cX7_note 45 = .ok (.bipush 10, 2) by decide +kernel) rfl (by decide) ?_
  refine tr_bipush (pc' := 49) (v := (8 : Int32)) (show decode cX7_note 47 = .ok (.bipush 8, 2) by decide +kernel) rfl (by decide) ?_
  obtain ⟨μ6, eμ6, h⟩ := hm_bs h
  refine tp_cp (pc' := 52) lk_HandRing_Steps_20 kw_ac_n kw_ac_s kw_Sys_i (show decode cX7_note 49 = .ok (.invokestatic 20, 3) by decide +kernel) rfl (Nat.le_of_ble_eq_true rfl) (by omega) (la_va2 hL hv1) (la_m hL ax2) eμ6 ?_
  replace hL := hL.same (hm_cp_s eμ6)
  refine tr_aload_n (pc' := 53) (show decode cX7_note 52 = .ok (.aload_n 1, 1) by decide +kernel) rfl rfl rfl ?_
  refine tr_getR (pc' := 56) fl_HandRing_Steps_41 (show decode cX7_note 53 = .ok (.getfield 41, 3) by decide +kernel) rfl (la_vo hL hv1) (la_v4 hL hv1) ?_
  refine tr_iconst (pc' := 57) (v := (0 : Int32)) (show decode cX7_note 56 = .ok (.iconst 0, 1) by decide +kernel) rfl (by decide) ?_
  refine tr_aload_n (pc' := 58) (show decode cX7_note 57 = .ok (.aload_n 2, 1) by decide +kernel) rfl rfl rfl ?_
  refine tr_bipush (pc' := 60) (v := (18 : Int32)) (show decode cX7_note 58 = .ok (.bipush 18, 2) by decide +kernel) rfl (by decide) ?_
  refine tr_bipush (pc' := 62) (v := (8 : Int32)) (show decode cX7_note 60 = .ok (.bipush 8, 2) by decide +kernel) rfl (by decide) ?_
  obtain ⟨μ7, eμ7, h⟩ := hm_bs h
  refine tp_cp (pc' := 65) lk_HandRing_Steps_20 kw_ac_n kw_ac_s kw_Sys_i (show decode cX7_note 62 = .ok (.invokestatic 20, 3) by decide +kernel) rfl (Nat.le_of_ble_eq_true rfl) (by omega) (la_va4 hL hv1) (la_m hL ax2) eμ7 ?_
  replace hL := hL.same (hm_cp_s eμ7)
  cases h
  exact tr_vret rfl (show decode cX7_note 65 = .ok (.return_, 1) by decide +kernel) hL
def f_X8_has (o0 : Nat) (v1 : Int32) (μ : hm_M) : Option Int32 :=
  (if v1 < 0 then
  some (0 : Int32)
  else
  (if (μ.1 o0 0) ≤ v1 then
  some (0 : Int32)
  else
  some (1 : Int32)))
set_option maxRecDepth 100000 in
theorem ok_X8_has {fr : Nat} (hfr : 0 ≤ fr) {ν : hm_N} {r : Int32}  (o0 : Nat) (v1 : Int32) (ho0 : hm_V o0) (μ : hm_M) (hL : hm_LL ν μ) (h : f_X8_has o0 v1 μ = some r) : hm_CC (hm_LL ν) m_X8_has fr 0 0 [.ref o0, .int v1] μ (some (.int r)) μ := by
  refine hm_enter (lv := [some (.ref o0), some (.int v1)]) (by decide) rfl (Nat.le_of_ble_eq_true rfl) ?_
  unfold f_X8_has at h
  refine tr_iload_n (pc' := 1) (show decode cX8_has 0 = .ok (.iload_n 1, 1) by decide +kernel) rfl rfl rfl ?_
  rcases hm_is h with ⟨hc, h⟩ | ⟨hc, h⟩
  · refine tr_if_lt_t (tgt := 16) hc (show decode cX8_has 1 = .ok (.ifCond .lt 15, 3) by decide +kernel) (by decide) ?_
    refine tr_iconst (pc' := 17) (v := (0 : Int32)) (show decode cX8_has 16 = .ok (.iconst 0, 1) by decide +kernel) rfl (by decide) ?_
    cases h
    exact tr_zret rfl (by decide) (show decode cX8_has 17 = .ok (.ireturn, 1) by decide +kernel) hL
  · refine tr_if_lt_f (tgt := 16) (pc' := 4) hc (show decode cX8_has 1 = .ok (.ifCond .lt 15, 3) by decide +kernel) (by decide) rfl ?_
    refine tr_iload_n (pc' := 5) (show decode cX8_has 4 = .ok (.iload_n 1, 1) by decide +kernel) rfl rfl rfl ?_
    refine tr_aload_n (pc' := 6) (show decode cX8_has 5 = .ok (.aload_n 0, 1) by decide +kernel) rfl rfl rfl ?_
    refine tr_getI (pc' := 9) fl_HandRing_Village_55 (show decode cX8_has 6 = .ok (.getfield 55, 3) by decide +kernel) rfl (la_vo hL ho0) ?_
    rcases hm_is h with ⟨hc, h⟩ | ⟨hc, h⟩
    · refine tr_icmp_ge_t (tgt := 16) hc (show decode cX8_has 9 = .ok (.if_icmp .ge 7, 3) by decide +kernel) (by decide) ?_
      refine tr_iconst (pc' := 17) (v := (0 : Int32)) (show decode cX8_has 16 = .ok (.iconst 0, 1) by decide +kernel) rfl (by decide) ?_
      cases h
      exact tr_zret rfl (by decide) (show decode cX8_has 17 = .ok (.ireturn, 1) by decide +kernel) hL
    · refine tr_icmp_ge_f (tgt := 16) (pc' := 12) hc (show decode cX8_has 9 = .ok (.if_icmp .ge 7, 3) by decide +kernel) (by decide) rfl ?_
      refine tr_iconst (pc' := 13) (v := (1 : Int32)) (show decode cX8_has 12 = .ok (.iconst 1, 1) by decide +kernel) rfl (by decide) ?_
      refine tr_goto (tgt := 17) (show decode cX8_has 13 = .ok (.goto 4, 3) by decide +kernel) rfl ?_
      cases h
      exact tr_zret rfl (by decide) (show decode cX8_has 17 = .ok (.ireturn, 1) by decide +kernel) hL
def f_X8_hasLaw (o0 : Nat) (v1 : Int32) (μ : hm_M) : Option Int32 :=
  (if v1 < 0 then
  some (0 : Int32)
  else
  (if (μ.1 o0 7) ≤ v1 then
  some (0 : Int32)
  else
  some (1 : Int32)))
set_option maxRecDepth 100000 in
theorem ok_X8_hasLaw {fr : Nat} (hfr : 0 ≤ fr) {ν : hm_N} {r : Int32}  (o0 : Nat) (v1 : Int32) (ho0 : hm_V o0) (μ : hm_M) (hL : hm_LL ν μ) (h : f_X8_hasLaw o0 v1 μ = some r) : hm_CC (hm_LL ν) m_X8_hasLaw fr 0 0 [.ref o0, .int v1] μ (some (.int r)) μ := by
  refine hm_enter (lv := [some (.ref o0), some (.int v1)]) (by decide) rfl (Nat.le_of_ble_eq_true rfl) ?_
  unfold f_X8_hasLaw at h
  refine tr_iload_n (pc' := 1) (show decode cX8_hasLaw 0 = .ok (.iload_n 1, 1) by decide +kernel) rfl rfl rfl ?_
  rcases hm_is h with ⟨hc, h⟩ | ⟨hc, h⟩
  · refine tr_if_lt_t (tgt := 16) hc (show decode cX8_hasLaw 1 = .ok (.ifCond .lt 15, 3) by decide +kernel) (by decide) ?_
    refine tr_iconst (pc' := 17) (v := (0 : Int32)) (show decode cX8_hasLaw 16 = .ok (.iconst 0, 1) by decide +kernel) rfl (by decide) ?_
    cases h
    exact tr_zret rfl (by decide) (show decode cX8_hasLaw 17 = .ok (.ireturn, 1) by decide +kernel) hL
  · refine tr_if_lt_f (tgt := 16) (pc' := 4) hc (show decode cX8_hasLaw 1 = .ok (.ifCond .lt 15, 3) by decide +kernel) (by decide) rfl ?_
    refine tr_iload_n (pc' := 5) (show decode cX8_hasLaw 4 = .ok (.iload_n 1, 1) by decide +kernel) rfl rfl rfl ?_
    refine tr_aload_n (pc' := 6) (show decode cX8_hasLaw 5 = .ok (.aload_n 0, 1) by decide +kernel) rfl rfl rfl ?_
    refine tr_getI (pc' := 9) fl_HandRing_Village_58 (show decode cX8_hasLaw 6 = .ok (.getfield 58, 3) by decide +kernel) rfl (la_vo hL ho0) ?_
    rcases hm_is h with ⟨hc, h⟩ | ⟨hc, h⟩
    · refine tr_icmp_ge_t (tgt := 16) hc (show decode cX8_hasLaw 9 = .ok (.if_icmp .ge 7, 3) by decide +kernel) (by decide) ?_
      refine tr_iconst (pc' := 17) (v := (0 : Int32)) (show decode cX8_hasLaw 16 = .ok (.iconst 0, 1) by decide +kernel) rfl (by decide) ?_
      cases h
      exact tr_zret rfl (by decide) (show decode cX8_hasLaw 17 = .ok (.ireturn, 1) by decide +kernel) hL
    · refine tr_icmp_ge_f (tgt := 16) (pc' := 12) hc (show decode cX8_hasLaw 9 = .ok (.if_icmp .ge 7, 3) by decide +kernel) (by decide) rfl ?_
      refine tr_iconst (pc' := 13) (v := (1 : Int32)) (show decode cX8_hasLaw 12 = .ok (.iconst 1, 1) by decide +kernel) rfl (by decide) ?_
      refine tr_goto (tgt := 17) (show decode cX8_hasLaw 13 = .ok (.goto 4, 3) by decide +kernel) rfl ?_
      cases h
      exact tr_zret rfl (by decide) (show decode cX8_hasLaw 17 = .ok (.ireturn, 1) by decide +kernel) hL
def f_X8_lawInForce (o0 : Nat) (μ : hm_M) : Option (Option Nat) :=
  Option.bind (f_X8_hasLaw o0 (μ.1 o0 8) μ) fun x2 =>
  (if x2 = 0 then
  some none
  else
  Option.bind (hm_ldR μ (o0 + 6) 6 (μ.1 o0 8)) fun x3 =>
  some x3)
set_option maxRecDepth 100000 in
theorem ok_X8_lawInForce {fr : Nat} (hfr : 1 ≤ fr) {ν : hm_N} {r : Option Nat}  (o0 : Nat) (ho0 : hm_V o0) (μ : hm_M) (hL : hm_LL ν μ) (h : f_X8_lawInForce o0 μ = some r) : hm_CC (hm_LL ν) m_X8_lawInForce fr 0 0 [.ref o0] μ (some (va_rf r)) μ := by
  refine hm_enter (lv := [some (.ref o0)]) (by decide) rfl (Nat.le_of_ble_eq_true rfl) ?_
  unfold f_X8_lawInForce at h
  refine tr_aload_n (pc' := 1) (show decode cX8_lawInForce 0 = .ok (.aload_n 0, 1) by decide +kernel) rfl rfl rfl ?_
  refine tr_aload_n (pc' := 2) (show decode cX8_lawInForce 1 = .ok (.aload_n 0, 1) by decide +kernel) rfl rfl rfl ?_
  refine tr_getI (pc' := 5) fl_HandRing_Village_33 (show decode cX8_lawInForce 2 = .ok (.getfield 33, 3) by decide +kernel) rfl (la_vo hL ho0) ?_
  obtain ⟨x2, ex2, h⟩ := hm_bs h
  have cx2 := ok_X8_hasLaw (fr := fr - 1) (ν := ν) (by omega) o0 (μ.1 o0 8) ho0 μ hL ex2
  refine tp_callV (pc' := 8) (As := [.int (μ.1 o0 8)]) (fr1 := fr - 1) (ci := 8) okm_X8_hasLaw lk_HandRing_Village_64 (show decode cX8_lawInForce 5 = .ok (.invokevirtual 64, 3) by decide +kernel) rfl rfl rfl (by decide) (la_vo hL ho0) rfl rfl (Nat.le_of_ble_eq_true rfl) (by omega) cx2 (st' := [.int x2]) rfl ?_
  rcases hm_is h with ⟨hc, h⟩ | ⟨hc, h⟩
  · refine tr_if_eq_t (tgt := 23) hc (show decode cX8_lawInForce 8 = .ok (.ifCond .eq 15, 3) by decide +kernel) (by decide) ?_
    refine tr_null (pc' := 24) (show decode cX8_lawInForce 23 = .ok (.aconst_null, 1) by decide +kernel) rfl ?_
    cases h
    exact tr_aret rfl (Or.inl ⟨_, rfl⟩) (show decode cX8_lawInForce 24 = .ok (.areturn, 1) by decide +kernel) hL
  · refine tr_if_eq_f (tgt := 23) (pc' := 11) hc (show decode cX8_lawInForce 8 = .ok (.ifCond .eq 15, 3) by decide +kernel) (by decide) rfl ?_
    refine tr_aload_n (pc' := 12) (show decode cX8_lawInForce 11 = .ok (.aload_n 0, 1) by decide +kernel) rfl rfl rfl ?_
    refine tr_getR (pc' := 15) fl_HandRing_Village_29 (show decode cX8_lawInForce 12 = .ok (.getfield 29, 3) by decide +kernel) rfl (la_vo hL ho0) (la_v6 hL ho0) ?_
    refine tr_aload_n (pc' := 16) (show decode cX8_lawInForce 15 = .ok (.aload_n 0, 1) by decide +kernel) rfl rfl rfl ?_
    refine tr_getI (pc' := 19) fl_HandRing_Village_33 (show decode cX8_lawInForce 16 = .ok (.getfield 33, 3) by decide +kernel) rfl (la_vo hL ho0) ?_
    obtain ⟨x3, ex3, h⟩ := hm_bs h
    have hx3 := la_law hL ho0 ex3
    refine tp_ldR (pc' := 20) (t0 := 5) (by decide) (fun _ => rfl) rfl (show decode cX8_lawInForce 19 = .ok (.aaload, 1) by decide +kernel) rfl (la_va6 hL ho0) ex3 rfl ?_
    refine tr_goto (tgt := 24) (show decode cX8_lawInForce 20 = .ok (.goto 4, 3) by decide +kernel) rfl ?_
    cases h
    exact tr_aret rfl (Or.inl ⟨_, rfl⟩) (show decode cX8_lawInForce 24 = .ok (.areturn, 1) by decide +kernel) hL
theorem la_lif {ν : hm_N} {μ : hm_M} (hL : hm_LL ν μ) {v : Nat} (hv : hm_V v) {x : Option Nat} (e : f_X8_lawInForce v μ = some x) : ∀ p, x = some p → hm_pg ν p := by
  intro p hp
  unfold f_X8_lawInForce at e
  obtain ⟨x1, -, e⟩ := hm_bs e
  rcases hm_is e with ⟨-, e⟩ | ⟨-, e⟩
  · cases e
    cases hp
  · obtain ⟨x2, e2, e⟩ := hm_bs e
    cases e
    exact la_law hL hv e2 p hp
def f_X8_holdHands (o0 : Nat) (v1 : Int32) (v2 : Int32) (μ : hm_M) : Option Int32 :=
  Option.bind (hm_ld μ (o0 + 4) 8 v1) fun x2 =>
  (if ((x2 >>> (v2 &&& 31)) &&& (1 : Int32)) = (1 : Int32) then
  some (1 : Int32)
  else
  some (0 : Int32))
set_option maxRecDepth 100000 in
theorem ok_X8_holdHands {fr : Nat} (hfr : 0 ≤ fr) {ν : hm_N} {r : Int32}  (o0 : Nat) (v1 : Int32) (v2 : Int32) (ho0 : hm_V o0) (μ : hm_M) (hL : hm_LL ν μ) (h : f_X8_holdHands o0 v1 v2 μ = some r) : hm_CC (hm_LL ν) m_X8_holdHands fr 0 0 [.ref o0, .int v1, .int v2] μ (some (.int r)) μ := by
  refine hm_enter (lv := [some (.ref o0), some (.int v1), some (.int v2)]) (by decide) rfl (Nat.le_of_ble_eq_true rfl) ?_
  unfold f_X8_holdHands at h
  refine tr_aload_n (pc' := 1) (show decode cX8_holdHands 0 = .ok (.aload_n 0, 1) by decide +kernel) rfl rfl rfl ?_
  refine tr_getR (pc' := 4) fl_HandRing_Village_21 (show decode cX8_holdHands 1 = .ok (.getfield 21, 3) by decide +kernel) rfl (la_vo hL ho0) (la_v4 hL ho0) ?_
  refine tr_iload_n (pc' := 5) (show decode cX8_holdHands 4 = .ok (.iload_n 1, 1) by decide +kernel) rfl rfl rfl ?_
  obtain ⟨x2, ex2, h⟩ := hm_bs h
  refine tp_ldI (pc' := 6) (show decode cX8_holdHands 5 = .ok (.iaload, 1) by decide +kernel) rfl (la_va4 hL ho0) ex2 ?_
  refine tr_iload_n (pc' := 7) (show decode cX8_holdHands 6 = .ok (.iload_n 2, 1) by decide +kernel) rfl rfl rfl ?_
  refine tr_ishr (pc' := 8) (show decode cX8_holdHands 7 = .ok (.ishr, 1) by decide +kernel) rfl ?_
  refine tr_iconst (pc' := 9) (v := (1 : Int32)) (show decode cX8_holdHands 8 = .ok (.iconst 1, 1) by decide +kernel) rfl (by decide) ?_
  refine tr_iand (pc' := 10) (show decode cX8_holdHands 9 = .ok (.iand, 1) by decide +kernel) rfl ?_
  refine tr_iconst (pc' := 11) (v := (1 : Int32)) (show decode cX8_holdHands 10 = .ok (.iconst 1, 1) by decide +kernel) rfl (by decide) ?_
  rcases hm_is h with ⟨hc, h⟩ | ⟨hc, h⟩
  · refine tr_icmp_ne_f (tgt := 18) (pc' := 14) hc (show decode cX8_holdHands 11 = .ok (.if_icmp .ne 7, 3) by decide +kernel) (by decide) rfl ?_
    refine tr_iconst (pc' := 15) (v := (1 : Int32)) (show decode cX8_holdHands 14 = .ok (.iconst 1, 1) by decide +kernel) rfl (by decide) ?_
    refine tr_goto (tgt := 19) (show decode cX8_holdHands 15 = .ok (.goto 4, 3) by decide +kernel) rfl ?_
    cases h
    exact tr_zret rfl (by decide) (show decode cX8_holdHands 19 = .ok (.ireturn, 1) by decide +kernel) hL
  · refine tr_icmp_ne_t (tgt := 18) hc (show decode cX8_holdHands 11 = .ok (.if_icmp .ne 7, 3) by decide +kernel) (by decide) ?_
    refine tr_iconst (pc' := 19) (v := (0 : Int32)) (show decode cX8_holdHands 18 = .ok (.iconst 0, 1) by decide +kernel) rfl (by decide) ?_
    cases h
    exact tr_zret rfl (by decide) (show decode cX8_holdHands 19 = .ok (.ireturn, 1) by decide +kernel) hL
def f_X3_canHold (v1 : Nat) (v2 : Option Nat) (v3 : Int32) (v4 : Int32) (μ : hm_M) : Option (Int32 × hm_M) :=
  Option.bind (f_X8_withinReach v1 v3 v4 μ) fun x2 =>
  (if x2 = 0 then
  some ((0 : Int32), μ)
  else
  Option.bind (f_X3_setTwo v1 v3 v4 μ) fun μ4 =>
  hm_b2 (f_X3_lastTold v2 (2 : Int32) μ4) fun x5 μ6 =>
  (if x5 = (2000000000 : Int32) then
  some ((1 : Int32), μ6)
  else
  some ((0 : Int32), μ6)))
set_option maxRecDepth 100000 in
theorem ok_X3_canHold {fr : Nat} (hfr : 3 ≤ fr) {ν : hm_N} {r : Int32} {μR : hm_M}  (v1 : Nat) (v2 : Option Nat) (v3 : Int32) (v4 : Int32) (hv1 : hm_V v1) (hv2 : ∀ p, v2 = some p → hm_pg ν p) (μ : hm_M) (hL : hm_LL ν μ) (h : f_X3_canHold v1 v2 v3 v4 μ = some (r, μR)) : hm_CC (hm_LL ν) m_X3_canHold fr 0 0 [.ref 106, .ref v1, va_rf v2, .int v3, .int v4] μ (some (.int r)) μR := by
  refine hm_enter (lv := [some (.ref 106), some (.ref v1), some (va_rf v2), some (.int v3), some (.int v4)]) (by decide) (by cases v2 <;> rfl) (by cases v2 <;> exact Nat.le_of_ble_eq_true rfl) ?_
  unfold f_X3_canHold at h
  refine tr_aload_n (pc' := 1) (show decode cX3_canHold 0 = .ok (.aload_n 1, 1) by decide +kernel) rfl rfl rfl ?_
  refine tr_iload_n (pc' := 2) (show decode cX3_canHold 1 = .ok (.iload_n 3, 1) by decide +kernel) rfl rfl rfl ?_
  refine tr_iload (pc' := 4) (show decode cX3_canHold 2 = .ok (.iload 4, 2) by decide +kernel) rfl rfl ?_
  obtain ⟨x2, ex2, h⟩ := hm_bs h
  have cx2 := ok_X8_withinReach (fr := fr - 1) (ν := ν) (by omega) v1 v3 v4 hv1 μ hL ex2
  refine tp_callV (pc' := 7) (As := [.int v3, .int v4]) (fr1 := fr - 1) (ci := 8) okm_X8_withinReach lk_HandRing_Judge_43 (show decode cX3_canHold 4 = .ok (.invokevirtual 43, 3) by decide +kernel) rfl rfl rfl (by decide) (la_vo hL hv1) rfl rfl (Nat.le_of_ble_eq_true rfl) (by omega) cx2 (st' := [.int x2]) rfl ?_
  rcases hm_is h with ⟨hc, h⟩ | ⟨hc, h⟩
  · refine tr_if_ne_f (tgt := 12) (pc' := 10) hc (show decode cX3_canHold 7 = .ok (.ifCond .ne 5, 3) by decide +kernel) (by decide) rfl ?_
    refine tr_iconst (pc' := 11) (v := (0 : Int32)) (show decode cX3_canHold 10 = .ok (.iconst 0, 1) by decide +kernel) rfl (by decide) ?_
    cases h
    exact tr_zret rfl (by decide) (show decode cX3_canHold 11 = .ok (.ireturn, 1) by decide +kernel) hL
  · refine tr_if_ne_t (tgt := 12) hc (show decode cX3_canHold 7 = .ok (.ifCond .ne 5, 3) by decide +kernel) (by decide) ?_
    refine tr_aload_n (pc' := 13) (show decode cX3_canHold 12 = .ok (.aload_n 0, 1) by decide +kernel) rfl rfl rfl ?_
    refine tr_aload_n (pc' := 14) (show decode cX3_canHold 13 = .ok (.aload_n 1, 1) by decide +kernel) rfl rfl rfl ?_
    refine tr_iload_n (pc' := 15) (show decode cX3_canHold 14 = .ok (.iload_n 3, 1) by decide +kernel) rfl rfl rfl ?_
    refine tr_iload (pc' := 17) (show decode cX3_canHold 15 = .ok (.iload 4, 2) by decide +kernel) rfl rfl ?_
    obtain ⟨μ4, ex3, h⟩ := hm_bs h
    have cx3 := ok_X3_setTwo (fr := fr - 1) (ν := ν) (by omega) v1 v3 v4 hv1 μ hL ex3
    refine tp_callV (pc' := 20) (As := [.ref v1, .int v3, .int v4]) (fr1 := fr - 1) (ci := 3) okm_X3_setTwo lk_HandRing_Judge_20 (show decode cX3_canHold 17 = .ok (.invokevirtual 20, 3) by decide +kernel) rfl rfl rfl (by decide) (la_o hL (by decide) rfl) rfl rfl (Nat.le_of_ble_eq_true rfl) (by omega) cx3 (st' := []) rfl ?_
    replace hL := cx3.1
    refine tr_aload_n (pc' := 21) (show decode cX3_canHold 20 = .ok (.aload_n 0, 1) by decide +kernel) rfl rfl rfl ?_
    refine tr_aloadq_n (pc' := 22) (show decode cX3_canHold 21 = .ok (.aload_n 2, 1) by decide +kernel) rfl rfl rfl ?_
    refine tr_iconst (pc' := 23) (v := (2 : Int32)) (show decode cX3_canHold 22 = .ok (.iconst 2, 1) by decide +kernel) rfl (by decide) ?_
    obtain ⟨x5, μ6, ex5, h⟩ := hm_b2s h
    have cx5 := ok_X3_lastTold (fr := fr - 1) (ν := ν) (by omega) v2 (2 : Int32) hv2 μ4 hL ex5
    refine tp_callV (pc' := 26) (As := [va_rf v2, .int (2 : Int32)]) (fr1 := fr - 1) (ci := 3) okm_X3_lastTold lk_HandRing_Judge_24 (show decode cX3_canHold 23 = .ok (.invokevirtual 24, 3) by decide +kernel) rfl rfl rfl (by decide) (la_o hL (by decide) rfl) rfl rfl (Nat.le_of_ble_eq_true rfl) (by omega) cx5 (st' := [.int x5]) rfl ?_
    replace hL := cx5.1
    refine tr_ldc (pc' := 28) (v := (2000000000 : Int32)) (show decode cX3_canHold 26 = .ok (.ldc 28, 2) by decide +kernel) rfl kc_HandRing_Judge_28 ?_
    rcases hm_is h with ⟨hc, h⟩ | ⟨hc, h⟩
    · refine tr_icmp_ne_f (tgt := 35) (pc' := 31) hc (show decode cX3_canHold 28 = .ok (.if_icmp .ne 7, 3) by decide +kernel) (by decide) rfl ?_
      refine tr_iconst (pc' := 32) (v := (1 : Int32)) (show decode cX3_canHold 31 = .ok (.iconst 1, 1) by decide +kernel) rfl (by decide) ?_
      refine tr_goto (tgt := 36) (show decode cX3_canHold 32 = .ok (.goto 4, 3) by decide +kernel) rfl ?_
      cases h
      exact tr_zret rfl (by decide) (show decode cX3_canHold 36 = .ok (.ireturn, 1) by decide +kernel) hL
    · refine tr_icmp_ne_t (tgt := 35) hc (show decode cX3_canHold 28 = .ok (.if_icmp .ne 7, 3) by decide +kernel) (by decide) ?_
      refine tr_iconst (pc' := 36) (v := (0 : Int32)) (show decode cX3_canHold 35 = .ok (.iconst 0, 1) by decide +kernel) rfl (by decide) ?_
      cases h
      exact tr_zret rfl (by decide) (show decode cX3_canHold 36 = .ok (.ireturn, 1) by decide +kernel) hL
def f_X8_join (o0 : Nat) (v1 : Int32) (v2 : Int32) (μ : hm_M) : Option hm_M :=
  Option.bind (hm_ld μ (o0 + 4) 8 v1) fun x2 =>
  Option.bind (hm_sd μ (o0 + 4) 8 v1 (x2 ||| ((1 : Int32) <<< (v2 &&& 31)))) fun μ3 =>
  Option.bind (hm_ld μ3 (o0 + 4) 8 v2) fun x4 =>
  Option.bind (hm_sd μ3 (o0 + 4) 8 v2 (x4 ||| ((1 : Int32) <<< (v1 &&& 31)))) fun μ5 =>
  some μ5
set_option maxRecDepth 100000 in
theorem ok_X8_join {fr : Nat} (hfr : 0 ≤ fr) {ν : hm_N} {μR : hm_M}  (o0 : Nat) (v1 : Int32) (v2 : Int32) (ho0 : hm_V o0) (μ : hm_M) (hL : hm_LL ν μ) (h : f_X8_join o0 v1 v2 μ = some μR) : hm_CC (hm_LL ν) m_X8_join fr 0 0 [.ref o0, .int v1, .int v2] μ none μR := by
  refine hm_enter (lv := [some (.ref o0), some (.int v1), some (.int v2)]) (by decide) rfl (Nat.le_of_ble_eq_true rfl) ?_
  unfold f_X8_join at h
  refine tr_aload_n (pc' := 1) (show decode cX8_join 0 = .ok (.aload_n 0, 1) by decide +kernel) rfl rfl rfl ?_
  refine tr_getR (pc' := 4) fl_HandRing_Village_21 (show decode cX8_join 1 = .ok (.getfield 21, 3) by decide +kernel) rfl (la_vo hL ho0) (la_v4 hL ho0) ?_
  refine tr_iload_n (pc' := 5) (show decode cX8_join 4 = .ok (.iload_n 1, 1) by decide +kernel) rfl rfl rfl ?_
  refine tr_dup2 (pc' := 6) (show decode cX8_join 5 = .ok (.dup2, 1) by decide +kernel) rfl rfl rfl ?_
  obtain ⟨x2, ex2, h⟩ := hm_bs h
  refine tp_ldI (pc' := 7) (show decode cX8_join 6 = .ok (.iaload, 1) by decide +kernel) rfl (la_va4 hL ho0) ex2 ?_
  refine tr_iconst (pc' := 8) (v := (1 : Int32)) (show decode cX8_join 7 = .ok (.iconst 1, 1) by decide +kernel) rfl (by decide) ?_
  refine tr_iload_n (pc' := 9) (show decode cX8_join 8 = .ok (.iload_n 2, 1) by decide +kernel) rfl rfl rfl ?_
  refine tr_ishl (pc' := 10) (show decode cX8_join 9 = .ok (.ishl, 1) by decide +kernel) rfl ?_
  refine tr_ior (pc' := 11) (show decode cX8_join 10 = .ok (.ior, 1) by decide +kernel) rfl ?_
  obtain ⟨μ3, eμ3, h⟩ := hm_bs h
  refine tp_sdI (pc' := 12) (show decode cX8_join 11 = .ok (.iastore, 1) by decide +kernel) rfl (la_va4 hL ho0) eμ3 ?_
  replace hL := hL.same (hm_sd_s eμ3)
  refine tr_aload_n (pc' := 13) (show decode cX8_join 12 = .ok (.aload_n 0, 1) by decide +kernel) rfl rfl rfl ?_
  refine tr_getR (pc' := 16) fl_HandRing_Village_21 (show decode cX8_join 13 = .ok (.getfield 21, 3) by decide +kernel) rfl (la_vo hL ho0) (la_v4 hL ho0) ?_
  refine tr_iload_n (pc' := 17) (show decode cX8_join 16 = .ok (.iload_n 2, 1) by decide +kernel) rfl rfl rfl ?_
  refine tr_dup2 (pc' := 18) (show decode cX8_join 17 = .ok (.dup2, 1) by decide +kernel) rfl rfl rfl ?_
  obtain ⟨x4, ex4, h⟩ := hm_bs h
  refine tp_ldI (pc' := 19) (show decode cX8_join 18 = .ok (.iaload, 1) by decide +kernel) rfl (la_va4 hL ho0) ex4 ?_
  refine tr_iconst (pc' := 20) (v := (1 : Int32)) (show decode cX8_join 19 = .ok (.iconst 1, 1) by decide +kernel) rfl (by decide) ?_
  refine tr_iload_n (pc' := 21) (show decode cX8_join 20 = .ok (.iload_n 1, 1) by decide +kernel) rfl rfl rfl ?_
  refine tr_ishl (pc' := 22) (show decode cX8_join 21 = .ok (.ishl, 1) by decide +kernel) rfl ?_
  refine tr_ior (pc' := 23) (show decode cX8_join 22 = .ok (.ior, 1) by decide +kernel) rfl ?_
  obtain ⟨μ5, eμ5, h⟩ := hm_bs h
  refine tp_sdI (pc' := 24) (show decode cX8_join 23 = .ok (.iastore, 1) by decide +kernel) rfl (la_va4 hL ho0) eμ5 ?_
  replace hL := hL.same (hm_sd_s eμ5)
  cases h
  exact tr_vret rfl (show decode cX8_join 24 = .ok (.return_, 1) by decide +kernel) hL
def f_X1_takeHands_J57 (v1 : Nat) (v2 : Int32) (v3 : Int32) (s0 : Int32) (μ1 : hm_M) : Option (Int32 × hm_M) :=
  Option.bind (f_X8_lawInForce v1 μ1) fun x6 =>
  (if s0 = 0 then
  some ((-3 : Int32), μ1)
  else
  Option.bind (f_X8_holdHands v1 v2 v3 μ1) fun x7 =>
  (if x7 = 0 then
  hm_b2 (f_X3_canHold v1 x6 v2 v3 μ1) fun x8 μ9 =>
  (if x8 = 0 then
  some ((-3 : Int32), μ9)
  else
  Option.bind (f_X8_join v1 v2 v3 μ9) fun μ11 =>
  hm_b2 (f_X3_lostBetween v1 x6 v2 v3 μ11) fun x12 μ13 =>
  some (x12, μ13))
  else
  some ((-3 : Int32), μ1)))
theorem ok_X1_takeHands_J57 {fr : Nat} (hfr : 4 ≤ fr) {ν : hm_N} {r : Int32} {μR : hm_M}  (v1 : Nat) (v2 : Int32) (v3 : Int32)   (hv1 : hm_V v1) (s0 : Int32) (μ1 : hm_M) (hL : hm_LL ν μ1) (h : f_X1_takeHands_J57 v1 v2 v3 s0 μ1 = some (r, μR)) : hm_T (hm_LL ν) m_X1_takeHands fr 0 0 (some (.int r)) μR 57 [some (.ref 110), some (.ref v1), some (.int v2), some (.int v3), none, none] [.int s0] μ1 := by
  unfold f_X1_takeHands_J57 at h
  refine tr_istore (pc' := 59) (lv' := [some (.ref 110), some (.ref v1), some (.int v2), some (.int v3), some (.int s0), none]) (show decode cX1_takeHands 57 = .ok (.istore 4, 2) by decide +kernel) rfl (Nat.le_of_ble_eq_true rfl) rfl rfl ?_
  refine tr_aload_n (pc' := 60) (show decode cX1_takeHands 59 = .ok (.aload_n 1, 1) by decide +kernel) rfl rfl rfl ?_
  obtain ⟨x6, ex6, h⟩ := hm_bs h
  have cx6 := ok_X8_lawInForce (fr := fr - 1) (ν := ν) (by omega) v1 hv1 μ1 hL ex6
  refine tp_callV (pc' := 63) (As := []) (fr1 := fr - 1) (ci := 8) okm_X8_lawInForce lk_HandRing_Deeds_65 (show decode cX1_takeHands 60 = .ok (.invokevirtual 65, 3) by decide +kernel) rfl rfl rfl (by decide) (la_vo hL hv1) rfl rfl (Nat.le_of_ble_eq_true rfl) (by omega) cx6 (st' := [va_rf x6]) rfl ?_
  have hx6 := la_lif hL hv1 ex6
  refine tr_astoreq (pc' := 65) (lv' := [some (.ref 110), some (.ref v1), some (.int v2), some (.int v3), some (.int s0), some (va_rf x6)]) (show decode cX1_takeHands 63 = .ok (.astore 5, 2) by decide +kernel) rfl (Nat.le_of_ble_eq_true rfl) rfl rfl ?_
  refine tr_iload (pc' := 67) (show decode cX1_takeHands 65 = .ok (.iload 4, 2) by decide +kernel) rfl rfl ?_
  rcases hm_is h with ⟨hc, h⟩ | ⟨hc, h⟩
  · refine tr_if_eq_t (tgt := 94) hc (show decode cX1_takeHands 67 = .ok (.ifCond .eq 27, 3) by decide +kernel) (by decide) ?_
    refine tr_bipush (pc' := 96) (v := (-3 : Int32)) (show decode cX1_takeHands 94 = .ok (.bipush (-3), 2) by decide +kernel) rfl (by decide) ?_
    cases h
    exact tr_iret rfl (show decode cX1_takeHands 96 = .ok (.ireturn, 1) by decide +kernel) hL
  · refine tr_if_eq_f (tgt := 94) (pc' := 70) hc (show decode cX1_takeHands 67 = .ok (.ifCond .eq 27, 3) by decide +kernel) (by decide) rfl ?_
    refine tr_aload_n (pc' := 71) (show decode cX1_takeHands 70 = .ok (.aload_n 1, 1) by decide +kernel) rfl rfl rfl ?_
    refine tr_iload_n (pc' := 72) (show decode cX1_takeHands 71 = .ok (.iload_n 2, 1) by decide +kernel) rfl rfl rfl ?_
    refine tr_iload_n (pc' := 73) (show decode cX1_takeHands 72 = .ok (.iload_n 3, 1) by decide +kernel) rfl rfl rfl ?_
    obtain ⟨x7, ex7, h⟩ := hm_bs h
    have cx7 := ok_X8_holdHands (fr := fr - 1) (ν := ν) (by omega) v1 v2 v3 hv1 μ1 hL ex7
    refine tp_callV (pc' := 76) (As := [.int v2, .int v3]) (fr1 := fr - 1) (ci := 8) okm_X8_holdHands lk_HandRing_Deeds_69 (show decode cX1_takeHands 73 = .ok (.invokevirtual 69, 3) by decide +kernel) rfl rfl rfl (by decide) (la_vo hL hv1) rfl rfl (Nat.le_of_ble_eq_true rfl) (by omega) cx7 (st' := [.int x7]) rfl ?_
    rcases hm_is h with ⟨hc, h⟩ | ⟨hc, h⟩
    · refine tr_if_ne_f (tgt := 94) (pc' := 79) hc (show decode cX1_takeHands 76 = .ok (.ifCond .ne 18, 3) by decide +kernel) (by decide) rfl ?_
      refine tr_aload_n (pc' := 80) (show decode cX1_takeHands 79 = .ok (.aload_n 0, 1) by decide +kernel) rfl rfl rfl ?_
      refine tr_getR (pc' := 83) fl_HandRing_Deeds_15 (show decode cX1_takeHands 80 = .ok (.getfield 15, 3) by decide +kernel) rfl (la_o hL (by decide) rfl) (la_r hL 54 rfl) ?_
      refine tr_aload_n (pc' := 84) (show decode cX1_takeHands 83 = .ok (.aload_n 1, 1) by decide +kernel) rfl rfl rfl ?_
      refine tr_aloadq (pc' := 86) (show decode cX1_takeHands 84 = .ok (.aload 5, 2) by decide +kernel) rfl rfl ?_
      refine tr_iload_n (pc' := 87) (show decode cX1_takeHands 86 = .ok (.iload_n 2, 1) by decide +kernel) rfl rfl rfl ?_
      refine tr_iload_n (pc' := 88) (show decode cX1_takeHands 87 = .ok (.iload_n 3, 1) by decide +kernel) rfl rfl rfl ?_
      obtain ⟨x8, μ9, ex8, h⟩ := hm_b2s h
      have cx8 := ok_X3_canHold (fr := fr - 1) (ν := ν) (by omega) v1 x6 v2 v3 hv1 hx6 μ1 hL ex8
      refine tp_callV (pc' := 91) (As := [.ref v1, va_rf x6, .int v2, .int v3]) (fr1 := fr - 1) (ci := 3) okm_X3_canHold lk_HandRing_Deeds_73 (show decode cX1_takeHands 88 = .ok (.invokevirtual 73, 3) by decide +kernel) rfl rfl rfl (by decide) (la_o hL (by decide) rfl) rfl rfl (Nat.le_of_ble_eq_true rfl) (by omega) cx8 (st' := [.int x8]) rfl ?_
      replace hL := cx8.1
      rcases hm_is h with ⟨hc, h⟩ | ⟨hc, h⟩
      · refine tr_if_ne_f (tgt := 97) (pc' := 94) hc (show decode cX1_takeHands 91 = .ok (.ifCond .ne 6, 3) by decide +kernel) (by decide) rfl ?_
        refine tr_bipush (pc' := 96) (v := (-3 : Int32)) (show decode cX1_takeHands 94 = .ok (.bipush (-3), 2) by decide +kernel) rfl (by decide) ?_
        cases h
        exact tr_iret rfl (show decode cX1_takeHands 96 = .ok (.ireturn, 1) by decide +kernel) hL
      · refine tr_if_ne_t (tgt := 97) hc (show decode cX1_takeHands 91 = .ok (.ifCond .ne 6, 3) by decide +kernel) (by decide) ?_
        refine tr_aload_n (pc' := 98) (show decode cX1_takeHands 97 = .ok (.aload_n 1, 1) by decide +kernel) rfl rfl rfl ?_
        refine tr_iload_n (pc' := 99) (show decode cX1_takeHands 98 = .ok (.iload_n 2, 1) by decide +kernel) rfl rfl rfl ?_
        refine tr_iload_n (pc' := 100) (show decode cX1_takeHands 99 = .ok (.iload_n 3, 1) by decide +kernel) rfl rfl rfl ?_
        obtain ⟨μ11, ex10, h⟩ := hm_bs h
        have cx10 := ok_X8_join (fr := fr - 1) (ν := ν) (by omega) v1 v2 v3 hv1 μ9 hL ex10
        refine tp_callV (pc' := 103) (As := [.int v2, .int v3]) (fr1 := fr - 1) (ci := 8) okm_X8_join lk_HandRing_Deeds_79 (show decode cX1_takeHands 100 = .ok (.invokevirtual 79, 3) by decide +kernel) rfl rfl rfl (by decide) (la_vo hL hv1) rfl rfl (Nat.le_of_ble_eq_true rfl) (by omega) cx10 (st' := []) rfl ?_
        replace hL := cx10.1
        refine tr_aload_n (pc' := 104) (show decode cX1_takeHands 103 = .ok (.aload_n 0, 1) by decide +kernel) rfl rfl rfl ?_
        refine tr_getR (pc' := 107) fl_HandRing_Deeds_15 (show decode cX1_takeHands 104 = .ok (.getfield 15, 3) by decide +kernel) rfl (la_o hL (by decide) rfl) (la_r hL 54 rfl) ?_
        refine tr_aload_n (pc' := 108) (show decode cX1_takeHands 107 = .ok (.aload_n 1, 1) by decide +kernel) rfl rfl rfl ?_
        refine tr_aloadq (pc' := 110) (show decode cX1_takeHands 108 = .ok (.aload 5, 2) by decide +kernel) rfl rfl ?_
        refine tr_iload_n (pc' := 111) (show decode cX1_takeHands 110 = .ok (.iload_n 2, 1) by decide +kernel) rfl rfl rfl ?_
        refine tr_iload_n (pc' := 112) (show decode cX1_takeHands 111 = .ok (.iload_n 3, 1) by decide +kernel) rfl rfl rfl ?_
        obtain ⟨x12, μ13, ex12, h⟩ := hm_b2s h
        have cx12 := ok_X3_lostBetween (fr := fr - 1) (ν := ν) (by omega) v1 x6 v2 v3 hv1 hx6 μ11 hL ex12
        refine tp_callV (pc' := 115) (As := [.ref v1, va_rf x6, .int v2, .int v3]) (fr1 := fr - 1) (ci := 3) okm_X3_lostBetween lk_HandRing_Deeds_83 (show decode cX1_takeHands 112 = .ok (.invokevirtual 83, 3) by decide +kernel) rfl rfl rfl (by decide) (la_o hL (by decide) rfl) rfl rfl (Nat.le_of_ble_eq_true rfl) (by omega) cx12 (st' := [.int x12]) rfl ?_
        replace hL := cx12.1
        cases h
        exact tr_iret rfl (show decode cX1_takeHands 115 = .ok (.ireturn, 1) by decide +kernel) hL
    · refine tr_if_ne_t (tgt := 94) hc (show decode cX1_takeHands 76 = .ok (.ifCond .ne 18, 3) by decide +kernel) (by decide) ?_
      refine tr_bipush (pc' := 96) (v := (-3 : Int32)) (show decode cX1_takeHands 94 = .ok (.bipush (-3), 2) by decide +kernel) rfl (by decide) ?_
      cases h
      exact tr_iret rfl (show decode cX1_takeHands 96 = .ok (.ireturn, 1) by decide +kernel) hL
def f_X1_takeHands_J56 (v1 : Nat) (v2 : Int32) (v3 : Int32) (μ1 : hm_M) : Option (Int32 × hm_M) :=
  f_X1_takeHands_J57 v1 v2 v3 (0 : Int32) μ1
theorem ok_X1_takeHands_J56 {fr : Nat} (hfr : 4 ≤ fr) {ν : hm_N} {r : Int32} {μR : hm_M}  (v1 : Nat) (v2 : Int32) (v3 : Int32)   (hv1 : hm_V v1)  (μ1 : hm_M) (hL : hm_LL ν μ1) (h : f_X1_takeHands_J56 v1 v2 v3 μ1 = some (r, μR)) : hm_T (hm_LL ν) m_X1_takeHands fr 0 0 (some (.int r)) μR 56 [some (.ref 110), some (.ref v1), some (.int v2), some (.int v3), none, none] [] μ1 := by
  unfold f_X1_takeHands_J56 at h
  refine tr_iconst (pc' := 57) (v := (0 : Int32)) (show decode cX1_takeHands 56 = .ok (.iconst 0, 1) by decide +kernel) rfl (by decide) ?_
  exact ok_X1_takeHands_J57 hfr _ _ _ hv1 (0 : Int32) μ1 hL h
def f_X1_takeHands (v1 : Nat) (v2 : Int32) (v3 : Int32) (μ : hm_M) : Option (Int32 × hm_M) :=
  (if v2 = v3 then
  some ((-1 : Int32), μ)
  else
  Option.bind (f_X8_has v1 v2 μ) fun x2 =>
  (if x2 = 0 then
  some ((-2 : Int32), μ)
  else
  Option.bind (f_X8_has v1 v3 μ) fun x3 =>
  (if x3 = 0 then
  some ((-2 : Int32), μ)
  else
  Option.bind (hm_ld μ (v1 + 4) 8 v2) fun x4 =>
  Option.bind (f_J6_bitCount_0f7a4 x4) fun x5 =>
  (if (2 : Int32) ≤ x5 then
  f_X1_takeHands_J56 v1 v2 v3 μ
  else
  Option.bind (hm_ld μ (v1 + 4) 8 v3) fun x14 =>
  Option.bind (f_J6_bitCount_0f7a4 x14) fun x15 =>
  (if (2 : Int32) ≤ x15 then
  f_X1_takeHands_J56 v1 v2 v3 μ
  else
  f_X1_takeHands_J57 v1 v2 v3 (1 : Int32) μ)))))
set_option maxRecDepth 100000 in
theorem ok_X1_takeHands {fr : Nat} (hfr : 4 ≤ fr) {ν : hm_N} {r : Int32} {μR : hm_M}  (v1 : Nat) (v2 : Int32) (v3 : Int32) (hv1 : hm_V v1) (μ : hm_M) (hL : hm_LL ν μ) (h : f_X1_takeHands v1 v2 v3 μ = some (r, μR)) : hm_CC (hm_LL ν) m_X1_takeHands fr 0 0 [.ref 110, .ref v1, .int v2, .int v3] μ (some (.int r)) μR := by
  refine hm_enter (lv := [some (.ref 110), some (.ref v1), some (.int v2), some (.int v3), none, none]) (by decide) rfl (Nat.le_of_ble_eq_true rfl) ?_
  unfold f_X1_takeHands at h
  refine tr_iload_n (pc' := 1) (show decode cX1_takeHands 0 = .ok (.iload_n 2, 1) by decide +kernel) rfl rfl rfl ?_
  refine tr_iload_n (pc' := 2) (show decode cX1_takeHands 1 = .ok (.iload_n 3, 1) by decide +kernel) rfl rfl rfl ?_
  rcases hm_is h with ⟨hc, h⟩ | ⟨hc, h⟩
  · refine tr_icmp_ne_f (tgt := 7) (pc' := 5) hc (show decode cX1_takeHands 2 = .ok (.if_icmp .ne 5, 3) by decide +kernel) (by decide) rfl ?_
    refine tr_iconst (pc' := 6) (v := (-1 : Int32)) (show decode cX1_takeHands 5 = .ok (.iconst (-1), 1) by decide +kernel) rfl (by decide) ?_
    cases h
    exact tr_iret rfl (show decode cX1_takeHands 6 = .ok (.ireturn, 1) by decide +kernel) hL
  · refine tr_icmp_ne_t (tgt := 7) hc (show decode cX1_takeHands 2 = .ok (.if_icmp .ne 5, 3) by decide +kernel) (by decide) ?_
    refine tr_aload_n (pc' := 8) (show decode cX1_takeHands 7 = .ok (.aload_n 1, 1) by decide +kernel) rfl rfl rfl ?_
    refine tr_iload_n (pc' := 9) (show decode cX1_takeHands 8 = .ok (.iload_n 2, 1) by decide +kernel) rfl rfl rfl ?_
    obtain ⟨x2, ex2, h⟩ := hm_bs h
    have cx2 := ok_X8_has (fr := fr - 1) (ν := ν) (by omega) v1 v2 hv1 μ hL ex2
    refine tp_callV (pc' := 12) (As := [.int v2]) (fr1 := fr - 1) (ci := 8) okm_X8_has lk_HandRing_Deeds_50 (show decode cX1_takeHands 9 = .ok (.invokevirtual 50, 3) by decide +kernel) rfl rfl rfl (by decide) (la_vo hL hv1) rfl rfl (Nat.le_of_ble_eq_true rfl) (by omega) cx2 (st' := [.int x2]) rfl ?_
    rcases hm_is h with ⟨hc, h⟩ | ⟨hc, h⟩
    · refine tr_if_eq_t (tgt := 23) hc (show decode cX1_takeHands 12 = .ok (.ifCond .eq 11, 3) by decide +kernel) (by decide) ?_
      refine tr_bipush (pc' := 25) (v := (-2 : Int32)) (show decode cX1_takeHands 23 = .ok (.bipush (-2), 2) by decide +kernel) rfl (by decide) ?_
      cases h
      exact tr_iret rfl (show decode cX1_takeHands 25 = .ok (.ireturn, 1) by decide +kernel) hL
    · refine tr_if_eq_f (tgt := 23) (pc' := 15) hc (show decode cX1_takeHands 12 = .ok (.ifCond .eq 11, 3) by decide +kernel) (by decide) rfl ?_
      refine tr_aload_n (pc' := 16) (show decode cX1_takeHands 15 = .ok (.aload_n 1, 1) by decide +kernel) rfl rfl rfl ?_
      refine tr_iload_n (pc' := 17) (show decode cX1_takeHands 16 = .ok (.iload_n 3, 1) by decide +kernel) rfl rfl rfl ?_
      obtain ⟨x3, ex3, h⟩ := hm_bs h
      have cx3 := ok_X8_has (fr := fr - 1) (ν := ν) (by omega) v1 v3 hv1 μ hL ex3
      refine tp_callV (pc' := 20) (As := [.int v3]) (fr1 := fr - 1) (ci := 8) okm_X8_has lk_HandRing_Deeds_50 (show decode cX1_takeHands 17 = .ok (.invokevirtual 50, 3) by decide +kernel) rfl rfl rfl (by decide) (la_vo hL hv1) rfl rfl (Nat.le_of_ble_eq_true rfl) (by omega) cx3 (st' := [.int x3]) rfl ?_
      rcases hm_is h with ⟨hc, h⟩ | ⟨hc, h⟩
      · refine tr_if_ne_f (tgt := 26) (pc' := 23) hc (show decode cX1_takeHands 20 = .ok (.ifCond .ne 6, 3) by decide +kernel) (by decide) rfl ?_
        refine tr_bipush (pc' := 25) (v := (-2 : Int32)) (show decode cX1_takeHands 23 = .ok (.bipush (-2), 2) by decide +kernel) rfl (by decide) ?_
        cases h
        exact tr_iret rfl (show decode cX1_takeHands 25 = .ok (.ireturn, 1) by decide +kernel) hL
      · refine tr_if_ne_t (tgt := 26) hc (show decode cX1_takeHands 20 = .ok (.ifCond .ne 6, 3) by decide +kernel) (by decide) ?_
        refine tr_aload_n (pc' := 27) (show decode cX1_takeHands 26 = .ok (.aload_n 1, 1) by decide +kernel) rfl rfl rfl ?_
        refine tr_getR (pc' := 30) fl_HandRing_Deeds_56 (show decode cX1_takeHands 27 = .ok (.getfield 56, 3) by decide +kernel) rfl (la_vo hL hv1) (la_v4 hL hv1) ?_
        refine tr_iload_n (pc' := 31) (show decode cX1_takeHands 30 = .ok (.iload_n 2, 1) by decide +kernel) rfl rfl rfl ?_
        obtain ⟨x4, ex4, h⟩ := hm_bs h
        refine tp_ldI (pc' := 32) (show decode cX1_takeHands 31 = .ok (.iaload, 1) by decide +kernel) rfl (la_va4 hL hv1) ex4 ?_
        obtain ⟨x5, ex5, h⟩ := hm_bs h
        have cx5 := ok_J6_bitCount_0f7a4 (fr := fr - 1) (ν := ν) (by omega) x4 μ hL ex5
        refine tp_callS (pc' := 35) (As := [.int x4]) (fr1 := fr - 1) okm_J6_bitCount_0f7a4 lk_HandRing_Deeds_59 (show decode cX1_takeHands 32 = .ok (.invokestatic 59, 3) by decide +kernel) rfl rfl rfl (Nat.le_of_ble_eq_true rfl) (by omega) cx5 (st' := [.int x5]) rfl ?_
        refine tr_iconst (pc' := 36) (v := (2 : Int32)) (show decode cX1_takeHands 35 = .ok (.iconst 2, 1) by decide +kernel) rfl (by decide) ?_
        rcases hm_is h with ⟨hc, h⟩ | ⟨hc, h⟩
        · refine tr_icmp_ge_t (tgt := 56) hc (show decode cX1_takeHands 36 = .ok (.if_icmp .ge 20, 3) by decide +kernel) (by decide) ?_
          exact ok_X1_takeHands_J56 hfr _ _ _ hv1 μ hL h
        · refine tr_icmp_ge_f (tgt := 56) (pc' := 39) hc (show decode cX1_takeHands 36 = .ok (.if_icmp .ge 20, 3) by decide +kernel) (by decide) rfl ?_
          refine tr_aload_n (pc' := 40) (show decode cX1_takeHands 39 = .ok (.aload_n 1, 1) by decide +kernel) rfl rfl rfl ?_
          refine tr_getR (pc' := 43) fl_HandRing_Deeds_56 (show decode cX1_takeHands 40 = .ok (.getfield 56, 3) by decide +kernel) rfl (la_vo hL hv1) (la_v4 hL hv1) ?_
          refine tr_iload_n (pc' := 44) (show decode cX1_takeHands 43 = .ok (.iload_n 3, 1) by decide +kernel) rfl rfl rfl ?_
          obtain ⟨x14, ex14, h⟩ := hm_bs h
          refine tp_ldI (pc' := 45) (show decode cX1_takeHands 44 = .ok (.iaload, 1) by decide +kernel) rfl (la_va4 hL hv1) ex14 ?_
          obtain ⟨x15, ex15, h⟩ := hm_bs h
          have cx15 := ok_J6_bitCount_0f7a4 (fr := fr - 1) (ν := ν) (by omega) x14 μ hL ex15
          refine tp_callS (pc' := 48) (As := [.int x14]) (fr1 := fr - 1) okm_J6_bitCount_0f7a4 lk_HandRing_Deeds_59 (show decode cX1_takeHands 45 = .ok (.invokestatic 59, 3) by decide +kernel) rfl rfl rfl (Nat.le_of_ble_eq_true rfl) (by omega) cx15 (st' := [.int x15]) rfl ?_
          refine tr_iconst (pc' := 49) (v := (2 : Int32)) (show decode cX1_takeHands 48 = .ok (.iconst 2, 1) by decide +kernel) rfl (by decide) ?_
          rcases hm_is h with ⟨hc, h⟩ | ⟨hc, h⟩
          · refine tr_icmp_ge_t (tgt := 56) hc (show decode cX1_takeHands 49 = .ok (.if_icmp .ge 7, 3) by decide +kernel) (by decide) ?_
            exact ok_X1_takeHands_J56 hfr _ _ _ hv1 μ hL h
          · refine tr_icmp_ge_f (tgt := 56) (pc' := 52) hc (show decode cX1_takeHands 49 = .ok (.if_icmp .ge 7, 3) by decide +kernel) (by decide) rfl ?_
            refine tr_iconst (pc' := 53) (v := (1 : Int32)) (show decode cX1_takeHands 52 = .ok (.iconst 1, 1) by decide +kernel) rfl (by decide) ?_
            refine tr_goto (tgt := 57) (show decode cX1_takeHands 53 = .ok (.goto 4, 3) by decide +kernel) rfl ?_
            exact ok_X1_takeHands_J57 hfr _ _ _ hv1 (1 : Int32) μ hL h
def f_X8_part (o0 : Nat) (v1 : Int32) (v2 : Int32) (μ : hm_M) : Option hm_M :=
  Option.bind (hm_ld μ (o0 + 4) 8 v1) fun x2 =>
  Option.bind (hm_sd μ (o0 + 4) 8 v1 (x2 &&& (((1 : Int32) <<< (v2 &&& 31)) ^^^ (-1 : Int32)))) fun μ3 =>
  Option.bind (hm_ld μ3 (o0 + 4) 8 v2) fun x4 =>
  Option.bind (hm_sd μ3 (o0 + 4) 8 v2 (x4 &&& (((1 : Int32) <<< (v1 &&& 31)) ^^^ (-1 : Int32)))) fun μ5 =>
  some μ5
set_option maxRecDepth 100000 in
theorem ok_X8_part {fr : Nat} (hfr : 0 ≤ fr) {ν : hm_N} {μR : hm_M}  (o0 : Nat) (v1 : Int32) (v2 : Int32) (ho0 : hm_V o0) (μ : hm_M) (hL : hm_LL ν μ) (h : f_X8_part o0 v1 v2 μ = some μR) : hm_CC (hm_LL ν) m_X8_part fr 0 0 [.ref o0, .int v1, .int v2] μ none μR := by
  refine hm_enter (lv := [some (.ref o0), some (.int v1), some (.int v2)]) (by decide) rfl (Nat.le_of_ble_eq_true rfl) ?_
  unfold f_X8_part at h
  refine tr_aload_n (pc' := 1) (show decode cX8_part 0 = .ok (.aload_n 0, 1) by decide +kernel) rfl rfl rfl ?_
  refine tr_getR (pc' := 4) fl_HandRing_Village_21 (show decode cX8_part 1 = .ok (.getfield 21, 3) by decide +kernel) rfl (la_vo hL ho0) (la_v4 hL ho0) ?_
  refine tr_iload_n (pc' := 5) (show decode cX8_part 4 = .ok (.iload_n 1, 1) by decide +kernel) rfl rfl rfl ?_
  refine tr_dup2 (pc' := 6) (show decode cX8_part 5 = .ok (.dup2, 1) by decide +kernel) rfl rfl rfl ?_
  obtain ⟨x2, ex2, h⟩ := hm_bs h
  refine tp_ldI (pc' := 7) (show decode cX8_part 6 = .ok (.iaload, 1) by decide +kernel) rfl (la_va4 hL ho0) ex2 ?_
  refine tr_iconst (pc' := 8) (v := (1 : Int32)) (show decode cX8_part 7 = .ok (.iconst 1, 1) by decide +kernel) rfl (by decide) ?_
  refine tr_iload_n (pc' := 9) (show decode cX8_part 8 = .ok (.iload_n 2, 1) by decide +kernel) rfl rfl rfl ?_
  refine tr_ishl (pc' := 10) (show decode cX8_part 9 = .ok (.ishl, 1) by decide +kernel) rfl ?_
  refine tr_iconst (pc' := 11) (v := (-1 : Int32)) (show decode cX8_part 10 = .ok (.iconst (-1), 1) by decide +kernel) rfl (by decide) ?_
  refine tr_ixor (pc' := 12) (show decode cX8_part 11 = .ok (.ixor, 1) by decide +kernel) rfl ?_
  refine tr_iand (pc' := 13) (show decode cX8_part 12 = .ok (.iand, 1) by decide +kernel) rfl ?_
  obtain ⟨μ3, eμ3, h⟩ := hm_bs h
  refine tp_sdI (pc' := 14) (show decode cX8_part 13 = .ok (.iastore, 1) by decide +kernel) rfl (la_va4 hL ho0) eμ3 ?_
  replace hL := hL.same (hm_sd_s eμ3)
  refine tr_aload_n (pc' := 15) (show decode cX8_part 14 = .ok (.aload_n 0, 1) by decide +kernel) rfl rfl rfl ?_
  refine tr_getR (pc' := 18) fl_HandRing_Village_21 (show decode cX8_part 15 = .ok (.getfield 21, 3) by decide +kernel) rfl (la_vo hL ho0) (la_v4 hL ho0) ?_
  refine tr_iload_n (pc' := 19) (show decode cX8_part 18 = .ok (.iload_n 2, 1) by decide +kernel) rfl rfl rfl ?_
  refine tr_dup2 (pc' := 20) (show decode cX8_part 19 = .ok (.dup2, 1) by decide +kernel) rfl rfl rfl ?_
  obtain ⟨x4, ex4, h⟩ := hm_bs h
  refine tp_ldI (pc' := 21) (show decode cX8_part 20 = .ok (.iaload, 1) by decide +kernel) rfl (la_va4 hL ho0) ex4 ?_
  refine tr_iconst (pc' := 22) (v := (1 : Int32)) (show decode cX8_part 21 = .ok (.iconst 1, 1) by decide +kernel) rfl (by decide) ?_
  refine tr_iload_n (pc' := 23) (show decode cX8_part 22 = .ok (.iload_n 1, 1) by decide +kernel) rfl rfl rfl ?_
  refine tr_ishl (pc' := 24) (show decode cX8_part 23 = .ok (.ishl, 1) by decide +kernel) rfl ?_
  refine tr_iconst (pc' := 25) (v := (-1 : Int32)) (show decode cX8_part 24 = .ok (.iconst (-1), 1) by decide +kernel) rfl (by decide) ?_
  refine tr_ixor (pc' := 26) (show decode cX8_part 25 = .ok (.ixor, 1) by decide +kernel) rfl ?_
  refine tr_iand (pc' := 27) (show decode cX8_part 26 = .ok (.iand, 1) by decide +kernel) rfl ?_
  obtain ⟨μ5, eμ5, h⟩ := hm_bs h
  refine tp_sdI (pc' := 28) (show decode cX8_part 27 = .ok (.iastore, 1) by decide +kernel) rfl (la_va4 hL ho0) eμ5 ?_
  replace hL := hL.same (hm_sd_s eμ5)
  cases h
  exact tr_vret rfl (show decode cX8_part 28 = .ok (.return_, 1) by decide +kernel) hL
def f_X8_countHolds_L4 (o0 : Nat) (e30 : Int32 → hm_M → Option Int32) : Nat → Int32 → Int32 → hm_M → Option Int32
  | 0, _, _, _ => none
  | n + 1, y1, y2, μ1 => (if (μ1.1 o0 0) ≤ y2 then
  e30 y1 μ1
  else
  Option.bind (hm_ld μ1 (o0 + 4) 8 y2) fun x2 =>
  Option.bind (f_J6_bitCount_0f7a4 x2) fun x3 =>
  (f_X8_countHolds_L4 o0 e30 n) (y1 + x3) (y2 + (1 : Int32)) μ1)
theorem ok_X8_countHolds_L4 {fr : Nat} (hfr : 1 ≤ fr) {ν : hm_N} {r : Int32}  (o0 : Nat) (e30 : Int32 → hm_M → Option Int32)  (he30 : ∀ (y1 : Int32)  (μ1 : hm_M), hm_LL ν μ1 → e30 y1 μ1 = some r → hm_T (hm_LL ν) m_X8_countHolds fr 0 0 (some (.int r)) μ1 30 [none, some (.int y1), none] [] μ1) (ho0 : hm_V o0) : ∀ (n : Nat) (y1 : Int32) (y2 : Int32)  (μ1 : hm_M), hm_LL ν μ1 → f_X8_countHolds_L4 o0 e30 n y1 y2 μ1 = some r → hm_T (hm_LL ν) m_X8_countHolds fr 0 0 (some (.int r)) μ1 4 [some (.ref o0), some (.int y1), some (.int y2)] [] μ1 := by
  intro n
  induction n with
  | zero =>
    intro y1 y2 μ1 hL h
    unfold f_X8_countHolds_L4 at h
    cases h
  | succ n ih =>
    intro y1 y2 μ1 hL h
    unfold f_X8_countHolds_L4 at h
    refine tr_iload_n (pc' := 5) (show decode cX8_countHolds 4 = .ok (.iload_n 2, 1) by decide +kernel) rfl rfl rfl ?_
    refine tr_aload_n (pc' := 6) (show decode cX8_countHolds 5 = .ok (.aload_n 0, 1) by decide +kernel) rfl rfl rfl ?_
    refine tr_getI (pc' := 9) fl_HandRing_Village_55 (show decode cX8_countHolds 6 = .ok (.getfield 55, 3) by decide +kernel) rfl (la_vo hL ho0) ?_
    rcases hm_is h with ⟨hc, h⟩ | ⟨hc, h⟩
    · refine tr_icmp_ge_t (tgt := 30) hc (show decode cX8_countHolds 9 = .ok (.if_icmp .ge 21, 3) by decide +kernel) (by decide) ?_
      refine hm_fgt [false, true, false] (lv' := [none, some (.int y1), none]) rfl ?_
      exact he30 y1 μ1 hL h
    · refine tr_icmp_ge_f (tgt := 30) (pc' := 12) hc (show decode cX8_countHolds 9 = .ok (.if_icmp .ge 21, 3) by decide +kernel) (by decide) rfl ?_
      refine tr_iload_n (pc' := 13) (show decode cX8_countHolds 12 = .ok (.iload_n 1, 1) by decide +kernel) rfl rfl rfl ?_
      refine tr_aload_n (pc' := 14) (show decode cX8_countHolds 13 = .ok (.aload_n 0, 1) by decide +kernel) rfl rfl rfl ?_
      refine tr_getR (pc' := 17) fl_HandRing_Village_21 (show decode cX8_countHolds 14 = .ok (.getfield 21, 3) by decide +kernel) rfl (la_vo hL ho0) (la_v4 hL ho0) ?_
      refine tr_iload_n (pc' := 18) (show decode cX8_countHolds 17 = .ok (.iload_n 2, 1) by decide +kernel) rfl rfl rfl ?_
      obtain ⟨x2, ex2, h⟩ := hm_bs h
      refine tp_ldI (pc' := 19) (show decode cX8_countHolds 18 = .ok (.iaload, 1) by decide +kernel) rfl (la_va4 hL ho0) ex2 ?_
      obtain ⟨x3, ex3, h⟩ := hm_bs h
      have cx3 := ok_J6_bitCount_0f7a4 (fr := fr - 1) (ν := ν) (by omega) x2 μ1 hL ex3
      refine tp_callS (pc' := 22) (As := [.int x2]) (fr1 := fr - 1) okm_J6_bitCount_0f7a4 lk_HandRing_Village_84 (show decode cX8_countHolds 19 = .ok (.invokestatic 84, 3) by decide +kernel) rfl rfl rfl (Nat.le_of_ble_eq_true rfl) (by omega) cx3 (st' := [.int x3, .int y1]) rfl ?_
      refine tr_iadd (pc' := 23) (show decode cX8_countHolds 22 = .ok (.iadd, 1) by decide +kernel) rfl ?_
      refine tr_istore_n (pc' := 24) (lv' := [some (.ref o0), some (.int (y1 + x3)), some (.int y2)]) (show decode cX8_countHolds 23 = .ok (.istore_n 1, 1) by decide +kernel) rfl rfl (Nat.le_of_ble_eq_true rfl) rfl rfl ?_
      refine tr_iinc (pc' := 27) (v := y2 + (1 : Int32)) (lv' := [some (.ref o0), some (.int (y1 + x3)), some (.int (y2 + (1 : Int32)))]) (show decode cX8_countHolds 24 = .ok (.iinc 2 1, 3) by decide +kernel) rfl rfl rfl (Nat.le_of_ble_eq_true rfl) rfl rfl ?_
      refine tr_goto (tgt := 4) (show decode cX8_countHolds 27 = .ok (.goto (-23), 3) by decide +kernel) rfl ?_
      exact ih (y1 + x3) (y2 + (1 : Int32)) μ1 hL h
def f_X8_countHolds (o0 : Nat) (μ : hm_M) : Option Int32 :=
  f_X8_countHolds_L4 o0 (fun z4_1 μz4 => some (z4_1 / (2 : Int32))) hm_fu (0 : Int32) (0 : Int32) μ
set_option maxRecDepth 100000 in
theorem ok_X8_countHolds {fr : Nat} (hfr : 1 ≤ fr) {ν : hm_N} {r : Int32}  (o0 : Nat) (ho0 : hm_V o0) (μ : hm_M) (hL : hm_LL ν μ) (h : f_X8_countHolds o0 μ = some r) : hm_CC (hm_LL ν) m_X8_countHolds fr 0 0 [.ref o0] μ (some (.int r)) μ := by
  refine hm_enter (lv := [some (.ref o0), none, none]) (by decide) rfl (Nat.le_of_ble_eq_true rfl) ?_
  unfold f_X8_countHolds at h
  refine tr_iconst (pc' := 1) (v := (0 : Int32)) (show decode cX8_countHolds 0 = .ok (.iconst 0, 1) by decide +kernel) rfl (by decide) ?_
  refine tr_istore_n (pc' := 2) (lv' := [some (.ref o0), some (.int (0 : Int32)), none]) (show decode cX8_countHolds 1 = .ok (.istore_n 1, 1) by decide +kernel) rfl rfl (Nat.le_of_ble_eq_true rfl) rfl rfl ?_
  refine tr_iconst (pc' := 3) (v := (0 : Int32)) (show decode cX8_countHolds 2 = .ok (.iconst 0, 1) by decide +kernel) rfl (by decide) ?_
  refine tr_istore_n (pc' := 4) (lv' := [some (.ref o0), some (.int (0 : Int32)), some (.int (0 : Int32))]) (show decode cX8_countHolds 3 = .ok (.istore_n 2, 1) by decide +kernel) rfl rfl (Nat.le_of_ble_eq_true rfl) rfl rfl ?_
  refine ok_X8_countHolds_L4 hfr _ _ ?_ ho0 _ (0 : Int32) (0 : Int32) μ hL h
  · intro z4_1 μz4 hL h
    refine tr_iload_n (pc' := 31) (show decode cX8_countHolds 30 = .ok (.iload_n 1, 1) by decide +kernel) rfl rfl rfl ?_
    refine tr_iconst (pc' := 32) (v := (2 : Int32)) (show decode cX8_countHolds 31 = .ok (.iconst 2, 1) by decide +kernel) rfl (by decide) ?_
    refine tr_idiv (pc' := 33) (show decode cX8_countHolds 32 = .ok (.idiv, 1) by decide +kernel) rfl (by decide) ?_
    cases h
    exact tr_iret rfl (show decode cX8_countHolds 33 = .ok (.ireturn, 1) by decide +kernel) hL
def f_X1_looseHands (v1 : Nat) (v2 : Int32) (v3 : Int32) (μ : hm_M) : Option (Int32 × hm_M) :=
  (if v2 = v3 then
  some ((-1 : Int32), μ)
  else
  Option.bind (f_X8_has v1 v2 μ) fun x2 =>
  (if x2 = 0 then
  some ((-2 : Int32), μ)
  else
  Option.bind (f_X8_has v1 v3 μ) fun x3 =>
  (if x3 = 0 then
  some ((-2 : Int32), μ)
  else
  Option.bind (f_X8_holdHands v1 v2 v3 μ) fun x4 =>
  (if x4 = 0 then
  some ((-3 : Int32), μ)
  else
  Option.bind (f_X8_part v1 v2 v3 μ) fun μ6 =>
  Option.bind (f_X8_countHolds v1 μ6) fun x7 =>
  some (x7, μ6)))))
set_option maxRecDepth 100000 in
theorem ok_X1_looseHands {fr : Nat} (hfr : 2 ≤ fr) {ν : hm_N} {r : Int32} {μR : hm_M}  (v1 : Nat) (v2 : Int32) (v3 : Int32) (hv1 : hm_V v1) (μ : hm_M) (hL : hm_LL ν μ) (h : f_X1_looseHands v1 v2 v3 μ = some (r, μR)) : hm_CC (hm_LL ν) m_X1_looseHands fr 0 0 [.ref 110, .ref v1, .int v2, .int v3] μ (some (.int r)) μR := by
  refine hm_enter (lv := [some (.ref 110), some (.ref v1), some (.int v2), some (.int v3)]) (by decide) rfl (Nat.le_of_ble_eq_true rfl) ?_
  unfold f_X1_looseHands at h
  refine tr_iload_n (pc' := 1) (show decode cX1_looseHands 0 = .ok (.iload_n 2, 1) by decide +kernel) rfl rfl rfl ?_
  refine tr_iload_n (pc' := 2) (show decode cX1_looseHands 1 = .ok (.iload_n 3, 1) by decide +kernel) rfl rfl rfl ?_
  rcases hm_is h with ⟨hc, h⟩ | ⟨hc, h⟩
  · refine tr_icmp_ne_f (tgt := 7) (pc' := 5) hc (show decode cX1_looseHands 2 = .ok (.if_icmp .ne 5, 3) by decide +kernel) (by decide) rfl ?_
    refine tr_iconst (pc' := 6) (v := (-1 : Int32)) (show decode cX1_looseHands 5 = .ok (.iconst (-1), 1) by decide +kernel) rfl (by decide) ?_
    cases h
    exact tr_iret rfl (show decode cX1_looseHands 6 = .ok (.ireturn, 1) by decide +kernel) hL
  · refine tr_icmp_ne_t (tgt := 7) hc (show decode cX1_looseHands 2 = .ok (.if_icmp .ne 5, 3) by decide +kernel) (by decide) ?_
    refine tr_aload_n (pc' := 8) (show decode cX1_looseHands 7 = .ok (.aload_n 1, 1) by decide +kernel) rfl rfl rfl ?_
    refine tr_iload_n (pc' := 9) (show decode cX1_looseHands 8 = .ok (.iload_n 2, 1) by decide +kernel) rfl rfl rfl ?_
    obtain ⟨x2, ex2, h⟩ := hm_bs h
    have cx2 := ok_X8_has (fr := fr - 1) (ν := ν) (by omega) v1 v2 hv1 μ hL ex2
    refine tp_callV (pc' := 12) (As := [.int v2]) (fr1 := fr - 1) (ci := 8) okm_X8_has lk_HandRing_Deeds_50 (show decode cX1_looseHands 9 = .ok (.invokevirtual 50, 3) by decide +kernel) rfl rfl rfl (by decide) (la_vo hL hv1) rfl rfl (Nat.le_of_ble_eq_true rfl) (by omega) cx2 (st' := [.int x2]) rfl ?_
    rcases hm_is h with ⟨hc, h⟩ | ⟨hc, h⟩
    · refine tr_if_eq_t (tgt := 23) hc (show decode cX1_looseHands 12 = .ok (.ifCond .eq 11, 3) by decide +kernel) (by decide) ?_
      refine tr_bipush (pc' := 25) (v := (-2 : Int32)) (show decode cX1_looseHands 23 = .ok (.bipush (-2), 2) by decide +kernel) rfl (by decide) ?_
      cases h
      exact tr_iret rfl (show decode cX1_looseHands 25 = .ok (.ireturn, 1) by decide +kernel) hL
    · refine tr_if_eq_f (tgt := 23) (pc' := 15) hc (show decode cX1_looseHands 12 = .ok (.ifCond .eq 11, 3) by decide +kernel) (by decide) rfl ?_
      refine tr_aload_n (pc' := 16) (show decode cX1_looseHands 15 = .ok (.aload_n 1, 1) by decide +kernel) rfl rfl rfl ?_
      refine tr_iload_n (pc' := 17) (show decode cX1_looseHands 16 = .ok (.iload_n 3, 1) by decide +kernel) rfl rfl rfl ?_
      obtain ⟨x3, ex3, h⟩ := hm_bs h
      have cx3 := ok_X8_has (fr := fr - 1) (ν := ν) (by omega) v1 v3 hv1 μ hL ex3
      refine tp_callV (pc' := 20) (As := [.int v3]) (fr1 := fr - 1) (ci := 8) okm_X8_has lk_HandRing_Deeds_50 (show decode cX1_looseHands 17 = .ok (.invokevirtual 50, 3) by decide +kernel) rfl rfl rfl (by decide) (la_vo hL hv1) rfl rfl (Nat.le_of_ble_eq_true rfl) (by omega) cx3 (st' := [.int x3]) rfl ?_
      rcases hm_is h with ⟨hc, h⟩ | ⟨hc, h⟩
      · refine tr_if_ne_f (tgt := 26) (pc' := 23) hc (show decode cX1_looseHands 20 = .ok (.ifCond .ne 6, 3) by decide +kernel) (by decide) rfl ?_
        refine tr_bipush (pc' := 25) (v := (-2 : Int32)) (show decode cX1_looseHands 23 = .ok (.bipush (-2), 2) by decide +kernel) rfl (by decide) ?_
        cases h
        exact tr_iret rfl (show decode cX1_looseHands 25 = .ok (.ireturn, 1) by decide +kernel) hL
      · refine tr_if_ne_t (tgt := 26) hc (show decode cX1_looseHands 20 = .ok (.ifCond .ne 6, 3) by decide +kernel) (by decide) ?_
        refine tr_aload_n (pc' := 27) (show decode cX1_looseHands 26 = .ok (.aload_n 1, 1) by decide +kernel) rfl rfl rfl ?_
        refine tr_iload_n (pc' := 28) (show decode cX1_looseHands 27 = .ok (.iload_n 2, 1) by decide +kernel) rfl rfl rfl ?_
        refine tr_iload_n (pc' := 29) (show decode cX1_looseHands 28 = .ok (.iload_n 3, 1) by decide +kernel) rfl rfl rfl ?_
        obtain ⟨x4, ex4, h⟩ := hm_bs h
        have cx4 := ok_X8_holdHands (fr := fr - 1) (ν := ν) (by omega) v1 v2 v3 hv1 μ hL ex4
        refine tp_callV (pc' := 32) (As := [.int v2, .int v3]) (fr1 := fr - 1) (ci := 8) okm_X8_holdHands lk_HandRing_Deeds_69 (show decode cX1_looseHands 29 = .ok (.invokevirtual 69, 3) by decide +kernel) rfl rfl rfl (by decide) (la_vo hL hv1) rfl rfl (Nat.le_of_ble_eq_true rfl) (by omega) cx4 (st' := [.int x4]) rfl ?_
        rcases hm_is h with ⟨hc, h⟩ | ⟨hc, h⟩
        · refine tr_if_ne_f (tgt := 38) (pc' := 35) hc (show decode cX1_looseHands 32 = .ok (.ifCond .ne 6, 3) by decide +kernel) (by decide) rfl ?_
          refine tr_bipush (pc' := 37) (v := (-3 : Int32)) (show decode cX1_looseHands 35 = .ok (.bipush (-3), 2) by decide +kernel) rfl (by decide) ?_
          cases h
          exact tr_iret rfl (show decode cX1_looseHands 37 = .ok (.ireturn, 1) by decide +kernel) hL
        · refine tr_if_ne_t (tgt := 38) hc (show decode cX1_looseHands 32 = .ok (.ifCond .ne 6, 3) by decide +kernel) (by decide) ?_
          refine tr_aload_n (pc' := 39) (show decode cX1_looseHands 38 = .ok (.aload_n 1, 1) by decide +kernel) rfl rfl rfl ?_
          refine tr_iload_n (pc' := 40) (show decode cX1_looseHands 39 = .ok (.iload_n 2, 1) by decide +kernel) rfl rfl rfl ?_
          refine tr_iload_n (pc' := 41) (show decode cX1_looseHands 40 = .ok (.iload_n 3, 1) by decide +kernel) rfl rfl rfl ?_
          obtain ⟨μ6, ex5, h⟩ := hm_bs h
          have cx5 := ok_X8_part (fr := fr - 1) (ν := ν) (by omega) v1 v2 v3 hv1 μ hL ex5
          refine tp_callV (pc' := 44) (As := [.int v2, .int v3]) (fr1 := fr - 1) (ci := 8) okm_X8_part lk_HandRing_Deeds_87 (show decode cX1_looseHands 41 = .ok (.invokevirtual 87, 3) by decide +kernel) rfl rfl rfl (by decide) (la_vo hL hv1) rfl rfl (Nat.le_of_ble_eq_true rfl) (by omega) cx5 (st' := []) rfl ?_
          replace hL := cx5.1
          refine tr_aload_n (pc' := 45) (show decode cX1_looseHands 44 = .ok (.aload_n 1, 1) by decide +kernel) rfl rfl rfl ?_
          obtain ⟨x7, ex7, h⟩ := hm_bs h
          have cx7 := ok_X8_countHolds (fr := fr - 1) (ν := ν) (by omega) v1 hv1 μ6 hL ex7
          refine tp_callV (pc' := 48) (As := []) (fr1 := fr - 1) (ci := 8) okm_X8_countHolds lk_HandRing_Deeds_90 (show decode cX1_looseHands 45 = .ok (.invokevirtual 90, 3) by decide +kernel) rfl rfl rfl (by decide) (la_vo hL hv1) rfl rfl (Nat.le_of_ble_eq_true rfl) (by omega) cx7 (st' := [.int x7]) rfl ?_
          cases h
          exact tr_iret rfl (show decode cX1_looseHands 48 = .ok (.ireturn, 1) by decide +kernel) hL
def f_X1_stepOn (v1 : Nat) (v2 : Int32) (v3 : Int32) (μ : hm_M) : Option (Int32 × hm_M) :=
  (if v3 < (1 : Int32) then
  some ((-1 : Int32), μ)
  else
  (if v3 ≤ (4 : Int32) then
  Option.bind (f_X8_has v1 v2 μ) fun x2 =>
  (if x2 = 0 then
  some ((-2 : Int32), μ)
  else
  Option.bind (hm_ld μ (v1 + 1) 8 v2) fun x3 =>
  Option.bind (hm_ldX 2 v3) fun x4 =>
  Option.bind (some ((x3 - x3 / (5 : Int32) * (5 : Int32)) + x4)) fun x5 =>
  Option.bind (hm_ld μ (v1 + 1) 8 v2) fun x6 =>
  Option.bind (hm_ldX 3 v3) fun x7 =>
  (if x5 < 0 then
  some ((-3 : Int32), μ)
  else
  (if (5 : Int32) ≤ x5 then
  some ((-3 : Int32), μ)
  else
  (if ((x6 / (5 : Int32)) + x7) < 0 then
  some ((-3 : Int32), μ)
  else
  (if ((x6 / (5 : Int32)) + x7) < (5 : Int32) then
  Option.bind (hm_sd μ (v1 + 1) 8 v2 (((5 : Int32) * ((x6 / (5 : Int32)) + x7)) + x5)) fun μ8 =>
  some ((0 : Int32), μ8)
  else
  some ((-3 : Int32), μ))))))
  else
  some ((-1 : Int32), μ)))
set_option maxRecDepth 100000 in
theorem ok_X1_stepOn {fr : Nat} (hfr : 1 ≤ fr) {ν : hm_N} {r : Int32} {μR : hm_M}  (v1 : Nat) (v2 : Int32) (v3 : Int32) (hv1 : hm_V v1) (μ : hm_M) (hL : hm_LL ν μ) (h : f_X1_stepOn v1 v2 v3 μ = some (r, μR)) : hm_CC (hm_LL ν) m_X1_stepOn fr 0 0 [.ref 110, .ref v1, .int v2, .int v3] μ (some (.int r)) μR := by
  refine hm_enter (lv := [some (.ref 110), some (.ref v1), some (.int v2), some (.int v3), none, none]) (by decide) rfl (Nat.le_of_ble_eq_true rfl) ?_
  unfold f_X1_stepOn at h
  refine tr_iload_n (pc' := 1) (show decode cX1_stepOn 0 = .ok (.iload_n 3, 1) by decide +kernel) rfl rfl rfl ?_
  refine tr_iconst (pc' := 2) (v := (1 : Int32)) (show decode cX1_stepOn 1 = .ok (.iconst 1, 1) by decide +kernel) rfl (by decide) ?_
  rcases hm_is h with ⟨hc, h⟩ | ⟨hc, h⟩
  · refine tr_icmp_lt_t (tgt := 10) hc (show decode cX1_stepOn 2 = .ok (.if_icmp .lt 8, 3) by decide +kernel) (by decide) ?_
    refine tr_iconst (pc' := 11) (v := (-1 : Int32)) (show decode cX1_stepOn 10 = .ok (.iconst (-1), 1) by decide +kernel) rfl (by decide) ?_
    cases h
    exact tr_iret rfl (show decode cX1_stepOn 11 = .ok (.ireturn, 1) by decide +kernel) hL
  · refine tr_icmp_lt_f (tgt := 10) (pc' := 5) hc (show decode cX1_stepOn 2 = .ok (.if_icmp .lt 8, 3) by decide +kernel) (by decide) rfl ?_
    refine tr_iload_n (pc' := 6) (show decode cX1_stepOn 5 = .ok (.iload_n 3, 1) by decide +kernel) rfl rfl rfl ?_
    refine tr_iconst (pc' := 7) (v := (4 : Int32)) (show decode cX1_stepOn 6 = .ok (.iconst 4, 1) by decide +kernel) rfl (by decide) ?_
    rcases hm_is h with ⟨hc, h⟩ | ⟨hc, h⟩
    · refine tr_icmp_le_t (tgt := 12) hc (show decode cX1_stepOn 7 = .ok (.if_icmp .le 5, 3) by decide +kernel) (by decide) ?_
      refine tr_aload_n (pc' := 13) (show decode cX1_stepOn 12 = .ok (.aload_n 1, 1) by decide +kernel) rfl rfl rfl ?_
      refine tr_iload_n (pc' := 14) (show decode cX1_stepOn 13 = .ok (.iload_n 2, 1) by decide +kernel) rfl rfl rfl ?_
      obtain ⟨x2, ex2, h⟩ := hm_bs h
      have cx2 := ok_X8_has (fr := fr - 1) (ν := ν) (by omega) v1 v2 hv1 μ hL ex2
      refine tp_callV (pc' := 17) (As := [.int v2]) (fr1 := fr - 1) (ci := 8) okm_X8_has lk_HandRing_Deeds_50 (show decode cX1_stepOn 14 = .ok (.invokevirtual 50, 3) by decide +kernel) rfl rfl rfl (by decide) (la_vo hL hv1) rfl rfl (Nat.le_of_ble_eq_true rfl) (by omega) cx2 (st' := [.int x2]) rfl ?_
      rcases hm_is h with ⟨hc, h⟩ | ⟨hc, h⟩
      · refine tr_if_ne_f (tgt := 23) (pc' := 20) hc (show decode cX1_stepOn 17 = .ok (.ifCond .ne 6, 3) by decide +kernel) (by decide) rfl ?_
        refine tr_bipush (pc' := 22) (v := (-2 : Int32)) (show decode cX1_stepOn 20 = .ok (.bipush (-2), 2) by decide +kernel) rfl (by decide) ?_
        cases h
        exact tr_iret rfl (show decode cX1_stepOn 22 = .ok (.ireturn, 1) by decide +kernel) hL
      · refine tr_if_ne_t (tgt := 23) hc (show decode cX1_stepOn 17 = .ok (.ifCond .ne 6, 3) by decide +kernel) (by decide) ?_
        refine tr_aload_n (pc' := 24) (show decode cX1_stepOn 23 = .ok (.aload_n 1, 1) by decide +kernel) rfl rfl rfl ?_
        refine tr_getR (pc' := 27) fl_HandRing_Deeds_94 (show decode cX1_stepOn 24 = .ok (.getfield 94, 3) by decide +kernel) rfl (la_vo hL hv1) (la_v1 hL hv1) ?_
        refine tr_iload_n (pc' := 28) (show decode cX1_stepOn 27 = .ok (.iload_n 2, 1) by decide +kernel) rfl rfl rfl ?_
        obtain ⟨x3, ex3, h⟩ := hm_bs h
        refine tp_ldI (pc' := 29) (show decode cX1_stepOn 28 = .ok (.iaload, 1) by decide +kernel) rfl (la_va1 hL hv1) ex3 ?_
        refine tr_iconst (pc' := 30) (v := (5 : Int32)) (show decode cX1_stepOn 29 = .ok (.iconst 5, 1) by decide +kernel) rfl (by decide) ?_
        refine tr_irem (pc' := 31) (show decode cX1_stepOn 30 = .ok (.irem, 1) by decide +kernel) rfl (by decide) ?_
        refine tr_gets (pc' := 34) (i := 2) rfl (by decide) fs_HandRing_Deeds_97 (show decode cX1_stepOn 31 = .ok (.getstatic 97, 3) by decide +kernel) rfl ?_
        refine tr_iload_n (pc' := 35) (show decode cX1_stepOn 34 = .ok (.iload_n 3, 1) by decide +kernel) rfl rfl rfl ?_
        obtain ⟨x4, ex4, h⟩ := hm_bs h
        refine tr_ldX (pc' := 36) (i0 := 2) (by decide) (show decode cX1_stepOn 35 = .ok (.iaload, 1) by decide +kernel) rfl ex4 ?_
        refine tr_iadd (pc' := 37) (show decode cX1_stepOn 36 = .ok (.iadd, 1) by decide +kernel) rfl ?_
        obtain ⟨x5, ex5, h⟩ := hm_bs h
        have ex5 := Option.some.inj ex5
        rw [ex5]
        refine tr_istore (pc' := 39) (lv' := [some (.ref 110), some (.ref v1), some (.int v2), some (.int v3), some (.int x5), none]) (show decode cX1_stepOn 37 = .ok (.istore 4, 2) by decide +kernel) rfl (Nat.le_of_ble_eq_true rfl) rfl rfl ?_
        refine tr_aload_n (pc' := 40) (show decode cX1_stepOn 39 = .ok (.aload_n 1, 1) by decide +kernel) rfl rfl rfl ?_
        refine tr_getR (pc' := 43) fl_HandRing_Deeds_94 (show decode cX1_stepOn 40 = .ok (.getfield 94, 3) by decide +kernel) rfl (la_vo hL hv1) (la_v1 hL hv1) ?_
        refine tr_iload_n (pc' := 44) (show decode cX1_stepOn 43 = .ok (.iload_n 2, 1) by decide +kernel) rfl rfl rfl ?_
        obtain ⟨x6, ex6, h⟩ := hm_bs h
        refine tp_ldI (pc' := 45) (show decode cX1_stepOn 44 = .ok (.iaload, 1) by decide +kernel) rfl (la_va1 hL hv1) ex6 ?_
        refine tr_iconst (pc' := 46) (v := (5 : Int32)) (show decode cX1_stepOn 45 = .ok (.iconst 5, 1) by decide +kernel) rfl (by decide) ?_
        refine tr_idiv (pc' := 47) (show decode cX1_stepOn 46 = .ok (.idiv, 1) by decide +kernel) rfl (by decide) ?_
        refine tr_gets (pc' := 50) (i := 3) rfl (by decide) fs_HandRing_Deeds_100 (show decode cX1_stepOn 47 = .ok (.getstatic 100, 3) by decide +kernel) rfl ?_
        refine tr_iload_n (pc' := 51) (show decode cX1_stepOn 50 = .ok (.iload_n 3, 1) by decide +kernel) rfl rfl rfl ?_
        obtain ⟨x7, ex7, h⟩ := hm_bs h
        refine tr_ldX (pc' := 52) (i0 := 3) (by decide) (show decode cX1_stepOn 51 = .ok (.iaload, 1) by decide +kernel) rfl ex7 ?_
        refine tr_iadd (pc' := 53) (show decode cX1_stepOn 52 = .ok (.iadd, 1) by decide +kernel) rfl ?_
        refine tr_istore (pc' := 55) (lv' := [some (.ref 110), some (.ref v1), some (.int v2), some (.int v3), some (.int x5), some (.int ((x6 / (5 : Int32)) + x7))]) (show decode cX1_stepOn 53 = .ok (.istore 5, 2) by decide +kernel) rfl (Nat.le_of_ble_eq_true rfl) rfl rfl ?_
        refine tr_iload (pc' := 57) (show decode cX1_stepOn 55 = .ok (.iload 4, 2) by decide +kernel) rfl rfl ?_
        rcases hm_is h with ⟨hc, h⟩ | ⟨hc, h⟩
        · refine tr_if_lt_t (tgt := 77) hc (show decode cX1_stepOn 57 = .ok (.ifCond .lt 20, 3) by decide +kernel) (by decide) ?_
          refine tr_bipush (pc' := 79) (v := (-3 : Int32)) (show decode cX1_stepOn 77 = .ok (.bipush (-3), 2) by decide +kernel) rfl (by decide) ?_
          cases h
          exact tr_iret rfl (show decode cX1_stepOn 79 = .ok (.ireturn, 1) by decide +kernel) hL
        · refine tr_if_lt_f (tgt := 77) (pc' := 60) hc (show decode cX1_stepOn 57 = .ok (.ifCond .lt 20, 3) by decide +kernel) (by decide) rfl ?_
          refine tr_iload (pc' := 62) (show decode cX1_stepOn 60 = .ok (.iload 4, 2) by decide +kernel) rfl rfl ?_
          refine tr_iconst (pc' := 63) (v := (5 : Int32)) (show decode cX1_stepOn 62 = .ok (.iconst 5, 1) by decide +kernel) rfl (by decide) ?_
          rcases hm_is h with ⟨hc, h⟩ | ⟨hc, h⟩
          · refine tr_icmp_ge_t (tgt := 77) hc (show decode cX1_stepOn 63 = .ok (.if_icmp .ge 14, 3) by decide +kernel) (by decide) ?_
            refine tr_bipush (pc' := 79) (v := (-3 : Int32)) (show decode cX1_stepOn 77 = .ok (.bipush (-3), 2) by decide +kernel) rfl (by decide) ?_
            cases h
            exact tr_iret rfl (show decode cX1_stepOn 79 = .ok (.ireturn, 1) by decide +kernel) hL
          · refine tr_icmp_ge_f (tgt := 77) (pc' := 66) hc (show decode cX1_stepOn 63 = .ok (.if_icmp .ge 14, 3) by decide +kernel) (by decide) rfl ?_
            refine tr_iload (pc' := 68) (show decode cX1_stepOn 66 = .ok (.iload 5, 2) by decide +kernel) rfl rfl ?_
            rcases hm_is h with ⟨hc, h⟩ | ⟨hc, h⟩
            · refine tr_if_lt_t (tgt := 77) hc (show decode cX1_stepOn 68 = .ok (.ifCond .lt 9, 3) by decide +kernel) (by decide) ?_
              refine tr_bipush (pc' := 79) (v := (-3 : Int32)) (show decode cX1_stepOn 77 = .ok (.bipush (-3), 2) by decide +kernel) rfl (by decide) ?_
              cases h
              exact tr_iret rfl (show decode cX1_stepOn 79 = .ok (.ireturn, 1) by decide +kernel) hL
            · refine tr_if_lt_f (tgt := 77) (pc' := 71) hc (show decode cX1_stepOn 68 = .ok (.ifCond .lt 9, 3) by decide +kernel) (by decide) rfl ?_
              refine tr_iload (pc' := 73) (show decode cX1_stepOn 71 = .ok (.iload 5, 2) by decide +kernel) rfl rfl ?_
              refine tr_iconst (pc' := 74) (v := (5 : Int32)) (show decode cX1_stepOn 73 = .ok (.iconst 5, 1) by decide +kernel) rfl (by decide) ?_
              rcases hm_is h with ⟨hc, h⟩ | ⟨hc, h⟩
              · refine tr_icmp_lt_t (tgt := 80) hc (show decode cX1_stepOn 74 = .ok (.if_icmp .lt 6, 3) by decide +kernel) (by decide) ?_
                refine tr_aload_n (pc' := 81) (show decode cX1_stepOn 80 = .ok (.aload_n 1, 1) by decide +kernel) rfl rfl rfl ?_
                refine tr_getR (pc' := 84) fl_HandRing_Deeds_94 (show decode cX1_stepOn 81 = .ok (.getfield 94, 3) by decide +kernel) rfl (la_vo hL hv1) (la_v1 hL hv1) ?_
                refine tr_iload_n (pc' := 85) (show decode cX1_stepOn 84 = .ok (.iload_n 2, 1) by decide +kernel) rfl rfl rfl ?_
                refine tr_iconst (pc' := 86) (v := (5 : Int32)) (show decode cX1_stepOn 85 = .ok (.iconst 5, 1) by decide +kernel) rfl (by decide) ?_
                refine tr_iload (pc' := 88) (show decode cX1_stepOn 86 = .ok (.iload 5, 2) by decide +kernel) rfl rfl ?_
                refine tr_imul (pc' := 89) (show decode cX1_stepOn 88 = .ok (.imul, 1) by decide +kernel) rfl ?_
                refine tr_iload (pc' := 91) (show decode cX1_stepOn 89 = .ok (.iload 4, 2) by decide +kernel) rfl rfl ?_
                refine tr_iadd (pc' := 92) (show decode cX1_stepOn 91 = .ok (.iadd, 1) by decide +kernel) rfl ?_
                obtain ⟨μ8, eμ8, h⟩ := hm_bs h
                refine tp_sdI (pc' := 93) (show decode cX1_stepOn 92 = .ok (.iastore, 1) by decide +kernel) rfl (la_va1 hL hv1) eμ8 ?_
                replace hL := hL.same (hm_sd_s eμ8)
                refine tr_iconst (pc' := 94) (v := (0 : Int32)) (show decode cX1_stepOn 93 = .ok (.iconst 0, 1) by decide +kernel) rfl (by decide) ?_
                cases h
                exact tr_iret rfl (show decode cX1_stepOn 94 = .ok (.ireturn, 1) by decide +kernel) hL
              · refine tr_icmp_lt_f (tgt := 80) (pc' := 77) hc (show decode cX1_stepOn 74 = .ok (.if_icmp .lt 6, 3) by decide +kernel) (by decide) rfl ?_
                refine tr_bipush (pc' := 79) (v := (-3 : Int32)) (show decode cX1_stepOn 77 = .ok (.bipush (-3), 2) by decide +kernel) rfl (by decide) ?_
                cases h
                exact tr_iret rfl (show decode cX1_stepOn 79 = .ok (.ireturn, 1) by decide +kernel) hL
    · refine tr_icmp_le_f (tgt := 12) (pc' := 10) hc (show decode cX1_stepOn 7 = .ok (.if_icmp .le 5, 3) by decide +kernel) (by decide) rfl ?_
      refine tr_iconst (pc' := 11) (v := (-1 : Int32)) (show decode cX1_stepOn 10 = .ok (.iconst (-1), 1) by decide +kernel) rfl (by decide) ?_
      cases h
      exact tr_iret rfl (show decode cX1_stepOn 11 = .ok (.ireturn, 1) by decide +kernel) hL
def f_X1_dropHolds_J64 (v1 : Nat) (w17_3 : Int32) (c4 : Int32 → Int32 → hm_M → Option (Int32 × hm_M)) (e76 : Int32 → hm_M → Option (Int32 × hm_M)) (c17 : Int32 → Int32 → hm_M → Option (Int32 × hm_M)) (e70 : Int32 → hm_M → Option (Int32 × hm_M)) (y2 : Int32) (y4 : Int32) (μ1 : hm_M) : Option (Int32 × hm_M) :=
  c17 y2 (y4 + (1 : Int32)) μ1
theorem ok_X1_dropHolds_J64 {fr : Nat} (hfr : 4 ≤ fr) {ν : hm_N} {r : Int32} {μR : hm_M}  (v1 : Nat) (w17_3 : Int32) (c4 : Int32 → Int32 → hm_M → Option (Int32 × hm_M)) (e76 : Int32 → hm_M → Option (Int32 × hm_M)) (c17 : Int32 → Int32 → hm_M → Option (Int32 × hm_M)) (e70 : Int32 → hm_M → Option (Int32 × hm_M)) (hc4 : ∀ (y2 : Int32) (y3 : Int32)  (μ1 : hm_M), hm_LL ν μ1 → c4 y2 y3 μ1 = some (r, μR) → hm_T (hm_LL ν) m_X1_dropHolds fr 0 0 (some (.int r)) μR 4 [some (.ref 110), some (.ref v1), some (.int y2), some (.int y3), none] [] μ1) (he76 : ∀ (y2 : Int32)  (μ1 : hm_M), hm_LL ν μ1 → e76 y2 μ1 = some (r, μR) → hm_T (hm_LL ν) m_X1_dropHolds fr 0 0 (some (.int r)) μR 76 [none, none, some (.int y2), none, none] [] μ1) (hc17 : ∀ (y2 : Int32) (y4 : Int32)  (μ1 : hm_M), hm_LL ν μ1 → c17 y2 y4 μ1 = some (r, μR) → hm_T (hm_LL ν) m_X1_dropHolds fr 0 0 (some (.int r)) μR 17 [some (.ref 110), some (.ref v1), some (.int y2), some (.int w17_3), some (.int y4)] [] μ1) (he70 : ∀ (y2 : Int32)  (μ1 : hm_M), hm_LL ν μ1 → e70 y2 μ1 = some (r, μR) → hm_T (hm_LL ν) m_X1_dropHolds fr 0 0 (some (.int r)) μR 70 [some (.ref 110), some (.ref v1), some (.int y2), some (.int w17_3), none] [] μ1) (hv1 : hm_V v1) (y2 : Int32) (y4 : Int32) (μ1 : hm_M) (hL : hm_LL ν μ1) (h : f_X1_dropHolds_J64 v1 w17_3 c4 e76 c17 e70 y2 y4 μ1 = some (r, μR)) : hm_T (hm_LL ν) m_X1_dropHolds fr 0 0 (some (.int r)) μR 64 [some (.ref 110), some (.ref v1), some (.int y2), some (.int w17_3), some (.int y4)] [] μ1 := by
  unfold f_X1_dropHolds_J64 at h
  refine tr_iinc (pc' := 67) (v := y4 + (1 : Int32)) (lv' := [some (.ref 110), some (.ref v1), some (.int y2), some (.int w17_3), some (.int (y4 + (1 : Int32)))]) (show decode cX1_dropHolds 64 = .ok (.iinc 4 1, 3) by decide +kernel) rfl rfl rfl (Nat.le_of_ble_eq_true rfl) rfl rfl ?_
  refine tr_goto (tgt := 17) (show decode cX1_dropHolds 67 = .ok (.goto (-50), 3) by decide +kernel) rfl ?_
  exact hc17 y2 (y4 + (1 : Int32)) μ1 hL h
def f_X1_dropHolds_L17 (v1 : Nat) (w17_3 : Int32) (c4 : Int32 → Int32 → hm_M → Option (Int32 × hm_M)) (e76 : Int32 → hm_M → Option (Int32 × hm_M)) (e70 : Int32 → hm_M → Option (Int32 × hm_M)) : Nat → Int32 → Int32 → hm_M → Option (Int32 × hm_M)
  | 0, _, _, _ => none
  | n + 1, y2, y4, μ1 => (if (μ1.1 v1 0) ≤ y4 then
  e70 y2 μ1
  else
  Option.bind (f_X8_holdHands v1 w17_3 y4 μ1) fun x2 =>
  (if x2 = 0 then
  f_X1_dropHolds_J64 v1 w17_3 c4 e76 (f_X1_dropHolds_L17 v1 w17_3 c4 e76 e70 n) e70 y2 y4 μ1
  else
  Option.bind (f_X8_lawInForce v1 μ1) fun x3 =>
  hm_b2 (f_X3_canHold v1 x3 w17_3 y4 μ1) fun x4 μ5 =>
  (if x4 = 0 then
  Option.bind (f_X8_part v1 w17_3 y4 μ5) fun μ7 =>
  f_X1_dropHolds_J64 v1 w17_3 c4 e76 (f_X1_dropHolds_L17 v1 w17_3 c4 e76 e70 n) e70 (y2 + (1 : Int32)) y4 μ7
  else
  f_X1_dropHolds_J64 v1 w17_3 c4 e76 (f_X1_dropHolds_L17 v1 w17_3 c4 e76 e70 n) e70 y2 y4 μ5)))
theorem ok_X1_dropHolds_L17 {fr : Nat} (hfr : 4 ≤ fr) {ν : hm_N} {r : Int32} {μR : hm_M}  (v1 : Nat) (w17_3 : Int32) (c4 : Int32 → Int32 → hm_M → Option (Int32 × hm_M)) (e76 : Int32 → hm_M → Option (Int32 × hm_M)) (e70 : Int32 → hm_M → Option (Int32 × hm_M)) (hc4 : ∀ (y2 : Int32) (y3 : Int32)  (μ1 : hm_M), hm_LL ν μ1 → c4 y2 y3 μ1 = some (r, μR) → hm_T (hm_LL ν) m_X1_dropHolds fr 0 0 (some (.int r)) μR 4 [some (.ref 110), some (.ref v1), some (.int y2), some (.int y3), none] [] μ1) (he76 : ∀ (y2 : Int32)  (μ1 : hm_M), hm_LL ν μ1 → e76 y2 μ1 = some (r, μR) → hm_T (hm_LL ν) m_X1_dropHolds fr 0 0 (some (.int r)) μR 76 [none, none, some (.int y2), none, none] [] μ1) (he70 : ∀ (y2 : Int32)  (μ1 : hm_M), hm_LL ν μ1 → e70 y2 μ1 = some (r, μR) → hm_T (hm_LL ν) m_X1_dropHolds fr 0 0 (some (.int r)) μR 70 [some (.ref 110), some (.ref v1), some (.int y2), some (.int w17_3), none] [] μ1) (hv1 : hm_V v1) : ∀ (n : Nat) (y2 : Int32) (y4 : Int32)  (μ1 : hm_M), hm_LL ν μ1 → f_X1_dropHolds_L17 v1 w17_3 c4 e76 e70 n y2 y4 μ1 = some (r, μR) → hm_T (hm_LL ν) m_X1_dropHolds fr 0 0 (some (.int r)) μR 17 [some (.ref 110), some (.ref v1), some (.int y2), some (.int w17_3), some (.int y4)] [] μ1 := by
  intro n
  induction n with
  | zero =>
    intro y2 y4 μ1 hL h
    unfold f_X1_dropHolds_L17 at h
    cases h
  | succ n ih =>
    intro y2 y4 μ1 hL h
    unfold f_X1_dropHolds_L17 at h
    refine tr_iload (pc' := 19) (show decode cX1_dropHolds 17 = .ok (.iload 4, 2) by decide +kernel) rfl rfl ?_
    refine tr_aload_n (pc' := 20) (show decode cX1_dropHolds 19 = .ok (.aload_n 1, 1) by decide +kernel) rfl rfl rfl ?_
    refine tr_getI (pc' := 23) fl_HandRing_Deeds_109 (show decode cX1_dropHolds 20 = .ok (.getfield 109, 3) by decide +kernel) rfl (la_vo hL hv1) ?_
    rcases hm_is h with ⟨hc, h⟩ | ⟨hc, h⟩
    · refine tr_icmp_ge_t (tgt := 70) hc (show decode cX1_dropHolds 23 = .ok (.if_icmp .ge 47, 3) by decide +kernel) (by decide) ?_
      refine hm_fgt [true, true, true, true, false] (lv' := [some (.ref 110), some (.ref v1), some (.int y2), some (.int w17_3), none]) rfl ?_
      exact he70 y2 μ1 hL h
    · refine tr_icmp_ge_f (tgt := 70) (pc' := 26) hc (show decode cX1_dropHolds 23 = .ok (.if_icmp .ge 47, 3) by decide +kernel) (by decide) rfl ?_
      refine tr_aload_n (pc' := 27) (show decode cX1_dropHolds 26 = .ok (.aload_n 1, 1) by decide +kernel) rfl rfl rfl ?_
      refine tr_iload_n (pc' := 28) (show decode cX1_dropHolds 27 = .ok (.iload_n 3, 1) by decide +kernel) rfl rfl rfl ?_
      refine tr_iload (pc' := 30) (show decode cX1_dropHolds 28 = .ok (.iload 4, 2) by decide +kernel) rfl rfl ?_
      obtain ⟨x2, ex2, h⟩ := hm_bs h
      have cx2 := ok_X8_holdHands (fr := fr - 1) (ν := ν) (by omega) v1 w17_3 y4 hv1 μ1 hL ex2
      refine tp_callV (pc' := 33) (As := [.int w17_3, .int y4]) (fr1 := fr - 1) (ci := 8) okm_X8_holdHands lk_HandRing_Deeds_69 (show decode cX1_dropHolds 30 = .ok (.invokevirtual 69, 3) by decide +kernel) rfl rfl rfl (by decide) (la_vo hL hv1) rfl rfl (Nat.le_of_ble_eq_true rfl) (by omega) cx2 (st' := [.int x2]) rfl ?_
      rcases hm_is h with ⟨hc, h⟩ | ⟨hc, h⟩
      · refine tr_if_eq_t (tgt := 64) hc (show decode cX1_dropHolds 33 = .ok (.ifCond .eq 31, 3) by decide +kernel) (by decide) ?_
        exact ok_X1_dropHolds_J64 hfr _ w17_3 c4 e76 (f_X1_dropHolds_L17 v1 w17_3 c4 e76 e70 n) e70 hc4 he76 ih he70 hv1 y2 y4 μ1 hL h
      · refine tr_if_eq_f (tgt := 64) (pc' := 36) hc (show decode cX1_dropHolds 33 = .ok (.ifCond .eq 31, 3) by decide +kernel) (by decide) rfl ?_
        refine tr_aload_n (pc' := 37) (show decode cX1_dropHolds 36 = .ok (.aload_n 0, 1) by decide +kernel) rfl rfl rfl ?_
        refine tr_getR (pc' := 40) fl_HandRing_Deeds_15 (show decode cX1_dropHolds 37 = .ok (.getfield 15, 3) by decide +kernel) rfl (la_o hL (by decide) rfl) (la_r hL 54 rfl) ?_
        refine tr_aload_n (pc' := 41) (show decode cX1_dropHolds 40 = .ok (.aload_n 1, 1) by decide +kernel) rfl rfl rfl ?_
        refine tr_aload_n (pc' := 42) (show decode cX1_dropHolds 41 = .ok (.aload_n 1, 1) by decide +kernel) rfl rfl rfl ?_
        obtain ⟨x3, ex3, h⟩ := hm_bs h
        have cx3 := ok_X8_lawInForce (fr := fr - 1) (ν := ν) (by omega) v1 hv1 μ1 hL ex3
        refine tp_callV (pc' := 45) (As := []) (fr1 := fr - 1) (ci := 8) okm_X8_lawInForce lk_HandRing_Deeds_65 (show decode cX1_dropHolds 42 = .ok (.invokevirtual 65, 3) by decide +kernel) rfl rfl rfl (by decide) (la_vo hL hv1) rfl rfl (Nat.le_of_ble_eq_true rfl) (by omega) cx3 (st' := [va_rf x3, .ref v1, .ref 106]) rfl ?_
        have hx3 := la_lif hL hv1 ex3
        refine tr_iload_n (pc' := 46) (show decode cX1_dropHolds 45 = .ok (.iload_n 3, 1) by decide +kernel) rfl rfl rfl ?_
        refine tr_iload (pc' := 48) (show decode cX1_dropHolds 46 = .ok (.iload 4, 2) by decide +kernel) rfl rfl ?_
        obtain ⟨x4, μ5, ex4, h⟩ := hm_b2s h
        have cx4 := ok_X3_canHold (fr := fr - 1) (ν := ν) (by omega) v1 x3 w17_3 y4 hv1 hx3 μ1 hL ex4
        refine tp_callV (pc' := 51) (As := [.ref v1, va_rf x3, .int w17_3, .int y4]) (fr1 := fr - 1) (ci := 3) okm_X3_canHold lk_HandRing_Deeds_73 (show decode cX1_dropHolds 48 = .ok (.invokevirtual 73, 3) by decide +kernel) rfl rfl rfl (by decide) (la_o hL (by decide) rfl) rfl rfl (Nat.le_of_ble_eq_true rfl) (by omega) cx4 (st' := [.int x4]) rfl ?_
        replace hL := cx4.1
        rcases hm_is h with ⟨hc, h⟩ | ⟨hc, h⟩
        · refine tr_if_ne_f (tgt := 64) (pc' := 54) hc (show decode cX1_dropHolds 51 = .ok (.ifCond .ne 13, 3) by decide +kernel) (by decide) rfl ?_
          refine tr_aload_n (pc' := 55) (show decode cX1_dropHolds 54 = .ok (.aload_n 1, 1) by decide +kernel) rfl rfl rfl ?_
          refine tr_iload_n (pc' := 56) (show decode cX1_dropHolds 55 = .ok (.iload_n 3, 1) by decide +kernel) rfl rfl rfl ?_
          refine tr_iload (pc' := 58) (show decode cX1_dropHolds 56 = .ok (.iload 4, 2) by decide +kernel) rfl rfl ?_
          obtain ⟨μ7, ex6, h⟩ := hm_bs h
          have cx6 := ok_X8_part (fr := fr - 1) (ν := ν) (by omega) v1 w17_3 y4 hv1 μ5 hL ex6
          refine tp_callV (pc' := 61) (As := [.int w17_3, .int y4]) (fr1 := fr - 1) (ci := 8) okm_X8_part lk_HandRing_Deeds_87 (show decode cX1_dropHolds 58 = .ok (.invokevirtual 87, 3) by decide +kernel) rfl rfl rfl (by decide) (la_vo hL hv1) rfl rfl (Nat.le_of_ble_eq_true rfl) (by omega) cx6 (st' := []) rfl ?_
          replace hL := cx6.1
          refine tr_iinc (pc' := 64) (v := y2 + (1 : Int32)) (lv' := [some (.ref 110), some (.ref v1), some (.int (y2 + (1 : Int32))), some (.int w17_3), some (.int y4)]) (show decode cX1_dropHolds 61 = .ok (.iinc 2 1, 3) by decide +kernel) rfl rfl rfl (Nat.le_of_ble_eq_true rfl) rfl rfl ?_
          exact ok_X1_dropHolds_J64 hfr _ w17_3 c4 e76 (f_X1_dropHolds_L17 v1 w17_3 c4 e76 e70 n) e70 hc4 he76 ih he70 hv1 (y2 + (1 : Int32)) y4 μ7 hL h
        · refine tr_if_ne_t (tgt := 64) hc (show decode cX1_dropHolds 51 = .ok (.ifCond .ne 13, 3) by decide +kernel) (by decide) ?_
          exact ok_X1_dropHolds_J64 hfr _ w17_3 c4 e76 (f_X1_dropHolds_L17 v1 w17_3 c4 e76 e70 n) e70 hc4 he76 ih he70 hv1 y2 y4 μ5 hL h
def f_X1_dropHolds_L4 (v1 : Nat) (e76 : Int32 → hm_M → Option (Int32 × hm_M)) : Nat → Int32 → Int32 → hm_M → Option (Int32 × hm_M)
  | 0, _, _, _ => none
  | n + 1, y2, y3, μ1 => (if (μ1.1 v1 0) ≤ y3 then
  e76 y2 μ1
  else
  f_X1_dropHolds_L17 v1 y3 (f_X1_dropHolds_L4 v1 e76 n) e76 (fun z8_2 μz8 => (f_X1_dropHolds_L4 v1 e76 n) z8_2 (y3 + (1 : Int32)) μz8) hm_fu y2 (y3 + (1 : Int32)) μ1)
theorem ok_X1_dropHolds_L4 {fr : Nat} (hfr : 4 ≤ fr) {ν : hm_N} {r : Int32} {μR : hm_M}  (v1 : Nat) (e76 : Int32 → hm_M → Option (Int32 × hm_M))  (he76 : ∀ (y2 : Int32)  (μ1 : hm_M), hm_LL ν μ1 → e76 y2 μ1 = some (r, μR) → hm_T (hm_LL ν) m_X1_dropHolds fr 0 0 (some (.int r)) μR 76 [none, none, some (.int y2), none, none] [] μ1) (hv1 : hm_V v1) : ∀ (n : Nat) (y2 : Int32) (y3 : Int32)  (μ1 : hm_M), hm_LL ν μ1 → f_X1_dropHolds_L4 v1 e76 n y2 y3 μ1 = some (r, μR) → hm_T (hm_LL ν) m_X1_dropHolds fr 0 0 (some (.int r)) μR 4 [some (.ref 110), some (.ref v1), some (.int y2), some (.int y3), none] [] μ1 := by
  intro n
  induction n with
  | zero =>
    intro y2 y3 μ1 hL h
    unfold f_X1_dropHolds_L4 at h
    cases h
  | succ n ih =>
    intro y2 y3 μ1 hL h
    unfold f_X1_dropHolds_L4 at h
    refine tr_iload_n (pc' := 5) (show decode cX1_dropHolds 4 = .ok (.iload_n 3, 1) by decide +kernel) rfl rfl rfl ?_
    refine tr_aload_n (pc' := 6) (show decode cX1_dropHolds 5 = .ok (.aload_n 1, 1) by decide +kernel) rfl rfl rfl ?_
    refine tr_getI (pc' := 9) fl_HandRing_Deeds_109 (show decode cX1_dropHolds 6 = .ok (.getfield 109, 3) by decide +kernel) rfl (la_vo hL hv1) ?_
    rcases hm_is h with ⟨hc, h⟩ | ⟨hc, h⟩
    · refine tr_icmp_ge_t (tgt := 76) hc (show decode cX1_dropHolds 9 = .ok (.if_icmp .ge 67, 3) by decide +kernel) (by decide) ?_
      refine hm_fgt [false, false, true, false, false] (lv' := [none, none, some (.int y2), none, none]) rfl ?_
      exact he76 y2 μ1 hL h
    · refine tr_icmp_ge_f (tgt := 76) (pc' := 12) hc (show decode cX1_dropHolds 9 = .ok (.if_icmp .ge 67, 3) by decide +kernel) (by decide) rfl ?_
      refine tr_iload_n (pc' := 13) (show decode cX1_dropHolds 12 = .ok (.iload_n 3, 1) by decide +kernel) rfl rfl rfl ?_
      refine tr_iconst (pc' := 14) (v := (1 : Int32)) (show decode cX1_dropHolds 13 = .ok (.iconst 1, 1) by decide +kernel) rfl (by decide) ?_
      refine tr_iadd (pc' := 15) (show decode cX1_dropHolds 14 = .ok (.iadd, 1) by decide +kernel) rfl ?_
      refine tr_istore (pc' := 17) (lv' := [some (.ref 110), some (.ref v1), some (.int y2), some (.int y3), some (.int (y3 + (1 : Int32)))]) (show decode cX1_dropHolds 15 = .ok (.istore 4, 2) by decide +kernel) rfl (Nat.le_of_ble_eq_true rfl) rfl rfl ?_
      refine ok_X1_dropHolds_L17 hfr _ y3 (f_X1_dropHolds_L4 v1 e76 n) e76 _ ih he76 ?_ hv1 _ y2 (y3 + (1 : Int32)) μ1 hL h
      · intro z8_2 μz8 hL h
        refine tr_iinc (pc' := 73) (v := y3 + (1 : Int32)) (lv' := [some (.ref 110), some (.ref v1), some (.int z8_2), some (.int (y3 + (1 : Int32))), none]) (show decode cX1_dropHolds 70 = .ok (.iinc 3 1, 3) by decide +kernel) rfl rfl rfl (Nat.le_of_ble_eq_true rfl) rfl rfl ?_
        refine tr_goto (tgt := 4) (show decode cX1_dropHolds 73 = .ok (.goto (-69), 3) by decide +kernel) rfl ?_
        exact ih z8_2 (y3 + (1 : Int32)) μz8 hL h
def f_X1_dropHolds (v1 : Nat) (μ : hm_M) : Option (Int32 × hm_M) :=
  f_X1_dropHolds_L4 v1 (fun z9_2 μz9 => some (z9_2, μz9)) hm_fu (0 : Int32) (0 : Int32) μ
set_option maxRecDepth 100000 in
theorem ok_X1_dropHolds {fr : Nat} (hfr : 4 ≤ fr) {ν : hm_N} {r : Int32} {μR : hm_M}  (v1 : Nat) (hv1 : hm_V v1) (μ : hm_M) (hL : hm_LL ν μ) (h : f_X1_dropHolds v1 μ = some (r, μR)) : hm_CC (hm_LL ν) m_X1_dropHolds fr 0 0 [.ref 110, .ref v1] μ (some (.int r)) μR := by
  refine hm_enter (lv := [some (.ref 110), some (.ref v1), none, none, none]) (by decide) rfl (Nat.le_of_ble_eq_true rfl) ?_
  unfold f_X1_dropHolds at h
  refine tr_iconst (pc' := 1) (v := (0 : Int32)) (show decode cX1_dropHolds 0 = .ok (.iconst 0, 1) by decide +kernel) rfl (by decide) ?_
  refine tr_istore_n (pc' := 2) (lv' := [some (.ref 110), some (.ref v1), some (.int (0 : Int32)), none, none]) (show decode cX1_dropHolds 1 = .ok (.istore_n 2, 1) by decide +kernel) rfl rfl (Nat.le_of_ble_eq_true rfl) rfl rfl ?_
  refine tr_iconst (pc' := 3) (v := (0 : Int32)) (show decode cX1_dropHolds 2 = .ok (.iconst 0, 1) by decide +kernel) rfl (by decide) ?_
  refine tr_istore_n (pc' := 4) (lv' := [some (.ref 110), some (.ref v1), some (.int (0 : Int32)), some (.int (0 : Int32)), none]) (show decode cX1_dropHolds 3 = .ok (.istore_n 3, 1) by decide +kernel) rfl rfl (Nat.le_of_ble_eq_true rfl) rfl rfl ?_
  refine ok_X1_dropHolds_L4 hfr _ _ ?_ hv1 _ (0 : Int32) (0 : Int32) μ hL h
  · intro z9_2 μz9 hL h
    refine tr_iload_n (pc' := 77) (show decode cX1_dropHolds 76 = .ok (.iload_n 2, 1) by decide +kernel) rfl rfl rfl ?_
    cases h
    exact tr_iret rfl (show decode cX1_dropHolds 77 = .ok (.ireturn, 1) by decide +kernel) hL
def f_X3_tiresBy (v1 : Nat) (v2 : Option Nat) (v3 : Int32) (μ : hm_M) : Option (Int32 × hm_M) :=
  Option.bind (hm_ld μ (v1 + 2) 8 v3) fun x2 =>
  Option.bind (f_X3_setWords v1 v3 x2 μ) fun μ4 =>
  Option.bind (hm_sd μ4 109 8 (1 : Int32) (-1 : Int32)) fun μ5 =>
  Option.bind (hm_sd μ5 109 8 (3 : Int32) (-1 : Int32)) fun μ6 =>
  Option.bind (hm_sd μ6 109 8 (4 : Int32) (-1 : Int32)) fun μ7 =>
  hm_b2 (f_X3_lastTold v2 (1 : Int32) μ7) fun x8 μ9 =>
  (if x8 = (2000000000 : Int32) then
  some ((0 : Int32), μ9)
  else
  some (if (0 : Int32) < (if x8 < (4 : Int32) then x8 else (4 : Int32)) then (if x8 < (4 : Int32) then x8 else (4 : Int32)) else (0 : Int32), μ9))
set_option maxRecDepth 100000 in
theorem ok_X3_tiresBy {fr : Nat} (hfr : 3 ≤ fr) {ν : hm_N} {r : Int32} {μR : hm_M}  (v1 : Nat) (v2 : Option Nat) (v3 : Int32) (hv1 : hm_V v1) (hv2 : ∀ p, v2 = some p → hm_pg ν p) (μ : hm_M) (hL : hm_LL ν μ) (h : f_X3_tiresBy v1 v2 v3 μ = some (r, μR)) : hm_CC (hm_LL ν) m_X3_tiresBy fr 0 0 [.ref 106, .ref v1, va_rf v2, .int v3] μ (some (.int r)) μR := by
  refine hm_enter (lv := [some (.ref 106), some (.ref v1), some (va_rf v2), some (.int v3), none]) (by decide) (by cases v2 <;> rfl) (by cases v2 <;> exact Nat.le_of_ble_eq_true rfl) ?_
  unfold f_X3_tiresBy at h
  refine tr_aload_n (pc' := 1) (show decode cX3_tiresBy 0 = .ok (.aload_n 0, 1) by decide +kernel) rfl rfl rfl ?_
  refine tr_aload_n (pc' := 2) (show decode cX3_tiresBy 1 = .ok (.aload_n 1, 1) by decide +kernel) rfl rfl rfl ?_
  refine tr_iload_n (pc' := 3) (show decode cX3_tiresBy 2 = .ok (.iload_n 3, 1) by decide +kernel) rfl rfl rfl ?_
  refine tr_aload_n (pc' := 4) (show decode cX3_tiresBy 3 = .ok (.aload_n 1, 1) by decide +kernel) rfl rfl rfl ?_
  refine tr_getR (pc' := 7) fl_HandRing_Judge_55 (show decode cX3_tiresBy 4 = .ok (.getfield 55, 3) by decide +kernel) rfl (la_vo hL hv1) (la_v2 hL hv1) ?_
  refine tr_iload_n (pc' := 8) (show decode cX3_tiresBy 7 = .ok (.iload_n 3, 1) by decide +kernel) rfl rfl rfl ?_
  obtain ⟨x2, ex2, h⟩ := hm_bs h
  refine tp_ldI (pc' := 9) (show decode cX3_tiresBy 8 = .ok (.iaload, 1) by decide +kernel) rfl (la_va2 hL hv1) ex2 ?_
  obtain ⟨μ4, ex3, h⟩ := hm_bs h
  have cx3 := ok_X3_setWords (fr := fr - 1) (ν := ν) (by omega) v1 v3 x2 hv1 μ hL ex3
  refine tp_callV (pc' := 12) (As := [.ref v1, .int v3, .int x2]) (fr1 := fr - 1) (ci := 3) okm_X3_setWords lk_HandRing_Judge_59 (show decode cX3_tiresBy 9 = .ok (.invokevirtual 59, 3) by decide +kernel) rfl rfl rfl (by decide) (la_o hL (by decide) rfl) rfl rfl (Nat.le_of_ble_eq_true rfl) (by omega) cx3 (st' := []) rfl ?_
  replace hL := cx3.1
  refine tr_aload_n (pc' := 13) (show decode cX3_tiresBy 12 = .ok (.aload_n 0, 1) by decide +kernel) rfl rfl rfl ?_
  refine tr_getR (pc' := 16) fl_HandRing_Judge_16 (show decode cX3_tiresBy 13 = .ok (.getfield 16, 3) by decide +kernel) rfl (la_o hL (by decide) rfl) (la_r hL 51 rfl) ?_
  refine tr_getR (pc' := 19) fl_HandRing_Judge_62 (show decode cX3_tiresBy 16 = .ok (.getfield 62, 3) by decide +kernel) rfl (la_o hL (by decide) rfl) (la_r hL 52 rfl) ?_
  refine tr_iconst (pc' := 20) (v := (1 : Int32)) (show decode cX3_tiresBy 19 = .ok (.iconst 1, 1) by decide +kernel) rfl (by decide) ?_
  refine tr_iconst (pc' := 21) (v := (-1 : Int32)) (show decode cX3_tiresBy 20 = .ok (.iconst (-1), 1) by decide +kernel) rfl (by decide) ?_
  obtain ⟨μ5, eμ5, h⟩ := hm_bs h
  refine tp_sdI (pc' := 22) (show decode cX3_tiresBy 21 = .ok (.iastore, 1) by decide +kernel) rfl (la_a hL (by decide) rfl) eμ5 ?_
  replace hL := hL.same (hm_sd_s eμ5)
  refine tr_aload_n (pc' := 23) (show decode cX3_tiresBy 22 = .ok (.aload_n 0, 1) by decide +kernel) rfl rfl rfl ?_
  refine tr_getR (pc' := 26) fl_HandRing_Judge_16 (show decode cX3_tiresBy 23 = .ok (.getfield 16, 3) by decide +kernel) rfl (la_o hL (by decide) rfl) (la_r hL 51 rfl) ?_
  refine tr_getR (pc' := 29) fl_HandRing_Judge_62 (show decode cX3_tiresBy 26 = .ok (.getfield 62, 3) by decide +kernel) rfl (la_o hL (by decide) rfl) (la_r hL 52 rfl) ?_
  refine tr_iconst (pc' := 30) (v := (3 : Int32)) (show decode cX3_tiresBy 29 = .ok (.iconst 3, 1) by decide +kernel) rfl (by decide) ?_
  refine tr_iconst (pc' := 31) (v := (-1 : Int32)) (show decode cX3_tiresBy 30 = .ok (.iconst (-1), 1) by decide +kernel) rfl (by decide) ?_
  obtain ⟨μ6, eμ6, h⟩ := hm_bs h
  refine tp_sdI (pc' := 32) (show decode cX3_tiresBy 31 = .ok (.iastore, 1) by decide +kernel) rfl (la_a hL (by decide) rfl) eμ6 ?_
  replace hL := hL.same (hm_sd_s eμ6)
  refine tr_aload_n (pc' := 33) (show decode cX3_tiresBy 32 = .ok (.aload_n 0, 1) by decide +kernel) rfl rfl rfl ?_
  refine tr_getR (pc' := 36) fl_HandRing_Judge_16 (show decode cX3_tiresBy 33 = .ok (.getfield 16, 3) by decide +kernel) rfl (la_o hL (by decide) rfl) (la_r hL 51 rfl) ?_
  refine tr_getR (pc' := 39) fl_HandRing_Judge_62 (show decode cX3_tiresBy 36 = .ok (.getfield 62, 3) by decide +kernel) rfl (la_o hL (by decide) rfl) (la_r hL 52 rfl) ?_
  refine tr_iconst (pc' := 40) (v := (4 : Int32)) (show decode cX3_tiresBy 39 = .ok (.iconst 4, 1) by decide +kernel) rfl (by decide) ?_
  refine tr_iconst (pc' := 41) (v := (-1 : Int32)) (show decode cX3_tiresBy 40 = .ok (.iconst (-1), 1) by decide +kernel) rfl (by decide) ?_
  obtain ⟨μ7, eμ7, h⟩ := hm_bs h
  refine tp_sdI (pc' := 42) (show decode cX3_tiresBy 41 = .ok (.iastore, 1) by decide +kernel) rfl (la_a hL (by decide) rfl) eμ7 ?_
  replace hL := hL.same (hm_sd_s eμ7)
  refine tr_aload_n (pc' := 43) (show decode cX3_tiresBy 42 = .ok (.aload_n 0, 1) by decide +kernel) rfl rfl rfl ?_
  refine tr_aloadq_n (pc' := 44) (show decode cX3_tiresBy 43 = .ok (.aload_n 2, 1) by decide +kernel) rfl rfl rfl ?_
  refine tr_iconst (pc' := 45) (v := (1 : Int32)) (show decode cX3_tiresBy 44 = .ok (.iconst 1, 1) by decide +kernel) rfl (by decide) ?_
  obtain ⟨x8, μ9, ex8, h⟩ := hm_b2s h
  have cx8 := ok_X3_lastTold (fr := fr - 1) (ν := ν) (by omega) v2 (1 : Int32) hv2 μ7 hL ex8
  refine tp_callV (pc' := 48) (As := [va_rf v2, .int (1 : Int32)]) (fr1 := fr - 1) (ci := 3) okm_X3_lastTold lk_HandRing_Judge_24 (show decode cX3_tiresBy 45 = .ok (.invokevirtual 24, 3) by decide +kernel) rfl rfl rfl (by decide) (la_o hL (by decide) rfl) rfl rfl (Nat.le_of_ble_eq_true rfl) (by omega) cx8 (st' := [.int x8]) rfl ?_
  replace hL := cx8.1
  refine tr_istore (pc' := 50) (lv' := [some (.ref 106), some (.ref v1), some (va_rf v2), some (.int v3), some (.int x8)]) (show decode cX3_tiresBy 48 = .ok (.istore 4, 2) by decide +kernel) rfl (Nat.le_of_ble_eq_true rfl) rfl rfl ?_
  refine tr_iload (pc' := 52) (show decode cX3_tiresBy 50 = .ok (.iload 4, 2) by decide +kernel) rfl rfl ?_
  refine tr_ldc (pc' := 54) (v := (2000000000 : Int32)) (show decode cX3_tiresBy 52 = .ok (.ldc 28, 2) by decide +kernel) rfl kc_HandRing_Judge_28 ?_
  rcases hm_is h with ⟨hc, h⟩ | ⟨hc, h⟩
  · refine tr_icmp_ne_f (tgt := 61) (pc' := 57) hc (show decode cX3_tiresBy 54 = .ok (.if_icmp .ne 7, 3) by decide +kernel) (by decide) rfl ?_
    refine tr_iconst (pc' := 58) (v := (0 : Int32)) (show decode cX3_tiresBy 57 = .ok (.iconst 0, 1) by decide +kernel) rfl (by decide) ?_
    refine tr_goto (tgt := 71) (show decode cX3_tiresBy 58 = .ok (.goto 13, 3) by decide +kernel) rfl ?_
    cases h
    exact tr_iret rfl (show decode cX3_tiresBy 71 = .ok (.ireturn, 1) by decide +kernel) hL
  · refine tr_icmp_ne_t (tgt := 61) hc (show decode cX3_tiresBy 54 = .ok (.if_icmp .ne 7, 3) by decide +kernel) (by decide) ?_
    refine tr_iconst (pc' := 62) (v := (0 : Int32)) (show decode cX3_tiresBy 61 = .ok (.iconst 0, 1) by decide +kernel) rfl (by decide) ?_
    refine tr_iconst (pc' := 63) (v := (4 : Int32)) (show decode cX3_tiresBy 62 = .ok (.iconst 4, 1) by decide +kernel) rfl (by decide) ?_
    refine tr_iload (pc' := 65) (show decode cX3_tiresBy 63 = .ok (.iload 4, 2) by decide +kernel) rfl rfl ?_
    refine tr_min (pc' := 68) lk_HandRing_Judge_35 kw_min_s kw_Math_i kw_min_c (show decode cX3_tiresBy 65 = .ok (.invokestatic 35, 3) by decide +kernel) rfl (Nat.le_of_ble_eq_true rfl) (by omega) ?_
    refine tr_max (pc' := 71) lk_HandRing_Judge_40 kw_max_s kw_Math_i kw_max_c (show decode cX3_tiresBy 68 = .ok (.invokestatic 40, 3) by decide +kernel) rfl (Nat.le_of_ble_eq_true rfl) (by omega) ?_
    cases h
    exact tr_iret rfl (show decode cX3_tiresBy 71 = .ok (.ireturn, 1) by decide +kernel) hL
def f_X1_passDay_L19 (v1 : Nat) (e52 : hm_M → Option (Int32 × hm_M)) : Nat → Int32 → hm_M → Option (Int32 × hm_M)
  | 0, _, _ => none
  | n + 1, y2, μ1 => (if (μ1.1 v1 0) ≤ y2 then
  e52 μ1
  else
  Option.bind (f_X8_lawInForce v1 μ1) fun x4 =>
  hm_b2 (f_X3_tiresBy v1 x4 y2 μ1) fun x5 μ6 =>
  Option.bind (hm_sd μ6 111 8 y2 x5) fun μ7 =>
  (f_X1_passDay_L19 v1 e52 n) (y2 + (1 : Int32)) μ7)
theorem ok_X1_passDay_L19 {fr : Nat} (hfr : 4 ≤ fr) {ν : hm_N} {r : Int32} {μR : hm_M}  (v1 : Nat) (e52 : hm_M → Option (Int32 × hm_M))  (he52 : ∀   (μ1 : hm_M), hm_LL ν μ1 → e52 μ1 = some (r, μR) → hm_T (hm_LL ν) m_X1_passDay fr 0 0 (some (.int r)) μR 52 [some (.ref 110), some (.ref v1), none] [] μ1) (hv1 : hm_V v1) : ∀ (n : Nat) (y2 : Int32)  (μ1 : hm_M), hm_LL ν μ1 → f_X1_passDay_L19 v1 e52 n y2 μ1 = some (r, μR) → hm_T (hm_LL ν) m_X1_passDay fr 0 0 (some (.int r)) μR 19 [some (.ref 110), some (.ref v1), some (.int y2)] [] μ1 := by
  intro n
  induction n with
  | zero =>
    intro y2 μ1 hL h
    unfold f_X1_passDay_L19 at h
    cases h
  | succ n ih =>
    intro y2 μ1 hL h
    unfold f_X1_passDay_L19 at h
    refine tr_iload_n (pc' := 20) (show decode cX1_passDay 19 = .ok (.iload_n 2, 1) by decide +kernel) rfl rfl rfl ?_
    refine tr_aload_n (pc' := 21) (show decode cX1_passDay 20 = .ok (.aload_n 1, 1) by decide +kernel) rfl rfl rfl ?_
    refine tr_getI (pc' := 24) fl_HandRing_Deeds_109 (show decode cX1_passDay 21 = .ok (.getfield 109, 3) by decide +kernel) rfl (la_vo hL hv1) ?_
    rcases hm_is h with ⟨hc, h⟩ | ⟨hc, h⟩
    · refine tr_icmp_ge_t (tgt := 52) hc (show decode cX1_passDay 24 = .ok (.if_icmp .ge 28, 3) by decide +kernel) (by decide) ?_
      refine hm_fgt [true, true, false] (lv' := [some (.ref 110), some (.ref v1), none]) rfl ?_
      exact he52 μ1 hL h
    · refine tr_icmp_ge_f (tgt := 52) (pc' := 27) hc (show decode cX1_passDay 24 = .ok (.if_icmp .ge 28, 3) by decide +kernel) (by decide) rfl ?_
      refine tr_aload_n (pc' := 28) (show decode cX1_passDay 27 = .ok (.aload_n 0, 1) by decide +kernel) rfl rfl rfl ?_
      refine tr_getR (pc' := 31) fl_HandRing_Deeds_9 (show decode cX1_passDay 28 = .ok (.getfield 9, 3) by decide +kernel) rfl (la_o hL (by decide) rfl) (la_r hL 55 rfl) ?_
      refine tr_iload_n (pc' := 32) (show decode cX1_passDay 31 = .ok (.iload_n 2, 1) by decide +kernel) rfl rfl rfl ?_
      refine tr_aload_n (pc' := 33) (show decode cX1_passDay 32 = .ok (.aload_n 0, 1) by decide +kernel) rfl rfl rfl ?_
      refine tr_getR (pc' := 36) fl_HandRing_Deeds_15 (show decode cX1_passDay 33 = .ok (.getfield 15, 3) by decide +kernel) rfl (la_o hL (by decide) rfl) (la_r hL 54 rfl) ?_
      refine tr_aload_n (pc' := 37) (show decode cX1_passDay 36 = .ok (.aload_n 1, 1) by decide +kernel) rfl rfl rfl ?_
      refine tr_aload_n (pc' := 38) (show decode cX1_passDay 37 = .ok (.aload_n 1, 1) by decide +kernel) rfl rfl rfl ?_
      obtain ⟨x4, ex4, h⟩ := hm_bs h
      have cx4 := ok_X8_lawInForce (fr := fr - 1) (ν := ν) (by omega) v1 hv1 μ1 hL ex4
      refine tp_callV (pc' := 41) (As := []) (fr1 := fr - 1) (ci := 8) okm_X8_lawInForce lk_HandRing_Deeds_65 (show decode cX1_passDay 38 = .ok (.invokevirtual 65, 3) by decide +kernel) rfl rfl rfl (by decide) (la_vo hL hv1) rfl rfl (Nat.le_of_ble_eq_true rfl) (by omega) cx4 (st' := [va_rf x4, .ref v1, .ref 106, .int y2, .ref 111]) rfl ?_
      have hx4 := la_lif hL hv1 ex4
      refine tr_iload_n (pc' := 42) (show decode cX1_passDay 41 = .ok (.iload_n 2, 1) by decide +kernel) rfl rfl rfl ?_
      obtain ⟨x5, μ6, ex5, h⟩ := hm_b2s h
      have cx5 := ok_X3_tiresBy (fr := fr - 1) (ν := ν) (by omega) v1 x4 y2 hv1 hx4 μ1 hL ex5
      refine tp_callV (pc' := 45) (As := [.ref v1, va_rf x4, .int y2]) (fr1 := fr - 1) (ci := 3) okm_X3_tiresBy lk_HandRing_Deeds_113 (show decode cX1_passDay 42 = .ok (.invokevirtual 113, 3) by decide +kernel) rfl rfl rfl (by decide) (la_o hL (by decide) rfl) rfl rfl (Nat.le_of_ble_eq_true rfl) (by omega) cx5 (st' := [.int x5, .int y2, .ref 111]) rfl ?_
      replace hL := cx5.1
      obtain ⟨μ7, eμ7, h⟩ := hm_bs h
      refine tp_sdI (pc' := 46) (show decode cX1_passDay 45 = .ok (.iastore, 1) by decide +kernel) rfl (la_a hL (by decide) rfl) eμ7 ?_
      replace hL := hL.same (hm_sd_s eμ7)
      refine tr_iinc (pc' := 49) (v := y2 + (1 : Int32)) (lv' := [some (.ref 110), some (.ref v1), some (.int (y2 + (1 : Int32)))]) (show decode cX1_passDay 46 = .ok (.iinc 2 1, 3) by decide +kernel) rfl rfl rfl (Nat.le_of_ble_eq_true rfl) rfl rfl ?_
      refine tr_goto (tgt := 19) (show decode cX1_passDay 49 = .ok (.goto (-30), 3) by decide +kernel) rfl ?_
      exact ih (y2 + (1 : Int32)) μ7 hL h
def f_X1_passDay_L54 (v1 : Nat) (e91 : hm_M → Option (Int32 × hm_M)) : Nat → Int32 → hm_M → Option (Int32 × hm_M)
  | 0, _, _ => none
  | n + 1, y2, μ1 => (if (μ1.1 v1 0) ≤ y2 then
  e91 μ1
  else
  Option.bind (hm_ld μ1 (v1 + 2) 8 y2) fun x9 =>
  Option.bind (hm_ld μ1 111 8 y2) fun x10 =>
  Option.bind (hm_sd μ1 (v1 + 2) 8 y2 (if (0 : Int32) < (x9 - x10) then (x9 - x10) else (0 : Int32))) fun μ11 =>
  (f_X1_passDay_L54 v1 e91 n) (y2 + (1 : Int32)) μ11)
theorem ok_X1_passDay_L54 {fr : Nat} (hfr : 4 ≤ fr) {ν : hm_N} {r : Int32} {μR : hm_M}  (v1 : Nat) (e91 : hm_M → Option (Int32 × hm_M))  (he91 : ∀   (μ1 : hm_M), hm_LL ν μ1 → e91 μ1 = some (r, μR) → hm_T (hm_LL ν) m_X1_passDay fr 0 0 (some (.int r)) μR 91 [none, some (.ref v1), none] [] μ1) (hv1 : hm_V v1) : ∀ (n : Nat) (y2 : Int32)  (μ1 : hm_M), hm_LL ν μ1 → f_X1_passDay_L54 v1 e91 n y2 μ1 = some (r, μR) → hm_T (hm_LL ν) m_X1_passDay fr 0 0 (some (.int r)) μR 54 [some (.ref 110), some (.ref v1), some (.int y2)] [] μ1 := by
  intro n
  induction n with
  | zero =>
    intro y2 μ1 hL h
    unfold f_X1_passDay_L54 at h
    cases h
  | succ n ih =>
    intro y2 μ1 hL h
    unfold f_X1_passDay_L54 at h
    refine tr_iload_n (pc' := 55) (show decode cX1_passDay 54 = .ok (.iload_n 2, 1) by decide +kernel) rfl rfl rfl ?_
    refine tr_aload_n (pc' := 56) (show decode cX1_passDay 55 = .ok (.aload_n 1, 1) by decide +kernel) rfl rfl rfl ?_
    refine tr_getI (pc' := 59) fl_HandRing_Deeds_109 (show decode cX1_passDay 56 = .ok (.getfield 109, 3) by decide +kernel) rfl (la_vo hL hv1) ?_
    rcases hm_is h with ⟨hc, h⟩ | ⟨hc, h⟩
    · refine tr_icmp_ge_t (tgt := 91) hc (show decode cX1_passDay 59 = .ok (.if_icmp .ge 32, 3) by decide +kernel) (by decide) ?_
      refine hm_fgt [false, true, false] (lv' := [none, some (.ref v1), none]) rfl ?_
      exact he91 μ1 hL h
    · refine tr_icmp_ge_f (tgt := 91) (pc' := 62) hc (show decode cX1_passDay 59 = .ok (.if_icmp .ge 32, 3) by decide +kernel) (by decide) rfl ?_
      refine tr_aload_n (pc' := 63) (show decode cX1_passDay 62 = .ok (.aload_n 1, 1) by decide +kernel) rfl rfl rfl ?_
      refine tr_getR (pc' := 66) fl_HandRing_Deeds_117 (show decode cX1_passDay 63 = .ok (.getfield 117, 3) by decide +kernel) rfl (la_vo hL hv1) (la_v2 hL hv1) ?_
      refine tr_iload_n (pc' := 67) (show decode cX1_passDay 66 = .ok (.iload_n 2, 1) by decide +kernel) rfl rfl rfl ?_
      refine tr_iconst (pc' := 68) (v := (0 : Int32)) (show decode cX1_passDay 67 = .ok (.iconst 0, 1) by decide +kernel) rfl (by decide) ?_
      refine tr_aload_n (pc' := 69) (show decode cX1_passDay 68 = .ok (.aload_n 1, 1) by decide +kernel) rfl rfl rfl ?_
      refine tr_getR (pc' := 72) fl_HandRing_Deeds_117 (show decode cX1_passDay 69 = .ok (.getfield 117, 3) by decide +kernel) rfl (la_vo hL hv1) (la_v2 hL hv1) ?_
      refine tr_iload_n (pc' := 73) (show decode cX1_passDay 72 = .ok (.iload_n 2, 1) by decide +kernel) rfl rfl rfl ?_
      obtain ⟨x9, ex9, h⟩ := hm_bs h
      refine tp_ldI (pc' := 74) (show decode cX1_passDay 73 = .ok (.iaload, 1) by decide +kernel) rfl (la_va2 hL hv1) ex9 ?_
      refine tr_aload_n (pc' := 75) (show decode cX1_passDay 74 = .ok (.aload_n 0, 1) by decide +kernel) rfl rfl rfl ?_
      refine tr_getR (pc' := 78) fl_HandRing_Deeds_9 (show decode cX1_passDay 75 = .ok (.getfield 9, 3) by decide +kernel) rfl (la_o hL (by decide) rfl) (la_r hL 55 rfl) ?_
      refine tr_iload_n (pc' := 79) (show decode cX1_passDay 78 = .ok (.iload_n 2, 1) by decide +kernel) rfl rfl rfl ?_
      obtain ⟨x10, ex10, h⟩ := hm_bs h
      refine tp_ldI (pc' := 80) (show decode cX1_passDay 79 = .ok (.iaload, 1) by decide +kernel) rfl (la_a hL (by decide) rfl) ex10 ?_
      refine tr_isub (pc' := 81) (show decode cX1_passDay 80 = .ok (.isub, 1) by decide +kernel) rfl ?_
      refine tr_max (pc' := 84) lk_HandRing_Deeds_120 kw_max_s kw_Math_i kw_max_c (show decode cX1_passDay 81 = .ok (.invokestatic 120, 3) by decide +kernel) rfl (Nat.le_of_ble_eq_true rfl) (by omega) ?_
      obtain ⟨μ11, eμ11, h⟩ := hm_bs h
      refine tp_sdI (pc' := 85) (show decode cX1_passDay 84 = .ok (.iastore, 1) by decide +kernel) rfl (la_va2 hL hv1) eμ11 ?_
      replace hL := hL.same (hm_sd_s eμ11)
      refine tr_iinc (pc' := 88) (v := y2 + (1 : Int32)) (lv' := [some (.ref 110), some (.ref v1), some (.int (y2 + (1 : Int32)))]) (show decode cX1_passDay 85 = .ok (.iinc 2 1, 3) by decide +kernel) rfl rfl rfl (Nat.le_of_ble_eq_true rfl) rfl rfl ?_
      refine tr_goto (tgt := 54) (show decode cX1_passDay 88 = .ok (.goto (-34), 3) by decide +kernel) rfl ?_
      exact ih (y2 + (1 : Int32)) μ11 hL h
def f_X1_passDay (v1 : Nat) (μ : hm_M) : Option (Int32 × hm_M) :=
  Option.bind (hm_ld μ (v1 + 5) 4 (0 : Int32)) fun x2 =>
  Option.bind (hm_ldX 1 (0 : Int32)) fun x3 =>
  (if x2 < x3 then
  f_X1_passDay_L19 v1 (fun μz8 => f_X1_passDay_L54 v1 (fun μz12 => Option.bind (hm_ld μz12 (v1 + 5) 4 (0 : Int32)) fun x13 =>
  Option.bind (hm_sd μz12 (v1 + 5) 4 (0 : Int32) (x13 + (1 : Int32))) fun μ14 =>
  Option.bind (hm_ld μ14 (v1 + 5) 4 (0 : Int32)) fun x15 =>
  some (x15, μ14)) hm_fu (0 : Int32) μz8) hm_fu (0 : Int32) μ
  else
  some ((-3 : Int32), μ))
set_option maxRecDepth 100000 in
theorem ok_X1_passDay {fr : Nat} (hfr : 4 ≤ fr) {ν : hm_N} {r : Int32} {μR : hm_M}  (v1 : Nat) (hv1 : hm_V v1) (μ : hm_M) (hL : hm_LL ν μ) (h : f_X1_passDay v1 μ = some (r, μR)) : hm_CC (hm_LL ν) m_X1_passDay fr 0 0 [.ref 110, .ref v1] μ (some (.int r)) μR := by
  refine hm_enter (lv := [some (.ref 110), some (.ref v1), none]) (by decide) rfl (Nat.le_of_ble_eq_true rfl) ?_
  unfold f_X1_passDay at h
  refine tr_aload_n (pc' := 1) (show decode cX1_passDay 0 = .ok (.aload_n 1, 1) by decide +kernel) rfl rfl rfl ?_
  refine tr_getR (pc' := 4) fl_HandRing_Deeds_103 (show decode cX1_passDay 1 = .ok (.getfield 103, 3) by decide +kernel) rfl (la_vo hL hv1) (la_v5 hL hv1) ?_
  refine tr_iconst (pc' := 5) (v := (0 : Int32)) (show decode cX1_passDay 4 = .ok (.iconst 0, 1) by decide +kernel) rfl (by decide) ?_
  obtain ⟨x2, ex2, h⟩ := hm_bs h
  refine tp_ldI (pc' := 6) (show decode cX1_passDay 5 = .ok (.iaload, 1) by decide +kernel) rfl (la_va5 hL hv1) ex2 ?_
  refine tr_getsN (pc' := 9) (i := 1) (j := 1) (host := "HandRing") rfl (by decide) rfl (show decode cX1_passDay 6 = .ok (.getstatic 106, 3) by decide +kernel) rfl ?_
  refine tr_iconst (pc' := 10) (v := (0 : Int32)) (show decode cX1_passDay 9 = .ok (.iconst 0, 1) by decide +kernel) rfl (by decide) ?_
  obtain ⟨x3, ex3, h⟩ := hm_bs h
  refine tr_ldX (pc' := 11) (i0 := 1) (by decide) (show decode cX1_passDay 10 = .ok (.iaload, 1) by decide +kernel) rfl ex3 ?_
  rcases hm_is h with ⟨hc, h⟩ | ⟨hc, h⟩
  · refine tr_icmp_lt_t (tgt := 17) hc (show decode cX1_passDay 11 = .ok (.if_icmp .lt 6, 3) by decide +kernel) (by decide) ?_
    refine tr_iconst (pc' := 18) (v := (0 : Int32)) (show decode cX1_passDay 17 = .ok (.iconst 0, 1) by decide +kernel) rfl (by decide) ?_
    refine tr_istore_n (pc' := 19) (lv' := [some (.ref 110), some (.ref v1), some (.int (0 : Int32))]) (show decode cX1_passDay 18 = .ok (.istore_n 2, 1) by decide +kernel) rfl rfl (Nat.le_of_ble_eq_true rfl) rfl rfl ?_
    refine ok_X1_passDay_L19 hfr _ _ ?_ hv1 _ (0 : Int32) μ hL h
    · intro μz8 hL h
      refine tr_iconst (pc' := 53) (v := (0 : Int32)) (show decode cX1_passDay 52 = .ok (.iconst 0, 1) by decide +kernel) rfl (by decide) ?_
      refine tr_istore_n (pc' := 54) (lv' := [some (.ref 110), some (.ref v1), some (.int (0 : Int32))]) (show decode cX1_passDay 53 = .ok (.istore_n 2, 1) by decide +kernel) rfl rfl (Nat.le_of_ble_eq_true rfl) rfl rfl ?_
      refine ok_X1_passDay_L54 hfr _ _ ?_ hv1 _ (0 : Int32) μz8 hL h
      · intro μz12 hL h
        refine tr_aload_n (pc' := 92) (show decode cX1_passDay 91 = .ok (.aload_n 1, 1) by decide +kernel) rfl rfl rfl ?_
        refine tr_getR (pc' := 95) fl_HandRing_Deeds_103 (show decode cX1_passDay 92 = .ok (.getfield 103, 3) by decide +kernel) rfl (la_vo hL hv1) (la_v5 hL hv1) ?_
        refine tr_iconst (pc' := 96) (v := (0 : Int32)) (show decode cX1_passDay 95 = .ok (.iconst 0, 1) by decide +kernel) rfl (by decide) ?_
        refine tr_dup2 (pc' := 97) (show decode cX1_passDay 96 = .ok (.dup2, 1) by decide +kernel) rfl rfl rfl ?_
        obtain ⟨x13, ex13, h⟩ := hm_bs h
        refine tp_ldI (pc' := 98) (show decode cX1_passDay 97 = .ok (.iaload, 1) by decide +kernel) rfl (la_va5 hL hv1) ex13 ?_
        refine tr_iconst (pc' := 99) (v := (1 : Int32)) (show decode cX1_passDay 98 = .ok (.iconst 1, 1) by decide +kernel) rfl (by decide) ?_
        refine tr_iadd (pc' := 100) (show decode cX1_passDay 99 = .ok (.iadd, 1) by decide +kernel) rfl ?_
        obtain ⟨μ14, eμ14, h⟩ := hm_bs h
        refine tp_sdI (pc' := 101) (show decode cX1_passDay 100 = .ok (.iastore, 1) by decide +kernel) rfl (la_va5 hL hv1) eμ14 ?_
        replace hL := hL.same (hm_sd_s eμ14)
        refine tr_aload_n (pc' := 102) (show decode cX1_passDay 101 = .ok (.aload_n 1, 1) by decide +kernel) rfl rfl rfl ?_
        refine tr_getR (pc' := 105) fl_HandRing_Deeds_103 (show decode cX1_passDay 102 = .ok (.getfield 103, 3) by decide +kernel) rfl (la_vo hL hv1) (la_v5 hL hv1) ?_
        refine tr_iconst (pc' := 106) (v := (0 : Int32)) (show decode cX1_passDay 105 = .ok (.iconst 0, 1) by decide +kernel) rfl (by decide) ?_
        obtain ⟨x15, ex15, h⟩ := hm_bs h
        refine tp_ldI (pc' := 107) (show decode cX1_passDay 106 = .ok (.iaload, 1) by decide +kernel) rfl (la_va5 hL hv1) ex15 ?_
        cases h
        exact tr_iret rfl (show decode cX1_passDay 107 = .ok (.ireturn, 1) by decide +kernel) hL
  · refine tr_icmp_lt_f (tgt := 17) (pc' := 14) hc (show decode cX1_passDay 11 = .ok (.if_icmp .lt 6, 3) by decide +kernel) (by decide) rfl ?_
    refine tr_bipush (pc' := 16) (v := (-3 : Int32)) (show decode cX1_passDay 14 = .ok (.bipush (-3), 2) by decide +kernel) rfl (by decide) ?_
    cases h
    exact tr_iret rfl (show decode cX1_passDay 16 = .ok (.ireturn, 1) by decide +kernel) hL
