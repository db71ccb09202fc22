/-! The trimmed copy of a program. -/
def hm_tf (o p n1 n2 l1 l2 l3 : Nat) (μ : hm_M) : Prop := hm_at μ o 5 ∧ hm_at μ p 5 ∧ (hm_ar μ (o + 1) 13 l1 ∧ hm_ar μ (o + 2) 13 l2 ∧ hm_ar μ (o + 3) 13 l3) ∧ (hm_ar μ (p + 1) 13 n1 ∧ hm_ar μ (p + 2) 13 n1 ∧ hm_ar μ (p + 3) 13 (n2 * 6)) ∧ (μ.2.2.1 o 0 = some (o + 1) ∧ μ.2.2.1 o 1 = some (o + 2) ∧ μ.2.2.1 o 2 = some (o + 3)) ∧ (μ.2.2.1 p 0 = some (p + 1) ∧ μ.2.2.1 p 1 = some (p + 2) ∧ μ.2.2.1 p 2 = some (p + 3))
theorem hm_tf.same {o p n1 n2 l1 l2 l3 : Nat} {μ μ1 : hm_M} (h : hm_tf o p n1 n2 l1 l2 l3 μ) (e : μ1.2.2 = μ.2.2) : hm_tf o p n1 n2 l1 l2 l3 μ1 := by
  unfold hm_tf hm_at hm_ar hm_nx hm_kd hm_ln at *
  rw [e]
  exact h
theorem hm_rfv {x : Option Nat} {b : Nat} (h : x = some b) : va_rf x = .ref b := by rw [h]; rfl
/-- what the constructor leaves -/
theorem hm_i5_n (μ : hm_M) (n1 n2 : Nat) : hm_nx (hm_i5 (hm_al μ 5 0) (hm_nx μ) n1 n2) = hm_nx μ + 4 := rfl
theorem hm_i5_k (μ : hm_M) (n1 n2 b : Nat) : hm_kd (hm_i5 (hm_al μ 5 0) (hm_nx μ) n1 n2) b = if b = hm_nx μ + 3 then 13 else if b = hm_nx μ + 2 then 13 else if b = hm_nx μ + 1 then 13 else if b = hm_nx μ then 5 else hm_kd μ b := rfl
theorem hm_i5_l (μ : hm_M) (n1 n2 b : Nat) : hm_ln (hm_i5 (hm_al μ 5 0) (hm_nx μ) n1 n2) b = if b = hm_nx μ + 3 then n2 * 6 else if b = hm_nx μ + 2 then n1 else if b = hm_nx μ + 1 then n1 else if b = hm_nx μ then 0 else hm_ln μ b := rfl
theorem hm_i5_I (μ : hm_M) (n1 n2 : Nat) {b : Nat} (h : b < hm_nx μ) : (hm_i5 (hm_al μ 5 0) (hm_nx μ) n1 n2).1 b = μ.1 b := by
  show (if b = hm_nx μ + 3 then _ else if b = hm_nx μ + 2 then _ else if b = hm_nx μ + 1 then _ else if b = hm_nx μ then _ else μ.1 b) = _
  rw [if_neg (by omega), if_neg (by omega), if_neg (by omega), if_neg (by omega)]
theorem hm_i5_R (μ : hm_M) (n1 n2 b j : Nat) : (hm_i5 (hm_al μ 5 0) (hm_nx μ) n1 n2).2.2.1 b j = if b = hm_nx μ ∧ j = 2 then some (hm_nx μ + 3) else if b = hm_nx μ + 3 then none else if b = hm_nx μ ∧ j = 1 then some (hm_nx μ + 2) else if b = hm_nx μ + 2 then none else if b = hm_nx μ ∧ j = 0 then some (hm_nx μ + 1) else if b = hm_nx μ + 1 then none else if b = hm_nx μ then none else μ.2.2.1 b j := by
  unfold hm_i5 hm_wR hm_u hm_al hm_nx
  dsimp only
  split
  · rfl
  · by_cases h3 : b = μ.2.2.2.1 + 1 + 1 + 1
    · rw [if_pos h3, if_pos (show b = μ.2.2.2.1 + 3 by omega)]
    · rw [if_neg h3, if_neg (show ¬ b = μ.2.2.2.1 + 3 by omega)]
      split
      · rfl
      · by_cases h2 : b = μ.2.2.2.1 + 1 + 1
        · rw [if_pos h2, if_pos (show b = μ.2.2.2.1 + 2 by omega)]
        · rw [if_neg h2, if_neg (show ¬ b = μ.2.2.2.1 + 2 by omega)]
          split
          · rfl
          · by_cases h1 : b = μ.2.2.2.1 + 1
            · rw [if_pos h1, if_pos h1]
            · rw [if_neg h1, if_neg h1]
              by_cases h0 : b = μ.2.2.2.1
              · rw [if_pos h0, if_pos h0]
              · rw [if_neg h0, if_neg h0]
theorem hm_i5_tf {ν : hm_N} {μ : hm_M} {o : Nat} (n1 n2 : Nat) (hL : hm_LL ν μ) (ho : hm_pg ν o) : hm_tf o (hm_nx μ) n1 n2 (hm_ln μ (o + 1)) (hm_ln μ (o + 2)) (hm_ln μ (o + 3)) (hm_i5 (hm_al μ 5 0) (hm_nx μ) n1 n2) := by
  have a1 := la_pa1 hL ho
  have a2 := la_pa2 hL ho
  have a3 := la_pa3 hL ho
  have a0 := la_po hL ho
  obtain ⟨r0, r1, r2⟩ := hL.2.2.2.2.1 o ho
  have b1 := a1.2.1
  have b2 := a2.2.1
  have b3 := a3.2.1
  have b0 := a0.2.1
  have h64 := a0.1
  have K : ∀ b, b < hm_nx μ → hm_kd (hm_i5 (hm_al μ 5 0) (hm_nx μ) n1 n2) b = hm_kd μ b ∧ hm_ln (hm_i5 (hm_al μ 5 0) (hm_nx μ) n1 n2) b = hm_ln μ b := fun b hb => by
    rw [hm_i5_k, hm_i5_l, if_neg (by omega), if_neg (by omega), if_neg (by omega), if_neg (by omega), if_neg (by omega), if_neg (by omega), if_neg (by omega), if_neg (by omega)]
    exact ⟨rfl, rfl⟩
  have R : ∀ b j, b < hm_nx μ → (hm_i5 (hm_al μ 5 0) (hm_nx μ) n1 n2).2.2.1 b j = μ.2.2.1 b j := fun b j hb => by
    rw [hm_i5_R, if_neg (by omega), if_neg (by omega), if_neg (by omega), if_neg (by omega), if_neg (by omega), if_neg (by omega), if_neg (by omega)]
  have N : ∀ x, x < hm_nx μ + 4 → x < hm_nx (hm_i5 (hm_al μ 5 0) (hm_nx μ) n1 n2) := fun x h => h
  refine ⟨⟨h64, N _ (by omega), by rw [(K o b0).1]; exact a0.2.2⟩, ⟨by omega, N _ (by omega), ?_⟩, ⟨⟨a1.1, N _ (by omega), by rw [(K _ b1).1]; exact a1.2.2.1, (K _ b1).2⟩, ⟨a2.1, N _ (by omega), by rw [(K _ b2).1]; exact a2.2.2.1, (K _ b2).2⟩, ⟨a3.1, N _ (by omega), by rw [(K _ b3).1]; exact a3.2.2.1, (K _ b3).2⟩⟩, ⟨⟨by omega, N _ (by omega), ?_, ?_⟩, ⟨by omega, N _ (by omega), ?_, ?_⟩, ⟨by omega, N _ (by omega), ?_, ?_⟩⟩, ⟨by rw [R _ _ b0]; exact r0, by rw [R _ _ b0]; exact r1, by rw [R _ _ b0]; exact r2⟩, ?_, ?_, ?_⟩
  · rw [hm_i5_k, if_neg (by omega), if_neg (by omega), if_neg (by omega), if_pos rfl]
  · rw [hm_i5_k, if_neg (by omega), if_neg (by omega), if_pos rfl]
  · rw [hm_i5_l, if_neg (by omega), if_neg (by omega), if_pos rfl]
  · rw [hm_i5_k, if_neg (by omega), if_pos rfl]
  · rw [hm_i5_l, if_neg (by omega), if_pos rfl]
  · rw [hm_i5_k, if_pos rfl]
  · rw [hm_i5_l, if_pos rfl]
  · rw [hm_i5_R, if_neg (by omega), if_neg (by omega), if_neg (by omega), if_neg (by omega), if_pos ⟨rfl, rfl⟩]
  · rw [hm_i5_R, if_neg (by omega), if_neg (by omega), if_pos ⟨rfl, rfl⟩]
  · rw [hm_i5_R, if_pos ⟨rfl, rfl⟩]
def f_X5_trimmed (o0 n1 n2 : Nat) (μ : hm_M) : Option hm_M :=
  Option.bind (hm_cp (hm_i5 (hm_al μ 5 0) (hm_nx μ) n1 n2) (o0 + 1) (hm_ln μ (o0 + 1)) 0 (hm_nx μ + 1) n1 0 (nI n1)) fun μ1 =>
  Option.bind (hm_cp μ1 (o0 + 2) (hm_ln μ (o0 + 2)) 0 (hm_nx μ + 2) n1 0 (μ1.1 o0 3)) fun μ2 =>
  Option.bind (hm_cp μ2 (o0 + 3) (hm_ln μ (o0 + 3)) 0 (hm_nx μ + 3) (n2 * 6) 0 (μ2.1 o0 4 * 6)) fun μ3 =>
  Option.bind (hm_pI μ3 (hm_nx μ) 3 (μ3.1 o0 3)) fun μ4 =>
  Option.bind (hm_pI μ4 (hm_nx μ) 4 (μ4.1 o0 4)) fun μ5 =>
  hm_pZ μ5 (hm_nx μ) 5 (μ5.1 o0 5)
set_option maxRecDepth 100000 in
theorem ok_X5_trimmed {Λ : hm_M → Prop} {fr : Nat} (hfr : 2 ≤ fr) {ν : hm_N} {o0 n1 n2 : Nat} (ho0 : hm_pg ν o0) (hn1 : n1 ≤ 400) (hn2 : n2 ≤ 12) (μ : hm_M) (hL : hm_LL ν μ) (e1 : μ.1 o0 3 = nI n1) (e2 : μ.1 o0 4 = nI n2) {μR : hm_M} (h : f_X5_trimmed o0 n1 n2 μ = some μR) (hΛ : Λ μR) : hm_CC Λ m_X5_trimmed fr 4 878 [.ref o0] μ (some (va_rf (some (hm_nx μ)))) μR := by
  have h64 : 64 ≤ hm_nx μ := by have := (la_po hL ho0).1; have := (la_po hL ho0).2.1; omega
  have hne : ¬ o0 = hm_nx μ := by have := (la_po hL ho0).2.1; omega
  refine hm_enter (lv := [some (.ref o0), none]) (by decide) rfl (Nat.le_of_ble_eq_true rfl) ?_
  unfold f_X5_trimmed at h
  refine tr_new (pc' := 3) kl_5 tyX5 tyX5_ok df_5 kcl_HandRing_Program_14 kw_in_5 kw_ini_5 (show decode cX5_trimmed 0 = .ok (.new 14, 3) by decide +kernel) rfl (by omega) (by omega) ?_
  refine tr_dup (pc' := 4) (show decode cX5_trimmed 3 = .ok (.dup, 1) by decide +kernel) rfl rfl ?_
  refine tr_aload_n (pc' := 5) (show decode cX5_trimmed 4 = .ok (.aload_n 0, 1) by decide +kernel) rfl rfl rfl ?_
  refine tr_getI (pc' := 8) fl_HandRing_Program_25 (show decode cX5_trimmed 5 = .ok (.getfield 25, 3) by decide +kernel) rfl (hm_at_al (la_po hL ho0)) ?_
  refine tr_aload_n (pc' := 9) (show decode cX5_trimmed 8 = .ok (.aload_n 0, 1) by decide +kernel) rfl rfl rfl ?_
  refine tr_getI (pc' := 12) fl_HandRing_Program_29 (show decode cX5_trimmed 9 = .ok (.getfield 29, 3) by decide +kernel) rfl (hm_at_al (la_po hL ho0)) ?_
  rw [show (hm_al μ 5 0).1 o0 3 = nI n1 by show (if o0 = hm_nx μ then _ else μ.1 o0) 3 = _; rw [if_neg hne]; exact e1, show (hm_al μ 5 0).1 o0 4 = nI n2 by show (if o0 = hm_nx μ then _ else μ.1 o0) 4 = _; rw [if_neg hne]; exact e2]
  refine tr_callI (pc' := 15) (As := [.int (nI n1), .int (nI n2)]) (fr1 := fr - 1) (kc1 := 3) (ks1 := 872) okm_X5_init lk_HandRing_Program_36 (show decode cX5_trimmed 12 = .ok (.invokespecial 36, 3) by decide +kernel) rfl h64 rfl rfl (Nat.le_of_ble_eq_true rfl) (by omega) (by omega) (by omega) (ok_X5_init (Λ := fun _ => True) (by omega) hn1 hn2 (hm_al μ 5 0) (hm_at_new h64) trivial) ?_
  refine tr_astore_n (pc' := 16) (lv' := [some (.ref o0), some (.ref (hm_nx μ))]) (show decode cX5_trimmed 15 = .ok (.astore_n 1, 1) by decide +kernel) rfl rfl (Nat.le_of_ble_eq_true rfl) rfl rfl ?_
  have tf := hm_i5_tf n1 n2 hL ho0
  have i0 : (hm_i5 (hm_al μ 5 0) (hm_nx μ) n1 n2).1 o0 3 = nI n1 := by rw [hm_i5_I μ n1 n2 (la_po hL ho0).2.1]; exact e1
  refine tr_aload_n (pc' := 17) (show decode cX5_trimmed 16 = .ok (.aload_n 0, 1) by decide +kernel) rfl rfl rfl ?_
  refine tr_getR (pc' := 20) fl_HandRing_Program_13 (show decode cX5_trimmed 17 = .ok (.getfield 13, 3) by decide +kernel) rfl tf.1 (hm_rfv tf.2.2.2.2.1.1) ?_
  refine tr_iconst (pc' := 21) (v := (0 : Int32)) (show decode cX5_trimmed 20 = .ok (.iconst 0, 1) by decide +kernel) rfl (by decide) ?_
  refine tr_aload_n (pc' := 22) (show decode cX5_trimmed 21 = .ok (.aload_n 1, 1) by decide +kernel) rfl rfl rfl ?_
  refine tr_getR (pc' := 25) fl_HandRing_Program_13 (show decode cX5_trimmed 22 = .ok (.getfield 13, 3) by decide +kernel) rfl tf.2.1 (hm_rfv tf.2.2.2.2.2.1) ?_
  refine tr_iconst (pc' := 26) (v := (0 : Int32)) (show decode cX5_trimmed 25 = .ok (.iconst 0, 1) by decide +kernel) rfl (by decide) ?_
  refine tr_aload_n (pc' := 27) (show decode cX5_trimmed 26 = .ok (.aload_n 0, 1) by decide +kernel) rfl rfl rfl ?_
  refine tr_getI (pc' := 30) fl_HandRing_Program_25 (show decode cX5_trimmed 27 = .ok (.getfield 25, 3) by decide +kernel) rfl tf.1 ?_
  rw [i0]
  obtain ⟨μ1, c1, h⟩ := hm_bs h
  refine tp_cp (pc' := 33) lk_HandRing_Program_39 kw_ac_n kw_ac_s kw_Sys_i (show decode cX5_trimmed 30 = .ok (.invokestatic 39, 3) by decide +kernel) rfl (Nat.le_of_ble_eq_true rfl) (by omega) tf.2.2.1.1 tf.2.2.2.1.1 c1 ?_
  replace tf := tf.same (hm_cp_s c1)
  refine tr_aload_n (pc' := 34) (show decode cX5_trimmed 33 = .ok (.aload_n 0, 1) by decide +kernel) rfl rfl rfl ?_
  refine tr_getR (pc' := 37) fl_HandRing_Program_19 (show decode cX5_trimmed 34 = .ok (.getfield 19, 3) by decide +kernel) rfl tf.1 (hm_rfv tf.2.2.2.2.1.2.1) ?_
  refine tr_iconst (pc' := 38) (v := (0 : Int32)) (show decode cX5_trimmed 37 = .ok (.iconst 0, 1) by decide +kernel) rfl (by decide) ?_
  refine tr_aload_n (pc' := 39) (show decode cX5_trimmed 38 = .ok (.aload_n 1, 1) by decide +kernel) rfl rfl rfl ?_
  refine tr_getR (pc' := 42) fl_HandRing_Program_19 (show decode cX5_trimmed 39 = .ok (.getfield 19, 3) by decide +kernel) rfl tf.2.1 (hm_rfv tf.2.2.2.2.2.2.1) ?_
  refine tr_iconst (pc' := 43) (v := (0 : Int32)) (show decode cX5_trimmed 42 = .ok (.iconst 0, 1) by decide +kernel) rfl (by decide) ?_
  refine tr_aload_n (pc' := 44) (show decode cX5_trimmed 43 = .ok (.aload_n 0, 1) by decide +kernel) rfl rfl rfl ?_
  refine tr_getI (pc' := 47) fl_HandRing_Program_25 (show decode cX5_trimmed 44 = .ok (.getfield 25, 3) by decide +kernel) rfl tf.1 ?_
  obtain ⟨μ2, c2, h⟩ := hm_bs h
  refine tp_cp (pc' := 50) lk_HandRing_Program_39 kw_ac_n kw_ac_s kw_Sys_i (show decode cX5_trimmed 47 = .ok (.invokestatic 39, 3) by decide +kernel) rfl (Nat.le_of_ble_eq_true rfl) (by omega) tf.2.2.1.2.1 tf.2.2.2.1.2.1 c2 ?_
  replace tf := tf.same (hm_cp_s c2)
  refine tr_aload_n (pc' := 51) (show decode cX5_trimmed 50 = .ok (.aload_n 0, 1) by decide +kernel) rfl rfl rfl ?_
  refine tr_getR (pc' := 54) fl_HandRing_Program_22 (show decode cX5_trimmed 51 = .ok (.getfield 22, 3) by decide +kernel) rfl tf.1 (hm_rfv tf.2.2.2.2.1.2.2) ?_
  refine tr_iconst (pc' := 55) (v := (0 : Int32)) (show decode cX5_trimmed 54 = .ok (.iconst 0, 1) by decide +kernel) rfl (by decide) ?_
  refine tr_aload_n (pc' := 56) (show decode cX5_trimmed 55 = .ok (.aload_n 1, 1) by decide +kernel) rfl rfl rfl ?_
  refine tr_getR (pc' := 59) fl_HandRing_Program_22 (show decode cX5_trimmed 56 = .ok (.getfield 22, 3) by decide +kernel) rfl tf.2.1 (hm_rfv tf.2.2.2.2.2.2.2) ?_
  refine tr_iconst (pc' := 60) (v := (0 : Int32)) (show decode cX5_trimmed 59 = .ok (.iconst 0, 1) by decide +kernel) rfl (by decide) ?_
  refine tr_aload_n (pc' := 61) (show decode cX5_trimmed 60 = .ok (.aload_n 0, 1) by decide +kernel) rfl rfl rfl ?_
  refine tr_getI (pc' := 64) fl_HandRing_Program_29 (show decode cX5_trimmed 61 = .ok (.getfield 29, 3) by decide +kernel) rfl tf.1 ?_
  refine tr_bipush (pc' := 66) (v := (6 : Int32)) (show decode cX5_trimmed 64 = .ok (.bipush 6, 2) by decide +kernel) rfl (by decide) ?_
  refine tr_imul (pc' := 67) (show decode cX5_trimmed 66 = .ok (.imul, 1) by decide +kernel) rfl ?_
  obtain ⟨μ3, c3, h⟩ := hm_bs h
  refine tp_cp (pc' := 70) lk_HandRing_Program_39 kw_ac_n kw_ac_s kw_Sys_i (show decode cX5_trimmed 67 = .ok (.invokestatic 39, 3) by decide +kernel) rfl (Nat.le_of_ble_eq_true rfl) (by omega) tf.2.2.1.2.2 tf.2.2.2.1.2.2 c3 ?_
  replace tf := tf.same (hm_cp_s c3)
  refine tr_aload_n (pc' := 71) (show decode cX5_trimmed 70 = .ok (.aload_n 1, 1) by decide +kernel) rfl rfl rfl ?_
  refine tr_aload_n (pc' := 72) (show decode cX5_trimmed 71 = .ok (.aload_n 0, 1) by decide +kernel) rfl rfl rfl ?_
  refine tr_getI (pc' := 75) fl_HandRing_Program_25 (show decode cX5_trimmed 72 = .ok (.getfield 25, 3) by decide +kernel) rfl tf.1 ?_
  obtain ⟨μ4, c4, h⟩ := hm_bs h
  refine tp_pI (pc' := 78) fl_HandRing_Program_25 (show decode cX5_trimmed 75 = .ok (.putfield 25, 3) by decide +kernel) rfl tf.2.1 c4 ?_
  replace tf := tf.same (hm_pI_s c4)
  refine tr_aload_n (pc' := 79) (show decode cX5_trimmed 78 = .ok (.aload_n 1, 1) by decide +kernel) rfl rfl rfl ?_
  refine tr_aload_n (pc' := 80) (show decode cX5_trimmed 79 = .ok (.aload_n 0, 1) by decide +kernel) rfl rfl rfl ?_
  refine tr_getI (pc' := 83) fl_HandRing_Program_29 (show decode cX5_trimmed 80 = .ok (.getfield 29, 3) by decide +kernel) rfl tf.1 ?_
  obtain ⟨μ5, c5, h⟩ := hm_bs h
  refine tp_pI (pc' := 86) fl_HandRing_Program_29 (show decode cX5_trimmed 83 = .ok (.putfield 29, 3) by decide +kernel) rfl tf.2.1 c5 ?_
  replace tf := tf.same (hm_pI_s c5)
  refine tr_aload_n (pc' := 87) (show decode cX5_trimmed 86 = .ok (.aload_n 1, 1) by decide +kernel) rfl rfl rfl ?_
  refine tr_aload_n (pc' := 88) (show decode cX5_trimmed 87 = .ok (.aload_n 0, 1) by decide +kernel) rfl rfl rfl ?_
  refine tr_getI (pc' := 91) fl_HandRing_Program_32 (show decode cX5_trimmed 88 = .ok (.getfield 32, 3) by decide +kernel) rfl tf.1 ?_
  refine tp_pZ (pc' := 94) fl_HandRing_Program_32 (show decode cX5_trimmed 91 = .ok (.putfield 32, 3) by decide +kernel) rfl tf.2.1 h ?_
  refine tr_aload_n (pc' := 95) (show decode cX5_trimmed 94 = .ok (.aload_n 1, 1) by decide +kernel) rfl rfl rfl ?_
  exact tr_aret (x := some (hm_nx μ)) rfl (Or.inl ⟨_, rfl⟩) (show decode cX5_trimmed 95 = .ok (.areturn, 1) by decide +kernel) hΛ
