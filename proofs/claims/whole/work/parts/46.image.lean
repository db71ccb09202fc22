/-! Images. -/
theorem VR.like {μ μ' : hm_M} {v o : Nat} {ρ ρ' : Nat → Int32} (h : VR μ v ρ) (eL : hm_ln μ' = hm_ln μ) (hρ : ∀ k, k < 5665 → ρ' k = ρ k) (e1 : μ'.1 o 0 = μ.1 v 0 ∧ μ'.1 o 7 = μ.1 v 7 ∧ μ'.1 o 8 = μ.1 v 8 ∧ μ'.1 o 12 = μ.1 v 12) (e2 : ∀ i, i < 8 → μ'.1 (o + 1) i = μ.1 (v + 1) i ∧ μ'.1 (o + 2) i = μ.1 (v + 2) i ∧ μ'.1 (o + 3) i = μ.1 (v + 3) i ∧ μ'.1 (o + 4) i = μ.1 (v + 4) i) (e3 : ∀ i, i < 4 → μ'.1 (o + 5) i = μ.1 (v + 5) i) (e4 : ∀ i, i < 6 → μ'.1 (o + 7) i = μ.1 (v + 7) i ∧ μ'.1 (o + 8) i = μ.1 (v + 8) i ∧ μ'.1 (o + 9) i = μ.1 (v + 9) i) (e5 : ∀ t, t < 6 → μ'.2.2.1 (o + 6) t = μ.2.2.1 (v + 6) t) (e6 : ∀ a j, 205 ≤ a → μ'.1 a j = μ.1 a j) : VR μ' o ρ' := by
  obtain ⟨⟨b1, b2, b3, b4, b5, b6, b7⟩, b8, b9, c1, c2, c3, ⟨c4, c5⟩, c6, c7⟩ := h
  have l4 := b4.2
  have l5 := b5.2
  refine ⟨⟨?_, fun i hi => ?_, ?_, ?_, ?_, ⟨fun p q hp hq => ?_, fun p q hp => ?_⟩, ?_⟩, ?_, ?_, ?_, fun i hi => ?_, ?_, ⟨?_, ?_⟩, ?_, ?_⟩
  · rw [hρ 54 (by omega)]; exact b1
  · rw [hρ i (by omega), hρ (8 + i) (by omega), hρ (25 + i) (by omega), hρ (16 + i) (by omega)]; exact b2 i hi
  · rw [hρ 24 (by omega), hρ 51 (by omega), hρ 52 (by omega), hρ 53 (by omega)]; exact b3
  · rw [hρ 55 (by omega)]; exact b4
  · rw [hρ 56 (by omega)]; exact b5
  · rw [hρ (16 + p) (by omega), hρ (16 + q) (by omega)]; exact b6.1 p q hp hq
  · rw [hρ (16 + p) (by omega), hρ 54 (by omega)]; exact b6.2 p q hp
  · exact rws_same b7 (by rw [hρ 55 (by omega)]) (by omega) (by rw [hρ 54 (by omega)]; exact Nat.le_refl _) (fun k _ _ => hρ k (by omega))
  · unfold rw_force at b8 ⊢
    rw [hρ 57 (by omega), hρ 56 (by omega)]; exact b8
  · rw [hρ 57 (by omega), e1.2.2.1]; exact b9
  · rw [hρ 54 (by omega), e1.1]; exact c1
  · rw [hρ i (by omega), hρ (8 + i) (by omega), hρ (25 + i) (by omega), hρ (16 + i) (by omega), (e2 i hi).1, (e2 i hi).2.1, (e2 i hi).2.2.1, (e2 i hi).2.2.2]; exact c2 i hi
  · rw [hρ 24 (by omega), hρ 51 (by omega), hρ 52 (by omega), hρ 53 (by omega), e3 0 (by omega), e3 1 (by omega), e3 2 (by omega), e3 3 (by omega)]; exact c3
  · rw [hρ 55 (by omega), e1.2.2.2]; exact c4
  · rw [hρ 56 (by omega), e1.2.1]; exact c5
  · exact seen_same c6 (by rw [hρ 55 (by omega)]) (by omega) (fun k _ _ => hρ k (by omega)) e4
  · intro t ht
    rw [hρ 56 (by omega)] at ht
    obtain ⟨p, p1, p2, pl, p3⟩ := c7 t ht
    have e9 : ∀ a, 205 ≤ a → μ'.1 a = μ.1 a := fun a ha => funext fun j => e6 a j ha
    refine ⟨p, by rw [e5 t (by omega)]; exact p1, p2, by unfold pgl at pl ⊢; rw [e9 _ p2, eL]; exact pl, ?_⟩
    rw [e9 _ (by omega), e9 _ (by omega), e9 _ (by omega), e9 _ (by omega), hρ (58 + t) (by omega)]
    exact lawr_cong p3 (fun k hk => hρ _ (by omega)) (fun k hk => hρ _ (by omega))
theorem VR.keep {μ μ' : hm_M} {v : Nat} {ρ : Nat → Int32} (h : VR μ v ρ) (eL : hm_ln μ' = hm_ln μ) (e5 : ∀ t, t < 6 → μ'.2.2.1 (v + 6) t = μ.2.2.1 (v + 6) t) (e6 : ∀ a j, (v ≤ a ∧ a ≤ v + 9) ∨ 205 ≤ a → μ'.1 a j = μ.1 a j) : VR μ' v ρ :=
  h.like eL (fun _ _ => rfl) ⟨e6 _ _ (by omega), e6 _ _ (by omega), e6 _ _ (by omega), e6 _ _ (by omega)⟩ (fun i _ => ⟨e6 _ _ (by omega), e6 _ _ (by omega), e6 _ _ (by omega), e6 _ _ (by omega)⟩) (fun i _ => e6 _ _ (by omega)) (fun i _ => ⟨e6 _ _ (by omega), e6 _ _ (by omega), e6 _ _ (by omega)⟩) e5 (fun a j ha => e6 _ _ (by omega))
theorem ldR_75 {ν : hm_N} {μ : hm_M} (hL : hm_LL ν μ) {k : Nat} (hk : k < 2) : hm_ldR μ 75 2 (Int32.ofNat k) = some (some (159 + 10 * k)) := by
  rw [ldR_n hk (by decide)]
  match k, hk with
  | 0, _ => rw [hL.2.2.2.1 22 (75, 0, 159) rfl]
  | 1, _ => rw [hL.2.2.2.1 23 (75, 1, 169) rfl]
  | k + 2, h => omega
theorem nar_b : vp_nar .boolean (Int32.ofNat 1) = Int32.ofNat 1 := rfl
theorem v_image10 {μ : hm_M} {k : Nat} (hk : k < 2) : f_X10_image (Int32.ofNat k) μ = some (Int32.ofNat 0, hm_wI (hm_wI (cpm μ 181 0 182 (5665 * k) 5665) 183 k (Int32.ofNat 1)) 179 0 (Int32.ofNat 0)) := by
  have loop : ∀ (e : hm_M → Option (Int32 × hm_M)) (m : hm_M), f_X10_image_L17 (Int32.ofNat k) e hm_fu (Int32.ofNat 0) m = e (cpm m 181 0 182 (5665 * k) 5665) := fun e m => cpy_loop (Or.inl (by decide)) (fun n i m hi => by simp (disch := omega) only [f_X10_image_L17, Nat.zero_add, n_lit, i_lt, i_le, i_eq, n_toInt, n_neg, if_pos, if_neg, if_true, if_false, Option.bind_some, b2_some, pI_some, ld_n, sd_n, n_add, n_mul, n_sub, wI_ne, wI_eq, wI_r, wR_1, cpm_ne, cpm_eq, cpm_r, rf9_ne, and_true, true_and, rz_n0, rz_n1, pZ_n0, pZ_n1, v_rf9n, v_rf10n, -Int32.reduceOfNat]) (fun n m => by simp (disch := omega) only [f_X10_image_L17, n_lit, i_lt, i_le, i_eq, n_toInt, n_neg, if_pos, if_neg, if_true, if_false, Option.bind_some, b2_some, pI_some, ld_n, sd_n, n_add, n_mul, n_sub, wI_ne, wI_eq, wI_r, wR_1, cpm_ne, cpm_eq, cpm_r, rf9_ne, and_true, true_and, rz_n0, rz_n1, pZ_n0, pZ_n1, v_rf9n, v_rf10n, -Int32.reduceOfNat]) (fu_lt (by decide)) m
  simp (disch := omega) only [f_X10_image, v_lies, loop, v_gd10, nar_b, n_lit, i_lt, i_le, i_eq, n_toInt, n_neg, if_pos, if_neg, if_true, if_false, Option.bind_some, b2_some, pI_some, ld_n, sd_n, n_add, n_mul, n_sub, wI_ne, wI_eq, wI_r, wR_1, cpm_ne, cpm_eq, cpm_r, rf9_ne, and_true, true_and, rz_n0, rz_n1, pZ_n0, pZ_n1, v_rf9n, v_rf10n, -Int32.reduceOfNat]
theorem v_back10 {μ : hm_M} {k : Nat} (hk : k < 2) (h1 : μ.1 183 k = 1) : f_X10_back (Int32.ofNat k) μ = some (Int32.ofNat 0, hm_wI (hm_wI (cpm μ 182 (5665 * k) 181 0 5665) 179 33 (Int32.ofNat 0)) 179 0 (Int32.ofNat 0)) := by
  have loop : ∀ (e : hm_M → Option (Int32 × hm_M)) (m : hm_M), f_X10_back_L33 (Int32.ofNat k) e hm_fu (Int32.ofNat 0) m = e (cpm m 182 (5665 * k) 181 0 5665) := fun e m => cpy_loop (Or.inl (by decide)) (fun n i m hi => by simp (disch := omega) only [f_X10_back_L33, Nat.zero_add, n_lit, i_lt, i_le, i_eq, n_toInt, n_neg, if_pos, if_neg, if_true, if_false, Option.bind_some, b2_some, pI_some, ld_n, sd_n, n_add, n_mul, n_sub, wI_ne, wI_eq, wI_r, wR_1, cpm_ne, cpm_eq, cpm_r, rf9_ne, and_true, true_and, rz_n0, rz_n1, pZ_n0, pZ_n1, v_rf9n, v_rf10n, -Int32.reduceOfNat]) (fun n m => by simp (disch := omega) only [f_X10_back_L33, n_lit, i_lt, i_le, i_eq, n_toInt, n_neg, if_pos, if_neg, if_true, if_false, Option.bind_some, b2_some, pI_some, ld_n, sd_n, n_add, n_mul, n_sub, wI_ne, wI_eq, wI_r, wR_1, cpm_ne, cpm_eq, cpm_r, rf9_ne, and_true, true_and, rz_n0, rz_n1, pZ_n0, pZ_n1, v_rf9n, v_rf10n, -Int32.reduceOfNat]) (fu_lt (by decide)) m
  simp (disch := omega) only [f_X10_back, v_lies, h1, loop, v_st10, n_lit, i_lt, i_le, i_eq, n_toInt, n_neg, if_pos, if_neg, if_true, if_false, Option.bind_some, b2_some, pI_some, ld_n, sd_n, n_add, n_mul, n_sub, wI_ne, wI_eq, wI_r, wR_1, cpm_ne, cpm_eq, cpm_r, rf9_ne, and_true, true_and, rz_n0, rz_n1, pZ_n0, pZ_n1, v_rf9n, v_rf10n, -Int32.reduceOfNat]
theorem pu_image (v1 : Int32) {μ : hm_M} {ν : hm_N} (hL : hm_LL ν μ) (h : PP μ) : ∃ (r : Int32) (μ1 μ2 : hm_M), f_X9_image v1 μ = some (r, μ1) ∧ f_X10_image v1 μ1 = some (r, μ2) ∧ PP μ2 := by
  by_cases c : 0 ≤ v1.toInt ∧ v1.toInt < 2
  · obtain ⟨k, rfl, e1, l1⟩ := v_of c.1
    have hk : k < 2 := by omega
    obtain ⟨m, hm, ⟨g1, g2⟩, g3, g4, g5, g6, g7, g8, g9⟩ := v_copy (o := 159 + 10 * k) (v := 65) (by omega) μ
    refine ⟨Int32.ofNat 0, _, _, by simp (disch := omega) only [f_X9_image, ldR_75 hL hk, Option.getD_some, hm, v_gr9, nar_b, n_lit, i_lt, i_le, i_eq, n_toInt, n_neg, if_pos, if_neg, if_true, if_false, Option.bind_some, b2_some, pI_some, ld_n, sd_n, n_add, n_mul, n_sub, wI_ne, wI_eq, wI_r, wR_1, cpm_ne, cpm_eq, cpm_r, rf9_ne, and_true, true_and, rz_n0, rz_n1, pZ_n0, pZ_n1, v_rf9n, v_rf10n, -Int32.reduceOfNat]; rfl, v_image10 hk, ?_⟩
    obtain ⟨a1, a2, a3, a4, a5, a6, a7⟩ := id h
    refine ⟨?_, fun i hi => ?_, a3.same (fun a j z => by unfold dD at z; simp (disch := omega) only [wI_ne, cpm_ne, wR_1]; exact g3 _ _ (by omega)), a4.same (fun a j z => by unfold dS at z; simp (disch := omega) only [wI_ne, cpm_ne, wR_1]; exact g3 _ _ (by omega)), a5.same (fun a j z => by unfold dT at z; simp (disch := omega) only [wI_ne, cpm_ne, wR_1]; exact g3 _ _ (by omega)), pm_set a6 (by simp (disch := omega) only [wI_ne, wI_eq, cpm_ne, cpm_eq, wR_1]) (fun a j z => by unfold dM at z; simp (disch := omega) only [wI_ne, cpm_ne, wR_1]; exact g3 _ _ (by omega)), a7.same (fun j => by simp (disch := omega) only [wI_ne, cpm_ne, wR_1]; exact g3 _ _ (by omega))⟩
    · have e : ∀ j, (hm_wI (hm_wI (cpm (hm_wI (hm_wI m 76 k (Int32.ofNat 1)) 64 16 (Int32.ofNat 0)) 181 0 182 (5665 * k) 5665) 183 k (Int32.ofNat 1)) 179 0 (Int32.ofNat 0)).1 181 j = μ.1 181 j := fun j => by simp (disch := omega) only [wI_ne, cpm_ne, wR_1]; exact g3 _ _ (by omega)
      refine a1.like (congrArg (fun z => z.2.2) g2) (fun j _ => e j) ⟨?_, ?_, ?_, ?_⟩ (fun i hi => ⟨?_, ?_, ?_, ?_⟩) (fun i hi => ?_) (fun i hi => ⟨?_, ?_, ?_⟩) (fun t ht => g9 _ _ (by omega)) (fun a j ha => ?_) <;> simp (disch := omega) only [wI_ne, cpm_ne, wR_1] <;> exact g3 _ _ (by omega)
    · by_cases y : i = k
      · subst y
        refine ⟨by simp (disch := omega) only [wI_ne, wI_eq, cpm_ne, cpm_eq, wR_1], Or.inr ⟨by simp (disch := omega) only [wI_ne, wI_eq, cpm_ne, cpm_eq, wR_1]; rfl, ?_⟩⟩
        refine a1.like (congrArg (fun z => z.2.2) g2) (fun j hj => by simp (disch := omega) only [wI_ne, wI_eq, cpm_ne, cpm_eq, wR_1]; rw [g3 _ _ (by omega), show 0 + (5665 * i + j - 5665 * i) = j by omega]) ⟨?_, ?_, ?_, ?_⟩ (fun i hi => ⟨?_, ?_, ?_, ?_⟩) (fun i hi => ?_) (fun i hi => ⟨?_, ?_, ?_⟩) g8 (fun a j ha => ?_) <;> simp (disch := omega) only [wI_ne, cpm_ne, wR_1]
        · exact g4.1
        · exact g4.2.1
        · exact g4.2.2.1
        · exact g4.2.2.2
        · exact (g5 i hi).1
        · exact (g5 i hi).2.1
        · exact (g5 i hi).2.2.1
        · exact (g5 i hi).2.2.2
        · exact g6 i hi
        · exact (g7 i hi).1
        · exact (g7 i hi).2.1
        · exact (g7 i hi).2.2
        · exact g3 _ _ (by omega)
      · obtain ⟨q1, q2⟩ := a2 i hi
        refine ⟨by simp (disch := omega) only [wI_ne, cpm_ne, wR_1]; rw [g3 _ _ (by omega), g3 _ _ (by omega)]; exact q1, ?_⟩
        rw [show (hm_wI (hm_wI (cpm (hm_wI (hm_wI m 76 k (Int32.ofNat 1)) 64 16 (Int32.ofNat 0)) 181 0 182 (5665 * k) 5665) 183 k (Int32.ofNat 1)) 179 0 (Int32.ofNat 0)).1 76 i = μ.1 76 i by simp (disch := omega) only [wI_ne, cpm_ne, wR_1]; exact g3 _ _ (by omega)]
        refine q2.imp id fun q => ⟨q.1, q.2.like (congrArg (fun z => z.2.2) g2) (fun j hj => by simp (disch := omega) only [wI_ne, cpm_ne, wR_1]; exact g3 _ _ (by omega)) ⟨?_, ?_, ?_, ?_⟩ (fun i hi => ⟨?_, ?_, ?_, ?_⟩) (fun i hi => ?_) (fun i hi => ⟨?_, ?_, ?_⟩) (fun t ht => g9 _ _ (by omega)) (fun a j ha => ?_)⟩ <;> simp (disch := omega) only [wI_ne, cpm_ne, wR_1] <;> exact g3 _ _ (by omega)
  · refine pu_ref (k := -1) (by unfold rk; decide) h ?_ ?_
    · by_cases y : v1.toInt < 0
      · simp (disch := omega) only [f_X9_image, f_X9_image_J9, n_lit, i_lt, i_le, i_eq, n_toInt, n_neg, if_pos, if_neg, if_true, if_false, Option.bind_some, b2_some, pI_some, ld_n, sd_n, n_add, n_mul, n_sub, wI_ne, wI_eq, wI_r, wR_1, cpm_ne, cpm_eq, cpm_r, rf9_ne, and_true, true_and, rz_n0, rz_n1, pZ_n0, pZ_n1, v_rf9n, v_rf10n, -Int32.reduceOfNat]
      · simp (disch := omega) only [f_X9_image, f_X9_image_J9, n_lit, i_lt, i_le, i_eq, n_toInt, n_neg, if_pos, if_neg, if_true, if_false, Option.bind_some, b2_some, pI_some, ld_n, sd_n, n_add, n_mul, n_sub, wI_ne, wI_eq, wI_r, wR_1, cpm_ne, cpm_eq, cpm_r, rf9_ne, and_true, true_and, rz_n0, rz_n1, pZ_n0, pZ_n1, v_rf9n, v_rf10n, -Int32.reduceOfNat]
    · simp (disch := omega) only [f_X10_image, v_lies, n_lit, i_lt, i_le, i_eq, n_toInt, n_neg, if_pos, if_neg, if_true, if_false, Option.bind_some, b2_some, pI_some, ld_n, sd_n, n_add, n_mul, n_sub, wI_ne, wI_eq, wI_r, wR_1, cpm_ne, cpm_eq, cpm_r, rf9_ne, and_true, true_and, rz_n0, rz_n1, pZ_n0, pZ_n1, v_rf9n, v_rf10n, -Int32.reduceOfNat]
theorem pu_back (v1 : Int32) {μ : hm_M} {ν : hm_N} (hL : hm_LL ν μ) (h : PP μ) : ∃ (r : Int32) (μ1 μ2 : hm_M), f_X9_back v1 μ = some (r, μ1) ∧ f_X10_back v1 μ1 = some (r, μ2) ∧ PP μ2 := by
  by_cases c : 0 ≤ v1.toInt ∧ v1.toInt < 2
  · obtain ⟨k, rfl, e1, l1⟩ := v_of c.1
    have hk : k < 2 := by omega
    obtain ⟨a1, a2, a3, a4, a5, a6, a7⟩ := id h
    obtain ⟨q1, q2⟩ := a2 k hk
    rcases q2 with q2 | ⟨q2, q3⟩
    · refine pu_ref (k := -2) (by unfold rk; decide) h ?_ ?_
      · simp (disch := omega) only [f_X9_back, q2, n_lit, i_lt, i_le, i_eq, n_toInt, n_neg, if_pos, if_neg, if_true, if_false, Option.bind_some, b2_some, pI_some, ld_n, sd_n, n_add, n_mul, n_sub, wI_ne, wI_eq, wI_r, wR_1, cpm_ne, cpm_eq, cpm_r, rf9_ne, and_true, true_and, rz_n0, rz_n1, pZ_n0, pZ_n1, v_rf9n, v_rf10n, -Int32.reduceOfNat]
      · rw [q2] at q1
        simp (disch := omega) only [f_X10_back, v_lies, ← q1, n_lit, i_lt, i_le, i_eq, n_toInt, n_neg, if_pos, if_neg, if_true, if_false, Option.bind_some, b2_some, pI_some, ld_n, sd_n, n_add, n_mul, n_sub, wI_ne, wI_eq, wI_r, wR_1, cpm_ne, cpm_eq, cpm_r, rf9_ne, and_true, true_and, rz_n0, rz_n1, pZ_n0, pZ_n1, v_rf9n, v_rf10n, -Int32.reduceOfNat]
    · obtain ⟨m, hm, ⟨g1, g2⟩, g3, g4, g5, g6, g7, g8, g9⟩ := v_copy (o := 65) (v := 159 + 10 * k) (by omega) μ
      refine ⟨Int32.ofNat 0, _, _, by simp (disch := omega) only [f_X9_back, q2, ldR_75 hL hk, Option.getD_some, hm, v_cl7, v_gr9, n_lit, i_lt, i_le, i_eq, n_toInt, n_neg, if_pos, if_neg, if_true, if_false, Option.bind_some, b2_some, pI_some, ld_n, sd_n, n_add, n_mul, n_sub, wI_ne, wI_eq, wI_r, wR_1, cpm_ne, cpm_eq, cpm_r, rf9_ne, and_true, true_and, rz_n0, rz_n1, pZ_n0, pZ_n1, v_rf9n, v_rf10n, -Int32.reduceOfNat]; rfl, v_back10 hk (by simp (disch := omega) only [wI_ne, cpm_ne, wR_1]; rw [g3 _ _ (by omega), ← q1]; exact q2), ?_⟩
      refine ⟨?_, fun i hi => ?_, a3.same (fun a j z => by unfold dD at z; simp (disch := omega) only [wI_ne, cpm_ne, wR_1]; exact g3 _ _ (by omega)), ps_clear (by simp (disch := omega) only [wI_ne, cpm_ne, wR_1]; rw [g3 _ _ (by omega)]; exact a4.1) (by simp (disch := omega) only [wI_ne, wI_eq, cpm_ne, cpm_eq, wR_1]; rfl) (by simp (disch := omega) only [wI_ne, wI_eq, cpm_ne, cpm_eq, wR_1]; rfl), a5.same (fun a j z => by unfold dT at z; simp (disch := omega) only [wI_ne, cpm_ne, wR_1]; exact g3 _ _ (by omega)), pm_set a6 (by simp (disch := omega) only [wI_ne, wI_eq, cpm_ne, cpm_eq, wR_1]) (fun a j z => by unfold dM at z; simp (disch := omega) only [wI_ne, cpm_ne, wR_1]; exact g3 _ _ (by omega)), a7.same (fun j => by simp (disch := omega) only [wI_ne, cpm_ne, wR_1]; exact g3 _ _ (by omega))⟩
      · refine q3.like (congrArg (fun z => z.2.2) g2) (fun j hj => by simp (disch := omega) only [wI_ne, wI_eq, cpm_ne, cpm_eq, wR_1]; rw [g3 _ _ (by omega), show j - 0 = j by omega]) ⟨?_, ?_, ?_, ?_⟩ (fun i hi => ⟨?_, ?_, ?_, ?_⟩) (fun i hi => ?_) (fun i hi => ⟨?_, ?_, ?_⟩) g8 (fun a j ha => ?_) <;> simp (disch := omega) only [wI_ne, cpm_ne, wR_1]
        · exact g4.1
        · exact g4.2.1
        · exact g4.2.2.1
        · exact g4.2.2.2
        · exact (g5 i hi).1
        · exact (g5 i hi).2.1
        · exact (g5 i hi).2.2.1
        · exact (g5 i hi).2.2.2
        · exact g6 i hi
        · exact (g7 i hi).1
        · exact (g7 i hi).2.1
        · exact (g7 i hi).2.2
        · exact g3 _ _ (by omega)
      · obtain ⟨q1, q2⟩ := a2 i hi
        refine ⟨by simp (disch := omega) only [wI_ne, cpm_ne, wR_1]; rw [g3 _ _ (by omega), g3 _ _ (by omega)]; exact q1, ?_⟩
        rw [show (hm_wI (hm_wI (cpm (hm_wI (hm_wI m 87 2 (Int32.ofNat 0)) 64 16 (Int32.ofNat 0)) 182 (5665 * k) 181 0 5665) 179 33 (Int32.ofNat 0)) 179 0 (Int32.ofNat 0)).1 76 i = μ.1 76 i by simp (disch := omega) only [wI_ne, cpm_ne, wR_1]; exact g3 _ _ (by omega)]
        refine q2.imp id fun q => ⟨q.1, q.2.like (congrArg (fun z => z.2.2) g2) (fun j hj => by simp (disch := omega) only [wI_ne, cpm_ne, wR_1]; exact g3 _ _ (by omega)) ⟨?_, ?_, ?_, ?_⟩ (fun i hi => ⟨?_, ?_, ?_, ?_⟩) (fun i hi => ?_) (fun i hi => ⟨?_, ?_, ?_⟩) (fun t ht => g9 _ _ (by omega)) (fun a j ha => ?_)⟩ <;> simp (disch := omega) only [wI_ne, cpm_ne, wR_1] <;> exact g3 _ _ (by omega)
  · refine pu_ref (k := -1) (by unfold rk; decide) h ?_ ?_
    · by_cases y : v1.toInt < 0
      · simp (disch := omega) only [f_X9_back, f_X9_back_J9, n_lit, i_lt, i_le, i_eq, n_toInt, n_neg, if_pos, if_neg, if_true, if_false, Option.bind_some, b2_some, pI_some, ld_n, sd_n, n_add, n_mul, n_sub, wI_ne, wI_eq, wI_r, wR_1, cpm_ne, cpm_eq, cpm_r, rf9_ne, and_true, true_and, rz_n0, rz_n1, pZ_n0, pZ_n1, v_rf9n, v_rf10n, -Int32.reduceOfNat]
      · simp (disch := omega) only [f_X9_back, f_X9_back_J9, n_lit, i_lt, i_le, i_eq, n_toInt, n_neg, if_pos, if_neg, if_true, if_false, Option.bind_some, b2_some, pI_some, ld_n, sd_n, n_add, n_mul, n_sub, wI_ne, wI_eq, wI_r, wR_1, cpm_ne, cpm_eq, cpm_r, rf9_ne, and_true, true_and, rz_n0, rz_n1, pZ_n0, pZ_n1, v_rf9n, v_rf10n, -Int32.reduceOfNat]
    · simp (disch := omega) only [f_X10_back, v_lies, n_lit, i_lt, i_le, i_eq, n_toInt, n_neg, if_pos, if_neg, if_true, if_false, Option.bind_some, b2_some, pI_some, ld_n, sd_n, n_add, n_mul, n_sub, wI_ne, wI_eq, wI_r, wR_1, cpm_ne, cpm_eq, cpm_r, rf9_ne, and_true, true_and, rz_n0, rz_n1, pZ_n0, pZ_n1, v_rf9n, v_rf10n, -Int32.reduceOfNat]
