/-! Terms, laws in force, what was seen, the tape's end. -/
theorem vr_part {μ μ' : hm_M} (h : VR μ 65 (μ.1 181)) (h2 : μ'.2.2 = μ.2.2)
    (eR : ∀ k, k < 33 ∨ k = 54 ∨ k = 56 ∨ 58 ≤ k → k ≠ 24 → μ'.1 181 k = μ.1 181 k)
    (eV : ∀ a j, (65 ≤ a ∧ a ≤ 69 ∧ ¬ (a = 65 ∧ (j = 8 ∨ j = 12))) ∨ 205 ≤ a → μ'.1 a j = μ.1 a j)
    (t1 : bd (μ'.1 181 24) 1000 ∧ bd (μ'.1 181 51) 11 ∧ bd (μ'.1 181 52) 10 ∧ bd (μ'.1 181 53) 100)
    (t2 : μ'.1 70 0 = μ'.1 181 24 ∧ μ'.1 70 1 = μ'.1 181 51 ∧ μ'.1 70 2 = μ'.1 181 52 ∧ μ'.1 70 3 = μ'.1 181 53)
    (s1 : bd (μ'.1 181 55) 7) (s2 : μ'.1 65 12 = μ'.1 181 55) (s3 : rw_seen (μ'.1 181)) (s4 : vb_seen μ' 65 (μ'.1 181))
    (f1 : rw_force (μ'.1 181)) (f2 : μ'.1 65 8 = μ'.1 181 57) : VR μ' 65 (μ'.1 181) := by
  obtain ⟨⟨b1, b2, b3, b4, b5, b6, b7⟩, b8, b9, c1, c2, c3, ⟨c4, c5⟩, c6, c7⟩ := h
  refine ⟨⟨?_, fun i hi => ?_, t1, s1, ?_, ⟨fun p q hp hq => ?_, fun p q hp => ?_⟩, s3⟩, f1, f2, ?_, fun i hi => ?_, t2, ⟨s2, ?_⟩, s4, ?_⟩
  · rw [eR 54 (by omega) (by omega)]; exact b1
  · rw [eR i (by omega) (by omega), eR (8 + i) (by omega) (by omega), eR (25 + i) (by omega) (by omega), eR (16 + i) (by omega) (by omega)]
    exact b2 i hi
  · rw [eR 56 (by omega) (by omega)]; exact b5
  · rw [eR (16 + p) (by omega) (by omega), eR (16 + q) (by omega) (by omega)]
    exact b6.1 p q hp hq
  · rw [eR (16 + p) (by omega) (by omega), eR 54 (by omega) (by omega)]
    exact b6.2 p q hp
  · rw [eV 65 0 (by omega), eR 54 (by omega) (by omega)]
    exact c1
  · rw [eR i (by omega) (by omega), eR (8 + i) (by omega) (by omega), eR (25 + i) (by omega) (by omega), eR (16 + i) (by omega) (by omega)]
    rw [eV (65 + 1) i (by omega), eV (65 + 2) i (by omega), eV (65 + 3) i (by omega), eV (65 + 4) i (by omega)]
    exact c2 i hi
  · rw [eV 65 7 (by omega), eR 56 (by omega) (by omega)]
    exact c5
  · exact laws_same c7 (by rw [eR 56 (by omega) (by omega)]) (fun k hk => eR k (by omega) (by omega)) (fun t _ _ => by rw [h2]) (by have := b5.2; omega) (fun a j ha => eV a j (by omega)) (congrArg (fun z => z.2.2.2) h2)
theorem pu_ref {f9 f10 : hm_M → Option (Int32 × hm_M)} {μ : hm_M} {k : Int32} (hk : rk k) (h : PP μ) (e9 : f9 μ = some (k, rf9 k μ)) (e10 : f10 (rf9 k μ) = some (k, rf10 k (rf9 k μ))) : ∃ (r : Int32) (μ1 μ2 : hm_M), f9 μ = some (r, μ1) ∧ f10 μ1 = some (r, μ2) ∧ PP μ2 := ⟨k, _, _, e9, e10, rf_PP hk h⟩
theorem v_ldX1 {w : Nat} (h : w < 4) : hm_ldX 1 (Int32.ofNat w) = some (Int32.ofNat ([999, 10, 9, 99].getD w 0)) := by
  match w, h with
  | 0, _ | 1, _ | 2, _ | 3, _ => rfl
  | w + 4, h => omega
theorem nat_le {x : Int32} {a b : Nat} (h : bd x a) (hab : a ≤ b + 1) : nat x ≤ b := by have := h.2; omega
theorem pu_terms (v1 v2 : Int32) : pu_R PP (f_X9_terms v1 v2) (f_X10_terms v1 v2) := by
  intro μ h
  obtain ⟨a1, a2, a3, a4, a5, a6, a7⟩ := id h
  obtain ⟨⟨b1, b2, ⟨b31, b32, b33, b34⟩, b4, b5, b6, b7⟩, b8, b9, c1, c2, ⟨c31, c32, c33, c34⟩, ⟨c4, c5⟩, c6, c7⟩ := a1
  by_cases z1 : 0 ≤ v1.toInt ∧ v1.toInt < 4
  · obtain ⟨w, rfl, e1, l1⟩ := v_of z1.1
    have hw : w < 4 := by omega
    by_cases z2 : 0 ≤ v2.toInt ∧ v2.toInt ≤ (([999, 10, 9, 99] : List Nat).getD w 0 : Nat)
    · obtain ⟨y, rfl, e2, l2⟩ := v_of z2.1
      have hy : y ≤ ([999, 10, 9, 99] : List Nat).getD w 0 := by omega
      have hG : ∀ μ2 : hm_M, μ2.2.2 = μ.2.2 → (∀ a j, a ≠ 70 → a ≠ 87 → ¬ (a = 64 ∧ j = 16) → ¬ (a = 181 ∧ (j = 24 ∨ j = 51 ∨ j = 52 ∨ j = 53)) → ¬ (a = 179 ∧ (j = 33 ∨ j = 0)) → μ2.1 a j = μ.1 a j) → μ2.1 64 16 = μ2.1 179 0 → μ2.1 87 1 = μ.1 87 1 → μ2.1 87 2 = 0 → μ2.1 179 33 = 0 → (bd (μ2.1 181 24) 1000 ∧ bd (μ2.1 181 51) 11 ∧ bd (μ2.1 181 52) 10 ∧ bd (μ2.1 181 53) 100) → (μ2.1 70 0 = μ2.1 181 24 ∧ μ2.1 70 1 = μ2.1 181 51 ∧ μ2.1 70 2 = μ2.1 181 52 ∧ μ2.1 70 3 = μ2.1 181 53) → PP μ2 := by
        intro μ2 k2 k1 k3 k4 k5 k6 k7 k8
        refine ⟨vr_part h.1 k2 (fun k z1 z2 => k1 _ _ (by omega) (by omega) (by omega) (by omega) (by omega)) (fun a j z => k1 _ _ (by omega) (by omega) (by omega) (by omega) (by omega)) k7 k8 ?_ ?_ ?_ ?_ ?_ ?_, a2.same k2 fun a j z => k1 _ _ (by unfold dI at z; omega) (by unfold dI at z; omega) (by unfold dI at z; omega) (by unfold dI at z; omega) (by unfold dI at z; omega), a3.same fun a j z => k1 _ _ (by unfold dD at z; omega) (by unfold dD at z; omega) (by unfold dD at z; omega) (by unfold dD at z; omega) (by unfold dD at z; omega), ps_clear (by rw [k4]; exact a4.1) k5 k6, a5.same fun a j z => k1 _ _ (by unfold dT at z; omega) (by unfold dT at z; omega) (by unfold dT at z; omega) (by unfold dT at z; omega) (by unfold dT at z; omega), pm_set a6 k3 fun a j z => k1 _ _ (by unfold dM at z; omega) (by unfold dM at z; omega) (by unfold dM at z; omega) (by unfold dM at z; omega) (by unfold dM at z; omega), a7.same fun j => k1 _ _ (by omega) (by omega) (by omega) (by omega) (by omega)⟩
        · rw [k1 181 55 (by omega) (by omega) (by omega) (by omega) (by omega)]; exact b4
        · rw [k1 181 55 (by omega) (by omega) (by omega) (by omega) (by omega), k1 65 12 (by omega) (by omega) (by omega) (by omega) (by omega)]; exact c4
        · exact rws_same b7 (by rw [k1 181 55 (by omega) (by omega) (by omega) (by omega) (by omega)]) (by have := b4.2; omega) (by rw [k1 181 54 (by omega) (by omega) (by omega) (by omega) (by omega)]; exact Nat.le_refl _) (fun k z1 z2 => k1 _ _ (by omega) (by omega) (by omega) (by omega) (by omega))
        · exact seen_same c6 (by rw [k1 181 55 (by omega) (by omega) (by omega) (by omega) (by omega)]) (by have := b4.2; omega) (fun k z1 z2 => k1 _ _ (by omega) (by omega) (by omega) (by omega) (by omega)) (fun j hj => ⟨k1 _ _ (by omega) (by omega) (by omega) (by omega) (by omega), k1 _ _ (by omega) (by omega) (by omega) (by omega) (by omega), k1 _ _ (by omega) (by omega) (by omega) (by omega) (by omega)⟩)
        · unfold rw_force at b8 ⊢
          rw [k1 181 57 (by omega) (by omega) (by omega) (by omega) (by omega), k1 181 56 (by omega) (by omega) (by omega) (by omega) (by omega)]
          exact b8
        · rw [k1 181 57 (by omega) (by omega) (by omega) (by omega) (by omega), k1 65 8 (by omega) (by omega) (by omega) (by omega) (by omega)]
          exact b9
      have c3s : ∀ j, j < 4 → μ.1 70 j = μ.1 181 (([24, 51, 52, 53] : List Nat).getD j 0) := fun j hj => by
        match j, hj with
        | 0, _ => exact c31
        | 1, _ => exact c32
        | 2, _ => exact c33
        | 3, _ => exact c34
        | j + 4, hj => omega
      match w, hw, hy with
      | 0, _, hy =>
        replace hy : y ≤ 999 := hy
        refine ⟨μ.1 181 24, _, _, by simp (disch := omega) only [f_X9_terms, v_ldX1, List.getD_cons_zero, v_cl7, v_gr9, c31, n_lit, i_lt, i_le, i_eq, n_toInt, n_neg, if_pos, if_neg, if_true, if_false, Option.bind_some, b2_some, pI_some, ld_n, sd_n, n_add, n_mul, n_sub, wI_ne, wI_eq, wI_r, rf9_ne, and_true, true_and, rz_n0, rz_n1, pZ_n0, pZ_n1, v_rf9n, v_rf10n, -Int32.reduceOfNat]; rfl, by simp (disch := omega) only [f_X10_terms, f_X10_isTerm, v_lies, f_X10_termAt, v_st10, n_lit, i_lt, i_le, i_eq, n_toInt, n_neg, if_pos, if_neg, if_true, if_false, Option.bind_some, b2_some, pI_some, ld_n, sd_n, n_add, n_mul, n_sub, wI_ne, wI_eq, wI_r, rf9_ne, and_true, true_and, rz_n0, rz_n1, pZ_n0, pZ_n1, v_rf9n, v_rf10n, -Int32.reduceOfNat]; rfl, ?_⟩
        refine hG _ rfl (fun a j z1 z2 z3 z4 z5 => by simp (disch := omega) only [wI_ne]) (by simp (disch := omega) only [wI_ne, wI_eq]) (by simp (disch := omega) only [wI_ne]) (by simp (disch := omega) only [wI_ne, wI_eq]; rfl) (by simp (disch := omega) only [wI_ne, wI_eq]; rfl) ?_ ?_ <;> simp (disch := omega) only [wI_ne, wI_eq]
        · exact ⟨bd_n (by omega) (by decide), b32, b33, b34⟩
        · exact ⟨trivial, c32, c33, c34⟩
      | 1, _, hy =>
        replace hy : y ≤ 10 := hy
        refine ⟨μ.1 181 51, _, _, by simp (disch := omega) only [f_X9_terms, v_ldX1, List.getD_cons_zero, List.getD_cons_succ, v_cl7, v_gr9, c32, n_lit, i_lt, i_le, i_eq, n_toInt, n_neg, if_pos, if_neg, if_true, if_false, Option.bind_some, b2_some, pI_some, ld_n, sd_n, n_add, n_mul, n_sub, wI_ne, wI_eq, wI_r, rf9_ne, and_true, true_and, rz_n0, rz_n1, pZ_n0, pZ_n1, v_rf9n, v_rf10n, -Int32.reduceOfNat]; rfl, by simp (disch := omega) only [f_X10_terms, f_X10_isTerm, v_lies, f_X10_termAt, v_st10, n_lit, i_lt, i_le, i_eq, n_toInt, n_neg, if_pos, if_neg, if_true, if_false, Option.bind_some, b2_some, pI_some, ld_n, sd_n, n_add, n_mul, n_sub, wI_ne, wI_eq, wI_r, rf9_ne, and_true, true_and, rz_n0, rz_n1, pZ_n0, pZ_n1, v_rf9n, v_rf10n, -Int32.reduceOfNat]; rfl, ?_⟩
        refine hG _ rfl (fun a j z1 z2 z3 z4 z5 => by simp (disch := omega) only [wI_ne]) (by simp (disch := omega) only [wI_ne, wI_eq]) (by simp (disch := omega) only [wI_ne]) (by simp (disch := omega) only [wI_ne, wI_eq]; rfl) (by simp (disch := omega) only [wI_ne, wI_eq]; rfl) ?_ ?_ <;> simp (disch := omega) only [wI_ne, wI_eq]
        · exact ⟨b31, bd_n (by omega) (by decide), b33, b34⟩
        · exact ⟨c31, trivial, c33, c34⟩
      | 2, _, hy =>
        replace hy : y ≤ 9 := hy
        refine ⟨μ.1 181 52, _, _, by simp (disch := omega) only [f_X9_terms, v_ldX1, List.getD_cons_zero, List.getD_cons_succ, v_cl7, v_gr9, c33, n_lit, i_lt, i_le, i_eq, n_toInt, n_neg, if_pos, if_neg, if_true, if_false, Option.bind_some, b2_some, pI_some, ld_n, sd_n, n_add, n_mul, n_sub, wI_ne, wI_eq, wI_r, rf9_ne, and_true, true_and, rz_n0, rz_n1, pZ_n0, pZ_n1, v_rf9n, v_rf10n, -Int32.reduceOfNat]; rfl, by simp (disch := omega) only [f_X10_terms, f_X10_isTerm, v_lies, f_X10_termAt, v_st10, n_lit, i_lt, i_le, i_eq, n_toInt, n_neg, if_pos, if_neg, if_true, if_false, Option.bind_some, b2_some, pI_some, ld_n, sd_n, n_add, n_mul, n_sub, wI_ne, wI_eq, wI_r, rf9_ne, and_true, true_and, rz_n0, rz_n1, pZ_n0, pZ_n1, v_rf9n, v_rf10n, -Int32.reduceOfNat]; rfl, ?_⟩
        refine hG _ rfl (fun a j z1 z2 z3 z4 z5 => by simp (disch := omega) only [wI_ne]) (by simp (disch := omega) only [wI_ne, wI_eq]) (by simp (disch := omega) only [wI_ne]) (by simp (disch := omega) only [wI_ne, wI_eq]; rfl) (by simp (disch := omega) only [wI_ne, wI_eq]; rfl) ?_ ?_ <;> simp (disch := omega) only [wI_ne, wI_eq]
        · exact ⟨b31, b32, bd_n (by omega) (by decide), b34⟩
        · exact ⟨c31, c32, trivial, c34⟩
      | 3, _, hy =>
        replace hy : y ≤ 99 := hy
        refine ⟨μ.1 181 53, _, _, by simp (disch := omega) only [f_X9_terms, v_ldX1, List.getD_cons_zero, List.getD_cons_succ, v_cl7, v_gr9, c34, n_lit, i_lt, i_le, i_eq, n_toInt, n_neg, if_pos, if_neg, if_true, if_false, Option.bind_some, b2_some, pI_some, ld_n, sd_n, n_add, n_mul, n_sub, wI_ne, wI_eq, wI_r, rf9_ne, and_true, true_and, rz_n0, rz_n1, pZ_n0, pZ_n1, v_rf9n, v_rf10n, -Int32.reduceOfNat]; rfl, by simp (disch := omega) only [f_X10_terms, f_X10_isTerm, v_lies, f_X10_termAt, v_st10, n_lit, i_lt, i_le, i_eq, n_toInt, n_neg, if_pos, if_neg, if_true, if_false, Option.bind_some, b2_some, pI_some, ld_n, sd_n, n_add, n_mul, n_sub, wI_ne, wI_eq, wI_r, rf9_ne, and_true, true_and, rz_n0, rz_n1, pZ_n0, pZ_n1, v_rf9n, v_rf10n, -Int32.reduceOfNat]; rfl, ?_⟩
        refine hG _ rfl (fun a j z1 z2 z3 z4 z5 => by simp (disch := omega) only [wI_ne]) (by simp (disch := omega) only [wI_ne, wI_eq]) (by simp (disch := omega) only [wI_ne]) (by simp (disch := omega) only [wI_ne, wI_eq]; rfl) (by simp (disch := omega) only [wI_ne, wI_eq]; rfl) ?_ ?_ <;> simp (disch := omega) only [wI_ne, wI_eq]
        · exact ⟨b31, b32, b33, bd_n (by omega) (by decide)⟩
        · exact ⟨c31, c32, c33, trivial⟩
      | w + 4, hw, _ => omega
    · refine pu_ref (k := -1) (by unfold rk; decide) h ?_ ?_
      · by_cases y0 : v2.toInt < 0
        · simp (disch := omega) only [f_X9_terms, f_X9_terms_J22, n_lit, i_lt, i_le, i_eq, n_toInt, n_neg, if_pos, if_neg, if_true, if_false, Option.bind_some, b2_some, pI_some, ld_n, sd_n, n_add, n_mul, n_sub, wI_ne, wI_eq, wI_r, rf9_ne, and_true, true_and, rz_n0, rz_n1, pZ_n0, pZ_n1, v_rf9n, v_rf10n, -Int32.reduceOfNat]
        · have y1 : ¬ v2 ≤ Int32.ofNat (([999, 10, 9, 99] : List Nat).getD w 0) := by
            have : ([999, 10, 9, 99] : List Nat).getD w 0 < 1000 := by
              match w, hw with
              | 0, _ | 1, _ | 2, _ | 3, _ => decide
              | w + 4, h => omega
            rw [i_le, n_toInt (by omega)]
            omega
          unfold f_X9_terms
          rw [v_ldX1 hw, Option.bind_some, if_neg y1]
          simp (disch := omega) only [f_X9_terms_J22, n_lit, i_lt, i_le, i_eq, n_toInt, n_neg, if_pos, if_neg, if_true, if_false, Option.bind_some, b2_some, pI_some, ld_n, sd_n, n_add, n_mul, n_sub, wI_ne, wI_eq, wI_r, rf9_ne, and_true, true_and, rz_n0, rz_n1, pZ_n0, pZ_n1, v_rf9n, v_rf10n, -Int32.reduceOfNat]
      · match w, hw, z2 with
        | 0, _, z2 =>
          replace z2 : ¬ (0 ≤ v2.toInt ∧ v2.toInt ≤ 999) := z2
          simp (disch := omega) only [f_X10_terms, f_X10_isTerm, v_lies, n_lit, i_lt, i_le, i_eq, n_toInt, n_neg, if_pos, if_neg, if_true, if_false, Option.bind_some, b2_some, pI_some, ld_n, sd_n, n_add, n_mul, n_sub, wI_ne, wI_eq, wI_r, rf9_ne, and_true, true_and, rz_n0, rz_n1, pZ_n0, pZ_n1, v_rf9n, v_rf10n, -Int32.reduceOfNat]
        | 1, _, z2 =>
          replace z2 : ¬ (0 ≤ v2.toInt ∧ v2.toInt ≤ 10) := z2
          simp (disch := omega) only [f_X10_terms, f_X10_isTerm, v_lies, n_lit, i_lt, i_le, i_eq, n_toInt, n_neg, if_pos, if_neg, if_true, if_false, Option.bind_some, b2_some, pI_some, ld_n, sd_n, n_add, n_mul, n_sub, wI_ne, wI_eq, wI_r, rf9_ne, and_true, true_and, rz_n0, rz_n1, pZ_n0, pZ_n1, v_rf9n, v_rf10n, -Int32.reduceOfNat]
        | 2, _, z2 =>
          replace z2 : ¬ (0 ≤ v2.toInt ∧ v2.toInt ≤ 9) := z2
          simp (disch := omega) only [f_X10_terms, f_X10_isTerm, v_lies, n_lit, i_lt, i_le, i_eq, n_toInt, n_neg, if_pos, if_neg, if_true, if_false, Option.bind_some, b2_some, pI_some, ld_n, sd_n, n_add, n_mul, n_sub, wI_ne, wI_eq, wI_r, rf9_ne, and_true, true_and, rz_n0, rz_n1, pZ_n0, pZ_n1, v_rf9n, v_rf10n, -Int32.reduceOfNat]
        | 3, _, z2 =>
          replace z2 : ¬ (0 ≤ v2.toInt ∧ v2.toInt ≤ 99) := z2
          simp (disch := omega) only [f_X10_terms, f_X10_isTerm, v_lies, n_lit, i_lt, i_le, i_eq, n_toInt, n_neg, if_pos, if_neg, if_true, if_false, Option.bind_some, b2_some, pI_some, ld_n, sd_n, n_add, n_mul, n_sub, wI_ne, wI_eq, wI_r, rf9_ne, and_true, true_and, rz_n0, rz_n1, pZ_n0, pZ_n1, v_rf9n, v_rf10n, -Int32.reduceOfNat]
        | w + 4, hw, _ => omega
  · refine pu_ref (k := -1) (by unfold rk; decide) h ?_ ?_
    · by_cases y0 : v1.toInt < 0
      · simp (disch := omega) only [f_X9_terms, f_X9_terms_J22, n_lit, i_lt, i_le, i_eq, n_toInt, n_neg, if_pos, if_neg, if_true, if_false, Option.bind_some, b2_some, pI_some, ld_n, sd_n, n_add, n_mul, n_sub, wI_ne, wI_eq, wI_r, rf9_ne, and_true, true_and, rz_n0, rz_n1, pZ_n0, pZ_n1, v_rf9n, v_rf10n, -Int32.reduceOfNat]
      · simp (disch := omega) only [f_X9_terms, f_X9_terms_J22, n_lit, i_lt, i_le, i_eq, n_toInt, n_neg, if_pos, if_neg, if_true, if_false, Option.bind_some, b2_some, pI_some, ld_n, sd_n, n_add, n_mul, n_sub, wI_ne, wI_eq, wI_r, rf9_ne, and_true, true_and, rz_n0, rz_n1, pZ_n0, pZ_n1, v_rf9n, v_rf10n, -Int32.reduceOfNat]
    · simp (disch := omega) only [f_X10_terms, f_X10_isTerm, v_lies, n_lit, i_lt, i_le, i_eq, n_toInt, n_neg, if_pos, if_neg, if_true, if_false, Option.bind_some, b2_some, pI_some, ld_n, sd_n, n_add, n_mul, n_sub, wI_ne, wI_eq, wI_r, rf9_ne, and_true, true_and, rz_n0, rz_n1, pZ_n0, pZ_n1, v_rf9n, v_rf10n, -Int32.reduceOfNat]
theorem vr_forget {μ μ' : hm_M} (h : VR μ 65 (μ.1 181)) (h2 : μ'.2.2 = μ.2.2) (eR : ∀ k, k ≠ 57 → μ'.1 181 k = μ.1 181 k) (eV : ∀ a j, (65 ≤ a ∧ a ≤ 74 ∧ ¬ (a = 65 ∧ j = 8)) ∨ 205 ≤ a → μ'.1 a j = μ.1 a j) (f1 : rw_force (μ'.1 181)) (f2 : μ'.1 65 8 = μ'.1 181 57) : VR μ' 65 (μ'.1 181) := by
  obtain ⟨⟨b1, b2, b3, b4, b5, b6, b7⟩, b8, b9, c1, c2, c3, ⟨c4, c5⟩, c6, c7⟩ := id h
  refine vr_part h h2 (fun k z1 z2 => eR k (by omega)) (fun a j z => eV a j (by omega)) ?_ ?_ ?_ ?_ ?_ ?_ f1 f2
  · rw [eR 24 (by omega), eR 51 (by omega), eR 52 (by omega), eR 53 (by omega)]; exact b3
  · rw [eR 24 (by omega), eR 51 (by omega), eR 52 (by omega), eR 53 (by omega), eV 70 0 (by omega), eV 70 1 (by omega), eV 70 2 (by omega), eV 70 3 (by omega)]; exact c3
  · rw [eR 55 (by omega)]; exact b4
  · rw [eR 55 (by omega), eV 65 12 (by omega)]; exact c4
  · exact rws_same b7 (by rw [eR 55 (by omega)]) (by have := b4.2; omega) (by rw [eR 54 (by omega)]; exact Nat.le_refl _) (fun k _ _ => eR k (by omega))
  · exact seen_same c6 (by rw [eR 55 (by omega)]) (by have := b4.2; omega) (fun k _ _ => eR k (by omega)) (fun j _ => ⟨eV _ _ (by omega), eV _ _ (by omega), eV _ _ (by omega)⟩)
theorem v_isLaw {μ : hm_M} (v : Int32) (h : bd (μ.1 181 56) 7) : f_X10_isLaw v μ = some (if -1 ≤ v.toInt ∧ v.toInt < nat (μ.1 181 56) then 1 else 0) := by
  obtain ⟨h1, h2⟩ := h
  generalize nat (μ.1 181 56) = L at h1 h2
  have e : (Int32.ofNat L - 1).toInt = L - 1 := by
    by_cases z : L = 0
    · subst z; rfl
    · rw [n_lit, n_sub (by omega), n_toInt (by omega)]; omega
  have e1 : (-1 : Int32).toInt = -1 := rfl
  unfold f_X10_isLaw
  rw [n_lit, n_lit, n_lit, ld_n (by decide) (by decide), Option.bind_some, h1, v_lies, ← n_lit, ← n_lit]
  show (some _).bind _ = _
  rw [Option.bind_some, e, e1]
  by_cases c : -1 ≤ v.toInt ∧ v.toInt < L
  · rw [if_pos c, if_pos (by omega)]; rfl
  · rw [if_neg c, if_neg (by omega)]; rfl
theorem v_hasLaw (o : Nat) (v : Int32) (μ : hm_M) : f_X8_hasLaw o v μ = some (if 0 ≤ v.toInt ∧ v.toInt < (μ.1 o 7).toInt then 1 else 0) := by
  unfold f_X8_hasLaw
  simp (disch := omega) only [n_lit, i_lt, i_le, i_eq, n_toInt, n_neg, if_pos, if_neg, if_true, if_false, Option.bind_some, b2_some, pI_some, ld_n, sd_n, n_add, n_mul, n_sub, wI_ne, wI_eq, wI_r, rf9_ne, and_true, true_and, rz_n0, rz_n1, pZ_n0, pZ_n1, v_rf9n, v_rf10n, -Int32.reduceOfNat]
  repeat' split
  all_goals first | rfl | (exfalso; omega)
theorem v_has (o : Nat) (v : Int32) (μ : hm_M) : f_X8_has o v μ = some (if 0 ≤ v.toInt ∧ v.toInt < (μ.1 o 0).toInt then 1 else 0) := by
  unfold f_X8_has
  simp (disch := omega) only [n_lit, i_lt, i_le, i_eq, n_toInt, n_neg, if_pos, if_neg, if_true, if_false, Option.bind_some, b2_some, pI_some, ld_n, sd_n, n_add, n_mul, n_sub, wI_ne, wI_eq, wI_r, rf9_ne, and_true, true_and, rz_n0, rz_n1, pZ_n0, pZ_n1, v_rf9n, v_rf10n, -Int32.reduceOfNat]
  repeat' split
  all_goals first | rfl | (exfalso; omega)
theorem v_isP {μ : hm_M} (v : Int32) (h : bd (μ.1 181 54) 9) : f_X10_isPerson v μ = some (if 0 ≤ v.toInt ∧ v.toInt < nat (μ.1 181 54) then 1 else 0) := by
  obtain ⟨h1, h2⟩ := h
  generalize nat (μ.1 181 54) = L at h1 h2
  have e : (Int32.ofNat L - 1).toInt = L - 1 := by
    by_cases z : L = 0
    · subst z; rfl
    · rw [n_lit, n_sub (by omega), n_toInt (by omega)]; omega
  unfold f_X10_isPerson f_X10_many
  rw [show hm_ld μ 181 5665 54 = some (μ.1 181 54) from ld_n (n := 54) (by decide) (by decide), Option.bind_some, Option.bind_some, h1, v_lies, Option.bind_some, e]
  by_cases c : 0 ≤ v.toInt ∧ v.toInt < L
  · rw [if_pos c, if_pos (by show (0 : Int) ≤ _ ∧ _; omega)]; rfl
  · rw [if_neg c, if_neg (by show ¬ ((0 : Int) ≤ _ ∧ _); omega)]; rfl
theorem bd_int {x : Int32} {B : Nat} (h : bd x B) (hB : B ≤ 2147483648) : x.toInt = nat x := by
  have h2 := h.2
  have := n_toInt (n := nat x) (by omega)
  rw [← h.1] at this
  exact this
theorem pp_frame {μ μ' : hm_M} (h : PP μ) (h2 : μ'.2.2 = μ.2.2) (hv : VR μ' 65 (μ'.1 181)) (hz : μ'.1 64 16 = μ'.1 179 0) (h1 : ∀ a j, (dI a ∨ dD a j ∨ dS a j ∨ dT a j ∨ (dM a j ∧ ¬ (a = 64 ∧ j = 16) ∧ ¬ (a = 179 ∧ j = 0)) ∨ a = 185) → μ'.1 a j = μ.1 a j) : PP μ' := by
  obtain ⟨a1, a2, a3, a4, a5, a6, a7⟩ := h
  exact ⟨hv, a2.same h2 fun a j z => h1 a j (Or.inl z), a3.same fun a j z => h1 a j (Or.inr (Or.inl z)), a4.same fun a j z => h1 a j (Or.inr (Or.inr (Or.inl z))), a5.same fun a j z => h1 a j (Or.inr (Or.inr (Or.inr (Or.inl z)))), pm_set a6 hz fun a j z => h1 a j (Or.inr (Or.inr (Or.inr (Or.inr (Or.inl z))))), a7.same fun j => h1 185 j (Or.inr (Or.inr (Or.inr (Or.inr (Or.inr rfl)))))⟩
theorem pu_force (v1 : Int32) : pu_R PP (f_X9_force v1) (f_X10_force v1) := by
  intro μ h
  obtain ⟨a1, a2, a3, a4, a5, a6, a7⟩ := id h
  obtain ⟨⟨b1, b2, b3, b4, b5, b6, b7⟩, b8, b9, c1, c2, c3, ⟨c4, c5⟩, c6, c7⟩ := a1
  have e7 : (μ.1 65 7).toInt = nat (μ.1 181 56) := by rw [c5]; exact bd_int b5 (by decide)
  by_cases c : -1 ≤ v1.toInt ∧ v1.toInt < nat (μ.1 181 56)
  · refine ⟨μ.1 181 57, hm_wI (hm_wI μ 65 8 v1) 64 16 0, hm_wI (hm_wI (hm_wI (hm_wI μ 65 8 v1) 64 16 0) 181 57 v1) 179 0 0, ?_, ?_, ?_⟩
    · by_cases y : v1.toInt = -1
      · simp (disch := omega) only [f_X9_force, f_X9_force_J23, v_gr9, b9, n_lit, i_lt, i_le, i_eq, n_toInt, n_neg, if_pos, if_neg, if_true, if_false, Option.bind_some, b2_some, pI_some, ld_n, sd_n, n_add, n_mul, n_sub, wI_ne, wI_eq, wI_r, rf9_ne, and_true, true_and, rz_n0, rz_n1, pZ_n0, pZ_n1, v_rf9n, v_rf10n, -Int32.reduceOfNat]
      · simp (disch := omega) only [f_X9_force, f_X9_force_J23, v_hasLaw, e7, v_gr9, b9, n_lit, i_lt, i_le, i_eq, n_toInt, n_neg, if_pos, if_neg, if_true, if_false, Option.bind_some, b2_some, pI_some, ld_n, sd_n, n_add, n_mul, n_sub, wI_ne, wI_eq, wI_r, rf9_ne, and_true, true_and, rz_n0, rz_n1, pZ_n0, pZ_n1, v_rf9n, v_rf10n, -Int32.reduceOfNat]
    · have hL := v_isLaw (μ := hm_wI (hm_wI μ 65 8 v1) 64 16 0) v1 (by simp (disch := omega) only [wI_ne]; exact b5)
      rw [if_pos (by simp (disch := omega) only [wI_ne]; exact c)] at hL
      unfold f_X10_force
      rw [hL]
      simp (disch := omega) only [v_gd10, n_lit, i_lt, i_le, i_eq, n_toInt, n_neg, if_pos, if_neg, if_true, if_false, Option.bind_some, b2_some, pI_some, ld_n, sd_n, n_add, n_mul, n_sub, wI_ne, wI_eq, wI_r, rf9_ne, and_true, true_and, rz_n0, rz_n1, pZ_n0, pZ_n1, v_rf9n, v_rf10n, -Int32.reduceOfNat]
    · refine pp_frame h rfl ?_ (by simp (disch := omega) only [wI_ne, wI_eq]) (fun a j z => by unfold dI dD dS dT dM at z; simp (disch := omega) only [wI_ne])
      refine vr_forget h.1 rfl (fun k hk => by simp (disch := omega) only [wI_ne]) (fun a j z => by simp (disch := omega) only [wI_ne]) ?_ (by simp (disch := omega) only [wI_ne, wI_eq])
      unfold rw_force
      simp (disch := omega) only [wI_ne, wI_eq]
      by_cases y : v1.toInt = -1
      · exact Or.inl (Int32.toInt_inj.mp y)
      · obtain ⟨t, rfl, e1, l1⟩ := v_of (x := v1) (by omega)
        exact Or.inr (bd_n (by omega) (by have := b5.2; omega))
  · refine pu_ref (k := -2) (by unfold rk; decide) h ?_ ?_
    · simp (disch := omega) only [f_X9_force, v_hasLaw, e7, n_lit, i_lt, i_le, i_eq, n_toInt, n_neg, if_pos, if_neg, if_true, if_false, Option.bind_some, b2_some, pI_some, ld_n, sd_n, n_add, n_mul, n_sub, wI_ne, wI_eq, wI_r, rf9_ne, and_true, true_and, rz_n0, rz_n1, pZ_n0, pZ_n1, v_rf9n, v_rf10n, -Int32.reduceOfNat]
    · have hL := v_isLaw (μ := rf9 (-2) μ) v1 (by rw [rf9_ne (by omega)]; exact b5)
      rw [if_neg (by rw [rf9_ne (by omega)]; exact c)] at hL
      unfold f_X10_force
      rw [hL]
      simp (disch := omega) only [n_lit, i_lt, i_le, i_eq, n_toInt, n_neg, if_pos, if_neg, if_true, if_false, Option.bind_some, b2_some, pI_some, ld_n, sd_n, n_add, n_mul, n_sub, wI_ne, wI_eq, wI_r, rf9_ne, and_true, true_and, rz_n0, rz_n1, pZ_n0, pZ_n1, v_rf9n, v_rf10n, -Int32.reduceOfNat]
theorem pu_forget : pu_R PP f_X9_forget f_X10_forget := by
  intro μ h
  obtain ⟨⟨b1, b2, b3, b4, b5, b6, b7⟩, b8, b9, c1, c2, c3, ⟨c4, c5⟩, c6, c7⟩ := h.1
  refine ⟨μ.1 181 55, hm_wI μ 65 12 0, _, by simp (disch := omega) only [f_X9_forget, c4, n_lit, i_lt, i_le, i_eq, n_toInt, n_neg, if_pos, if_neg, if_true, if_false, Option.bind_some, b2_some, pI_some, ld_n, sd_n, n_add, n_mul, n_sub, wI_ne, wI_eq, wI_r, rf9_ne, and_true, true_and, rz_n0, rz_n1, pZ_n0, pZ_n1, v_rf9n, v_rf10n, -Int32.reduceOfNat], by simp (disch := omega) only [f_X10_forget, n_lit, i_lt, i_le, i_eq, n_toInt, n_neg, if_pos, if_neg, if_true, if_false, Option.bind_some, b2_some, pI_some, ld_n, sd_n, n_add, n_mul, n_sub, wI_ne, wI_eq, wI_r, rf9_ne, and_true, true_and, rz_n0, rz_n1, pZ_n0, pZ_n1, v_rf9n, v_rf10n, -Int32.reduceOfNat]; rfl, ?_⟩
  have h6 := h.2.2.2.2.2.1.1.2.2.2
  refine pp_frame h rfl ?_ (by simp (disch := omega) only [wI_ne]; exact h6) (fun a j z => by unfold dI dD dS dT dM at z; simp (disch := omega) only [wI_ne])
  refine vr_part h.1 rfl (fun k z1 z2 => by simp (disch := omega) only [wI_ne]) (fun a j z => by simp (disch := omega) only [wI_ne]) (by simp (disch := omega) only [wI_ne]; exact b3) (by simp (disch := omega) only [wI_ne]; exact c3) (by simp (disch := omega) only [wI_ne, wI_eq]; exact bd_n (n := 0) (by decide) (by decide)) (by simp (disch := omega) only [wI_ne, wI_eq]) (fun k hk => ?_) (fun k hk => ?_) ?_ (by simp (disch := omega) only [wI_ne]; exact b9)
  · simp (disch := omega) only [wI_ne, wI_eq] at hk
    exact absurd hk (Nat.not_lt_zero k)
  · simp (disch := omega) only [wI_ne, wI_eq] at hk
    exact absurd hk (Nat.not_lt_zero k)
  · unfold rw_force at b8 ⊢
    simp (disch := omega) only [wI_ne]
    exact b8
theorem pu_end (v1 : Int32) : pu_R PP (f_X9_end v1) (f_X10_end v1) := by
  intro μ h
  obtain ⟨t1, t2, t3⟩ := h.2.2.2.2.1
  have e := bd_int t1 (by decide)
  have t2' := t1.2
  by_cases c : 0 ≤ v1.toInt ∧ v1.toInt ≤ nat (μ.1 64 12)
  · refine ⟨v1, hm_wI μ 64 12 v1, hm_wI (hm_wI μ 64 12 v1) 179 13 v1, by simp (disch := omega) only [f_X9_end, e, n_lit, i_lt, i_le, i_eq, n_toInt, n_neg, if_pos, if_neg, if_true, if_false, Option.bind_some, b2_some, pI_some, ld_n, sd_n, n_add, n_mul, n_sub, wI_ne, wI_eq, wI_r, rf9_ne, and_true, true_and, rz_n0, rz_n1, pZ_n0, pZ_n1, v_rf9n, v_rf10n, -Int32.reduceOfNat], ?_, ?_⟩
    · have e2 : ((hm_wI μ 64 12 v1).1 179 13).toInt = nat (μ.1 64 12) := by rw [wI_ne (by omega), ← t2]; exact e
      unfold f_X10_end
      rw [v_lies, e2]
      simp (disch := omega) only [n_lit, i_lt, i_le, i_eq, n_toInt, n_neg, if_pos, if_neg, if_true, if_false, Option.bind_some, b2_some, pI_some, ld_n, sd_n, n_add, n_mul, n_sub, wI_ne, wI_eq, wI_r, rf9_ne, and_true, true_and, rz_n0, rz_n1, pZ_n0, pZ_n1, v_rf9n, v_rf10n, -Int32.reduceOfNat]
    · obtain ⟨b1, b2, b3, b4, b5, b6, b7⟩ := h
      refine ⟨PV.same b1 rfl (fun a j z => by unfold dV at z; first | rfl | (simp (disch := omega) only [wI_ne])), b2.same rfl (fun a j z => by unfold dI at z; first | rfl | (simp (disch := omega) only [wI_ne])), b3.same (fun a j z => by unfold dD at z; first | rfl | (simp (disch := omega) only [wI_ne])), b4.same (fun a j z => by unfold dS at z; first | rfl | (simp (disch := omega) only [wI_ne])), ⟨?_, by simp (disch := omega) only [wI_ne, wI_eq], fun i hi => ?_⟩, b6.same (fun a j z => by unfold dM at z; first | rfl | (simp (disch := omega) only [wI_ne])), b7.same (fun j => by first | rfl | (simp (disch := omega) only [wI_ne]))⟩
      · simp (disch := omega) only [wI_ne, wI_eq]
        obtain ⟨t, rfl, e1, l1⟩ := v_of (x := v1) (by omega)
        exact bd_n (by omega) (by decide)
      · simp (disch := omega) only [wI_ne]
        exact t3 i hi
  · refine ⟨-1, μ, μ, ?_, ?_, h⟩
    · by_cases y : v1.toInt < 0
      · simp (disch := omega) only [f_X9_end, e, n_lit, i_lt, i_le, i_eq, n_toInt, n_neg, if_pos, if_neg, if_true, if_false, Option.bind_some, b2_some, pI_some, ld_n, sd_n, n_add, n_mul, n_sub, wI_ne, wI_eq, wI_r, rf9_ne, and_true, true_and, rz_n0, rz_n1, pZ_n0, pZ_n1, v_rf9n, v_rf10n, -Int32.reduceOfNat]
      · simp (disch := omega) only [f_X9_end, e, n_lit, i_lt, i_le, i_eq, n_toInt, n_neg, if_pos, if_neg, if_true, if_false, Option.bind_some, b2_some, pI_some, ld_n, sd_n, n_add, n_mul, n_sub, wI_ne, wI_eq, wI_r, rf9_ne, and_true, true_and, rz_n0, rz_n1, pZ_n0, pZ_n1, v_rf9n, v_rf10n, -Int32.reduceOfNat]
    · unfold f_X10_end
      rw [v_lies, ← t2, e]
      simp (disch := omega) only [n_lit, i_lt, i_le, i_eq, n_toInt, n_neg, if_pos, if_neg, if_true, if_false, Option.bind_some, b2_some, pI_some, ld_n, sd_n, n_add, n_mul, n_sub, wI_ne, wI_eq, wI_r, rf9_ne, and_true, true_and, rz_n0, rz_n1, pZ_n0, pZ_n1, v_rf9n, v_rf10n, -Int32.reduceOfNat]
theorem pu_seen (v1 v2 v3 : Int32) : pu_R PP (f_X9_seen v1 v2 v3) (f_X10_seen v1 v2 v3) := by
  intro μ h
  obtain ⟨⟨b1, b2, b3, b4, b5, b6, b7⟩, b8, b9, c1, c2, c3, ⟨c4, c5⟩, c6, c7⟩ := h.1
  have e0 : (μ.1 65 0).toInt = nat (μ.1 181 54) := by rw [c1]; exact bd_int b1 (by decide)
  have l0 := b1.2
  by_cases z1 : v1.toInt = v2.toInt ∨ v3.toInt < 0 ∨ 1 < v3.toInt
  · refine pu_ref (k := -1) (by unfold rk; decide) h ?_ ?_
    · by_cases y1 : v1.toInt = v2.toInt
      · simp (disch := omega) only [f_X9_seen, f_X9_seen_J14, n_lit, i_lt, i_le, i_eq, n_toInt, n_neg, if_pos, if_neg, if_true, if_false, Option.bind_some, b2_some, pI_some, ld_n, sd_n, n_add, n_mul, n_sub, wI_ne, wI_eq, wI_r, rf9_ne, and_true, true_and, rz_n0, rz_n1, pZ_n0, pZ_n1, v_rf9n, v_rf10n, -Int32.reduceOfNat]
      · by_cases y2 : v3.toInt < 0
        · simp (disch := omega) only [f_X9_seen, f_X9_seen_J14, n_lit, i_lt, i_le, i_eq, n_toInt, n_neg, if_pos, if_neg, if_true, if_false, Option.bind_some, b2_some, pI_some, ld_n, sd_n, n_add, n_mul, n_sub, wI_ne, wI_eq, wI_r, rf9_ne, and_true, true_and, rz_n0, rz_n1, pZ_n0, pZ_n1, v_rf9n, v_rf10n, -Int32.reduceOfNat]
        · simp (disch := omega) only [f_X9_seen, f_X9_seen_J14, n_lit, i_lt, i_le, i_eq, n_toInt, n_neg, if_pos, if_neg, if_true, if_false, Option.bind_some, b2_some, pI_some, ld_n, sd_n, n_add, n_mul, n_sub, wI_ne, wI_eq, wI_r, rf9_ne, and_true, true_and, rz_n0, rz_n1, pZ_n0, pZ_n1, v_rf9n, v_rf10n, -Int32.reduceOfNat]
    · by_cases y1 : v1.toInt = v2.toInt
      · simp (disch := omega) only [f_X10_seen, f_X10_seen_J14, v_lies, n_lit, i_lt, i_le, i_eq, n_toInt, n_neg, if_pos, if_neg, if_true, if_false, Option.bind_some, b2_some, pI_some, ld_n, sd_n, n_add, n_mul, n_sub, wI_ne, wI_eq, wI_r, rf9_ne, and_true, true_and, rz_n0, rz_n1, pZ_n0, pZ_n1, v_rf9n, v_rf10n, -Int32.reduceOfNat]
      · simp (disch := omega) only [f_X10_seen, f_X10_seen_J14, v_lies, n_lit, i_lt, i_le, i_eq, n_toInt, n_neg, if_pos, if_neg, if_true, if_false, Option.bind_some, b2_some, pI_some, ld_n, sd_n, n_add, n_mul, n_sub, wI_ne, wI_eq, wI_r, rf9_ne, and_true, true_and, rz_n0, rz_n1, pZ_n0, pZ_n1, v_rf9n, v_rf10n, -Int32.reduceOfNat]
  · by_cases z2 : (0 ≤ v1.toInt ∧ v1.toInt < nat (μ.1 181 54)) ∧ (0 ≤ v2.toInt ∧ v2.toInt < nat (μ.1 181 54))
    · obtain ⟨h55, l55⟩ := id b4
      generalize hK : nat (μ.1 181 55) = K at h55 l55
      have c4' := c4
      rw [h55] at c4
      obtain ⟨x1, rfl, e1, l1⟩ := v_of z2.1.1
      obtain ⟨x2, rfl, e2, l2⟩ := v_of z2.2.1
      obtain ⟨x3, rfl, e3, l3⟩ := v_of (x := v3) (by omega)
      by_cases h6 : K < 6
      · have p1 := fun μ' (e : μ'.1 181 54 = μ.1 181 54) => v_isP (μ := μ') (Int32.ofNat x1) (by rw [e]; exact b1)
        have p2 := fun μ' (e : μ'.1 181 54 = μ.1 181 54) => v_isP (μ := μ') (Int32.ofNat x2) (by rw [e]; exact b1)
        refine ⟨Int32.ofNat (K + 1), _, _, by simp (disch := omega) only [f_X9_seen, v_has, e0, f_X8_addSeen, v_gr9, c4, n_lit, i_lt, i_le, i_eq, n_toInt, n_neg, if_pos, if_neg, if_true, if_false, Option.bind_some, b2_some, pI_some, ld_n, sd_n, n_add, n_mul, n_sub, wI_ne, wI_eq, wI_r, rf9_ne, and_true, true_and, rz_n0, rz_n1, pZ_n0, pZ_n1, v_rf9n, v_rf10n, -Int32.reduceOfNat]; rfl, (by
          unfold f_X10_seen
          rw [p1 _ (by simp (disch := omega) only [wI_ne]), p2 _ (by simp (disch := omega) only [wI_ne])]
          simp (disch := omega) only [v_lies, v_gd10, h55, n_lit, i_lt, i_le, i_eq, n_toInt, n_neg, if_pos, if_neg, if_true, if_false, Option.bind_some, b2_some, pI_some, ld_n, sd_n, n_add, n_mul, n_sub, wI_ne, wI_eq, wI_r, rf9_ne, and_true, true_and, rz_n0, rz_n1, pZ_n0, pZ_n1, v_rf9n, v_rf10n, -Int32.reduceOfNat]
          rfl), ?_⟩
        refine pp_frame h rfl ?_ (by simp (disch := omega) only [wI_ne, wI_eq]) (fun a j z => by unfold dI dD dS dT dM at z; simp (disch := omega) only [wI_ne])
        refine vr_part h.1 rfl (fun k z1 z2 => by simp (disch := omega) only [wI_ne]) (fun a j z => by simp (disch := omega) only [wI_ne]) (by simp (disch := omega) only [wI_ne]; exact b3) (by simp (disch := omega) only [wI_ne]; exact c3) (by simp (disch := omega) only [wI_ne, wI_eq]; exact bd_n (by omega) (by decide)) (by simp (disch := omega) only [wI_ne, wI_eq]) (fun k hk => ?_) (fun k hk => ?_) ?_ (by simp (disch := omega) only [wI_ne]; exact b9)
        · simp (disch := omega) only [wI_ne, wI_eq, nat_n] at hk
          by_cases y : k = K
          · subst y
            simp (disch := omega) only [wI_ne, wI_eq]
            refine ⟨bd_n (by omega) (by omega), bd_n (by omega) (by omega), ?_, bd_n (by omega) (by decide)⟩
            intro y
            rw [n_eq (by omega) (by omega)] at y
            omega
          · simp (disch := omega) only [wI_ne]
            exact b7 k (by omega)
        · simp (disch := omega) only [wI_ne, wI_eq, nat_n] at hk
          by_cases y : k = K
          · subst y
            simp (disch := omega) only [wI_ne, wI_eq]
            by_cases y1 : x1 < x2
            · refine ⟨Or.inl ?_, trivial⟩
              rw [n_lt (by omega) (by omega)]
              rw [if_neg (by omega), if_pos (by omega)]
              exact ⟨y1, rfl, rfl⟩
            · refine ⟨Or.inr ?_, trivial⟩
              rw [n_lt (by omega) (by omega)]
              rw [if_pos (by omega), if_neg (by omega)]
              exact ⟨by omega, rfl, rfl⟩
          · have := c6 k (by omega)
            simp (disch := omega) only [wI_ne]
            exact this
        · unfold rw_force at b8 ⊢
          simp (disch := omega) only [wI_ne]
          exact b8
      · refine pu_ref (k := -5) (by unfold rk; decide) h ?_ ?_
        · simp (disch := omega) only [f_X9_seen, v_has, e0, c4, n_lit, i_lt, i_le, i_eq, n_toInt, n_neg, if_pos, if_neg, if_true, if_false, Option.bind_some, b2_some, pI_some, ld_n, sd_n, n_add, n_mul, n_sub, wI_ne, wI_eq, wI_r, rf9_ne, and_true, true_and, rz_n0, rz_n1, pZ_n0, pZ_n1, v_rf9n, v_rf10n, -Int32.reduceOfNat]
        · have p1 := v_isP (μ := rf9 (-5) μ) (Int32.ofNat x1) (by rw [rf9_ne (by omega)]; exact b1)
          have p2 := v_isP (μ := rf9 (-5) μ) (Int32.ofNat x2) (by rw [rf9_ne (by omega)]; exact b1)
          rw [rf9_ne (by omega)] at p1 p2
          unfold f_X10_seen
          rw [p1, p2]
          simp (disch := omega) only [v_lies, h55, n_lit, i_lt, i_le, i_eq, n_toInt, n_neg, if_pos, if_neg, if_true, if_false, Option.bind_some, b2_some, pI_some, ld_n, sd_n, n_add, n_mul, n_sub, wI_ne, wI_eq, wI_r, rf9_ne, and_true, true_and, rz_n0, rz_n1, pZ_n0, pZ_n1, v_rf9n, v_rf10n, -Int32.reduceOfNat]
    · refine pu_ref (k := -2) (by unfold rk; decide) h ?_ ?_
      · by_cases y1 : 0 ≤ v1.toInt ∧ v1.toInt < nat (μ.1 181 54)
        · simp (disch := omega) only [f_X9_seen, f_X9_seen_J42, v_has, e0, n_lit, i_lt, i_le, i_eq, n_toInt, n_neg, if_pos, if_neg, if_true, if_false, Option.bind_some, b2_some, pI_some, ld_n, sd_n, n_add, n_mul, n_sub, wI_ne, wI_eq, wI_r, rf9_ne, and_true, true_and, rz_n0, rz_n1, pZ_n0, pZ_n1, v_rf9n, v_rf10n, -Int32.reduceOfNat]
        · simp (disch := omega) only [f_X9_seen, f_X9_seen_J42, v_has, e0, n_lit, i_lt, i_le, i_eq, n_toInt, n_neg, if_pos, if_neg, if_true, if_false, Option.bind_some, b2_some, pI_some, ld_n, sd_n, n_add, n_mul, n_sub, wI_ne, wI_eq, wI_r, rf9_ne, and_true, true_and, rz_n0, rz_n1, pZ_n0, pZ_n1, v_rf9n, v_rf10n, -Int32.reduceOfNat]
      · have p1 := v_isP (μ := rf9 (-2) μ) v1 (by rw [rf9_ne (by omega)]; exact b1)
        have p2 := v_isP (μ := rf9 (-2) μ) v2 (by rw [rf9_ne (by omega)]; exact b1)
        rw [rf9_ne (by omega)] at p1 p2
        unfold f_X10_seen
        rw [p1, p2]
        by_cases y1 : 0 ≤ v1.toInt ∧ v1.toInt < nat (μ.1 181 54)
        · simp (disch := omega) only [f_X10_seen_J36, v_lies, n_lit, i_lt, i_le, i_eq, n_toInt, n_neg, if_pos, if_neg, if_true, if_false, Option.bind_some, b2_some, pI_some, ld_n, sd_n, n_add, n_mul, n_sub, wI_ne, wI_eq, wI_r, rf9_ne, and_true, true_and, rz_n0, rz_n1, pZ_n0, pZ_n1, v_rf9n, v_rf10n, -Int32.reduceOfNat]
        · simp (disch := omega) only [f_X10_seen_J36, v_lies, n_lit, i_lt, i_le, i_eq, n_toInt, n_neg, if_pos, if_neg, if_true, if_false, Option.bind_some, b2_some, pI_some, ld_n, sd_n, n_add, n_mul, n_sub, wI_ne, wI_eq, wI_r, rf9_ne, and_true, true_and, rz_n0, rz_n1, pZ_n0, pZ_n1, v_rf9n, v_rf10n, -Int32.reduceOfNat]
