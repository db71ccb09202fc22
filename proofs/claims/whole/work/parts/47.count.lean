/-! Counting; what was drawn; the tape. -/
def pop (h : Nat) : Nat := (h.testBit 0).toNat + (h.testBit 1).toNat + (h.testBit 2).toNat + (h.testBit 3).toNat + (h.testBit 4).toNat + (h.testBit 5).toNat + (h.testBit 6).toNat + (h.testBit 7).toNat
theorem v_pop10 : ∀ h, h < 256 → f_X10_ones (Int32.ofNat h) = some (Int32.ofNat (pop h)) := by decide +kernel
theorem v_popJ : ∀ h, h < 256 → f_J6_bitCount_0f7a4 (Int32.ofNat h) = some (Int32.ofNat (pop h)) := by decide +kernel
theorem pop_le : ∀ h, h < 256 → pop h ≤ 8 := by decide +kernel
/-- how many ends of holds -/
def hc (ρ : Nat → Int32) : Nat → Nat
  | 0 => 0
  | k + 1 => hc ρ k + pop (nat (ρ (16 + k)))
theorem hc_le {ρ : Nat → Int32} (h : ∀ i, i < 8 → nat (ρ (16 + i)) < 256) : ∀ k, k ≤ 8 → hc ρ k ≤ 8 * k
  | 0, _ => Nat.le_refl _
  | k + 1, hk => by
    have := hc_le h k (by omega)
    have := pop_le _ (h k (by omega))
    show hc ρ k + pop (nat (ρ (16 + k))) ≤ _
    omega
theorem v_holdMany {μ : hm_M} (hn : bd (μ.1 181 54) 9) (hh : ∀ i, i < 8 → bd (μ.1 181 (16 + i)) 256) : f_X10_holdMany μ = some (Int32.ofNat (hc (μ.1 181) (nat (μ.1 181 54)) / 2)) := by
  obtain ⟨e, l⟩ := hn
  generalize nat (μ.1 181 54) = n at e l
  unfold f_X10_holdMany
  have hb := hc_le (ρ := μ.1 181) fun i hi => (hh i hi).2
  refine lo3 (L := f_X10_holdMany_L4 _) (fun k y1 y2 μ1 => y1 = Int32.ofNat (hc (μ.1 181) k) ∧ y2 = Int32.ofNat k ∧ μ1 = μ) (fun o => o = _) n (fun k a b c hk hI => Or.inl ?_) (fun a b c hI m => ?_) (fu_lt (by omega)) ⟨rfl, rfl, rfl⟩
  · obtain ⟨rfl, rfl, rfl⟩ := hI
    have e2 := (hh k (by omega)).1
    have l2 := (hh k (by omega)).2
    refine ⟨_, _, _, ⟨rfl, rfl, rfl⟩, fun m => ?_⟩
    rw [f_X10_holdMany_L4]
    simp (disch := omega) only [f_X10_many, e, n_lit, i_lt, i_le, i_eq, n_toInt, n_neg, if_pos, if_neg, if_true, if_false, Option.bind_some, b2_some, pI_some, ld_n, sd_n, n_add, n_mul, n_sub, wI_ne, wI_eq, wI_r, wR_1, cpm_ne, cpm_eq, cpm_r, rf9_ne, and_true, true_and, rz_n0, rz_n1, pZ_n0, pZ_n1, v_rf9n, v_rf10n, -Int32.reduceOfNat]
    rw [e2, v_pop10 _ l2]
    simp (disch := omega) only [hc, n_lit, i_lt, i_le, i_eq, n_toInt, n_neg, if_pos, if_neg, if_true, if_false, Option.bind_some, b2_some, pI_some, ld_n, sd_n, n_add, n_mul, n_sub, wI_ne, wI_eq, wI_r, wR_1, cpm_ne, cpm_eq, cpm_r, rf9_ne, and_true, true_and, rz_n0, rz_n1, pZ_n0, pZ_n1, v_rf9n, v_rf10n, -Int32.reduceOfNat]
  · obtain ⟨rfl, rfl, rfl⟩ := hI
    have := hb n (by omega)
    rw [f_X10_holdMany_L4]
    simp (disch := omega) only [f_X10_many, e, n_div, n_lit, i_lt, i_le, i_eq, n_toInt, n_neg, if_pos, if_neg, if_true, if_false, Option.bind_some, b2_some, pI_some, ld_n, sd_n, n_add, n_mul, n_sub, wI_ne, wI_eq, wI_r, wR_1, cpm_ne, cpm_eq, cpm_r, rf9_ne, and_true, true_and, rz_n0, rz_n1, pZ_n0, pZ_n1, v_rf9n, v_rf10n, -Int32.reduceOfNat]
theorem v_countHolds {μ : hm_M} {v : Nat} {ρ : Nat → Int32} (h0 : μ.1 v 0 = ρ 54) (h4 : ∀ i, i < 8 → μ.1 (v + 4) i = ρ (16 + i)) (hn : bd (ρ 54) 9) (hh : ∀ i, i < 8 → bd (ρ (16 + i)) 256) : f_X8_countHolds v μ = some (Int32.ofNat (hc ρ (nat (ρ 54)) / 2)) := by
  obtain ⟨e, l⟩ := hn
  generalize nat (ρ 54) = n at e l
  unfold f_X8_countHolds
  have hb := hc_le (ρ := ρ) fun i hi => (hh i hi).2
  refine lo3 (L := f_X8_countHolds_L4 v _) (fun k y1 y2 μ1 => y1 = Int32.ofNat (hc ρ k) ∧ y2 = Int32.ofNat k ∧ μ1 = μ) (fun o => o = _) n (fun k a b c hk hI => Or.inl ?_) (fun a b c hI m => ?_) (fu_lt (by omega)) ⟨rfl, rfl, rfl⟩
  · obtain ⟨rfl, rfl, rfl⟩ := hI
    have e2 := (hh k (by omega)).1
    have l2 := (hh k (by omega)).2
    refine ⟨_, _, _, ⟨rfl, rfl, rfl⟩, fun m => ?_⟩
    rw [f_X8_countHolds_L4]
    simp (disch := omega) only [h0, e, h4 k (by omega), n_lit, i_lt, i_le, i_eq, n_toInt, n_neg, if_pos, if_neg, if_true, if_false, Option.bind_some, b2_some, pI_some, ld_n, sd_n, n_add, n_mul, n_sub, wI_ne, wI_eq, wI_r, wR_1, cpm_ne, cpm_eq, cpm_r, rf9_ne, and_true, true_and, rz_n0, rz_n1, pZ_n0, pZ_n1, v_rf9n, v_rf10n, -Int32.reduceOfNat]
    rw [e2, v_popJ _ l2]
    simp (disch := omega) only [hc, n_lit, i_lt, i_le, i_eq, n_toInt, n_neg, if_pos, if_neg, if_true, if_false, Option.bind_some, b2_some, pI_some, ld_n, sd_n, n_add, n_mul, n_sub, wI_ne, wI_eq, wI_r, wR_1, cpm_ne, cpm_eq, cpm_r, rf9_ne, and_true, true_and, rz_n0, rz_n1, pZ_n0, pZ_n1, v_rf9n, v_rf10n, -Int32.reduceOfNat]
  · obtain ⟨rfl, rfl, rfl⟩ := hI
    have := hb n (by omega)
    rw [f_X8_countHolds_L4]
    simp (disch := omega) only [h0, e, n_div, n_lit, i_lt, i_le, i_eq, n_toInt, n_neg, if_pos, if_neg, if_true, if_false, Option.bind_some, b2_some, pI_some, ld_n, sd_n, n_add, n_mul, n_sub, wI_ne, wI_eq, wI_r, wR_1, cpm_ne, cpm_eq, cpm_r, rf9_ne, and_true, true_and, rz_n0, rz_n1, pZ_n0, pZ_n1, v_rf9n, v_rf10n, -Int32.reduceOfNat]
theorem pu_count (v1 : Int32) : pu_G PP (f_X9_count v1) (f_X10_count v1) := by
  intro μ h
  obtain ⟨a1, a2, a3, a4, a5, a6, a7⟩ := id h
  obtain ⟨⟨b1, b2, b3, b4, b5, b6, b7⟩, b8, b9, c1, c2, ⟨c31, c32, c33, c34⟩, ⟨c4, c5⟩, c6, c7⟩ := a1
  by_cases c : 0 ≤ v1.toInt ∧ v1.toInt ≤ 15
  · obtain ⟨k, rfl, e1, l1⟩ := v_of c.1
    have hk : k < 16 := by omega
    obtain ⟨m1, m2, m3, m4, m5, m6⟩ := a6
    match k, hk with
    | 0, _ => exact ⟨μ.1 65 0, by simp (disch := omega) only [f_X9_count, f_X9_count_J22, f_X9_count_J47, n_lit, i_lt, i_le, i_eq, n_toInt, n_neg, if_pos, if_neg, if_true, if_false, Option.bind_some, b2_some, pI_some, ld_n, sd_n, n_add, n_mul, n_sub, wI_ne, wI_eq, wI_r, wR_1, cpm_ne, cpm_eq, cpm_r, rf9_ne, and_true, true_and, rz_n0, rz_n1, pZ_n0, pZ_n1, v_rf9n, v_rf10n, -Int32.reduceOfNat], by simp (disch := omega) only [f_X10_count, f_X10_many, c1, n_lit, i_lt, i_le, i_eq, n_toInt, n_neg, if_pos, if_neg, if_true, if_false, Option.bind_some, b2_some, pI_some, ld_n, sd_n, n_add, n_mul, n_sub, wI_ne, wI_eq, wI_r, wR_1, cpm_ne, cpm_eq, cpm_r, rf9_ne, and_true, true_and, rz_n0, rz_n1, pZ_n0, pZ_n1, v_rf9n, v_rf10n, -Int32.reduceOfNat]⟩
    | 1, _ => exact ⟨_, by simp (disch := omega) only [f_X9_count, f_X9_count_J22, f_X9_count_J47, v_countHolds (v := 65) c1 (fun i hi => (c2 i hi).2.2.2) b1 (fun i hi => (b2 i hi).2.2.2), n_lit, i_lt, i_le, i_eq, n_toInt, n_neg, if_pos, if_neg, if_true, if_false, Option.bind_some, b2_some, pI_some, ld_n, sd_n, n_add, n_mul, n_sub, wI_ne, wI_eq, wI_r, wR_1, cpm_ne, cpm_eq, cpm_r, rf9_ne, and_true, true_and, rz_n0, rz_n1, pZ_n0, pZ_n1, v_rf9n, v_rf10n, -Int32.reduceOfNat]; rfl, by simp (disch := omega) only [f_X10_count, v_holdMany b1 (fun i hi => (b2 i hi).2.2.2), n_lit, i_lt, i_le, i_eq, n_toInt, n_neg, if_pos, if_neg, if_true, if_false, Option.bind_some, b2_some, pI_some, ld_n, sd_n, n_add, n_mul, n_sub, wI_ne, wI_eq, wI_r, wR_1, cpm_ne, cpm_eq, cpm_r, rf9_ne, and_true, true_and, rz_n0, rz_n1, pZ_n0, pZ_n1, v_rf9n, v_rf10n, -Int32.reduceOfNat]⟩
    | 2, _ => exact ⟨μ.1 65 12, by simp (disch := omega) only [f_X9_count, f_X9_count_J22, f_X9_count_J47, n_lit, i_lt, i_le, i_eq, n_toInt, n_neg, if_pos, if_neg, if_true, if_false, Option.bind_some, b2_some, pI_some, ld_n, sd_n, n_add, n_mul, n_sub, wI_ne, wI_eq, wI_r, wR_1, cpm_ne, cpm_eq, cpm_r, rf9_ne, and_true, true_and, rz_n0, rz_n1, pZ_n0, pZ_n1, v_rf9n, v_rf10n, -Int32.reduceOfNat], by simp (disch := omega) only [f_X10_count, c4, n_lit, i_lt, i_le, i_eq, n_toInt, n_neg, if_pos, if_neg, if_true, if_false, Option.bind_some, b2_some, pI_some, ld_n, sd_n, n_add, n_mul, n_sub, wI_ne, wI_eq, wI_r, wR_1, cpm_ne, cpm_eq, cpm_r, rf9_ne, and_true, true_and, rz_n0, rz_n1, pZ_n0, pZ_n1, v_rf9n, v_rf10n, -Int32.reduceOfNat]⟩
    | 3, _ => exact ⟨μ.1 65 7, by simp (disch := omega) only [f_X9_count, f_X9_count_J22, f_X9_count_J47, n_lit, i_lt, i_le, i_eq, n_toInt, n_neg, if_pos, if_neg, if_true, if_false, Option.bind_some, b2_some, pI_some, ld_n, sd_n, n_add, n_mul, n_sub, wI_ne, wI_eq, wI_r, wR_1, cpm_ne, cpm_eq, cpm_r, rf9_ne, and_true, true_and, rz_n0, rz_n1, pZ_n0, pZ_n1, v_rf9n, v_rf10n, -Int32.reduceOfNat], by simp (disch := omega) only [f_X10_count, c5, n_lit, i_lt, i_le, i_eq, n_toInt, n_neg, if_pos, if_neg, if_true, if_false, Option.bind_some, b2_some, pI_some, ld_n, sd_n, n_add, n_mul, n_sub, wI_ne, wI_eq, wI_r, wR_1, cpm_ne, cpm_eq, cpm_r, rf9_ne, and_true, true_and, rz_n0, rz_n1, pZ_n0, pZ_n1, v_rf9n, v_rf10n, -Int32.reduceOfNat]⟩
    | 4, _ => exact ⟨μ.1 87 2, by simp (disch := omega) only [f_X9_count, f_X9_count_J22, f_X9_count_J47, n_lit, i_lt, i_le, i_eq, n_toInt, n_neg, if_pos, if_neg, if_true, if_false, Option.bind_some, b2_some, pI_some, ld_n, sd_n, n_add, n_mul, n_sub, wI_ne, wI_eq, wI_r, wR_1, cpm_ne, cpm_eq, cpm_r, rf9_ne, and_true, true_and, rz_n0, rz_n1, pZ_n0, pZ_n1, v_rf9n, v_rf10n, -Int32.reduceOfNat], by simp (disch := omega) only [f_X10_count, a4.2.2.1, n_lit, i_lt, i_le, i_eq, n_toInt, n_neg, if_pos, if_neg, if_true, if_false, Option.bind_some, b2_some, pI_some, ld_n, sd_n, n_add, n_mul, n_sub, wI_ne, wI_eq, wI_r, wR_1, cpm_ne, cpm_eq, cpm_r, rf9_ne, and_true, true_and, rz_n0, rz_n1, pZ_n0, pZ_n1, v_rf9n, v_rf10n, -Int32.reduceOfNat]⟩
    | 5, _ => exact ⟨μ.1 64 12, by simp (disch := omega) only [f_X9_count, f_X9_count_J22, f_X9_count_J47, n_lit, i_lt, i_le, i_eq, n_toInt, n_neg, if_pos, if_neg, if_true, if_false, Option.bind_some, b2_some, pI_some, ld_n, sd_n, n_add, n_mul, n_sub, wI_ne, wI_eq, wI_r, wR_1, cpm_ne, cpm_eq, cpm_r, rf9_ne, and_true, true_and, rz_n0, rz_n1, pZ_n0, pZ_n1, v_rf9n, v_rf10n, -Int32.reduceOfNat], by simp (disch := omega) only [f_X10_count, a5.2.1, n_lit, i_lt, i_le, i_eq, n_toInt, n_neg, if_pos, if_neg, if_true, if_false, Option.bind_some, b2_some, pI_some, ld_n, sd_n, n_add, n_mul, n_sub, wI_ne, wI_eq, wI_r, wR_1, cpm_ne, cpm_eq, cpm_r, rf9_ne, and_true, true_and, rz_n0, rz_n1, pZ_n0, pZ_n1, v_rf9n, v_rf10n, -Int32.reduceOfNat]⟩
    | 6, _ => exact ⟨μ.1 157 0, by simp (disch := omega) only [f_X9_count, n_lit, i_lt, i_le, i_eq, n_toInt, n_neg, if_pos, if_neg, if_true, if_false, Option.bind_some, b2_some, pI_some, ld_n, sd_n, n_add, n_mul, n_sub, wI_ne, wI_eq, wI_r, wR_1, cpm_ne, cpm_eq, cpm_r, rf9_ne, and_true, true_and, rz_n0, rz_n1, pZ_n0, pZ_n1, v_rf9n, v_rf10n, -Int32.reduceOfNat], by simp (disch := omega) only [f_X10_count, m2, n_lit, i_lt, i_le, i_eq, n_toInt, n_neg, if_pos, if_neg, if_true, if_false, Option.bind_some, b2_some, pI_some, ld_n, sd_n, n_add, n_mul, n_sub, wI_ne, wI_eq, wI_r, wR_1, cpm_ne, cpm_eq, cpm_r, rf9_ne, and_true, true_and, rz_n0, rz_n1, pZ_n0, pZ_n1, v_rf9n, v_rf10n, -Int32.reduceOfNat]⟩
    | 7, _ => exact ⟨μ.1 157 1, by simp (disch := omega) only [f_X9_count, n_lit, i_lt, i_le, i_eq, n_toInt, n_neg, if_pos, if_neg, if_true, if_false, Option.bind_some, b2_some, pI_some, ld_n, sd_n, n_add, n_mul, n_sub, wI_ne, wI_eq, wI_r, wR_1, cpm_ne, cpm_eq, cpm_r, rf9_ne, and_true, true_and, rz_n0, rz_n1, pZ_n0, pZ_n1, v_rf9n, v_rf10n, -Int32.reduceOfNat], by simp (disch := omega) only [f_X10_count, m3, n_lit, i_lt, i_le, i_eq, n_toInt, n_neg, if_pos, if_neg, if_true, if_false, Option.bind_some, b2_some, pI_some, ld_n, sd_n, n_add, n_mul, n_sub, wI_ne, wI_eq, wI_r, wR_1, cpm_ne, cpm_eq, cpm_r, rf9_ne, and_true, true_and, rz_n0, rz_n1, pZ_n0, pZ_n1, v_rf9n, v_rf10n, -Int32.reduceOfNat]⟩
    | 8, _ => exact ⟨μ.1 157 2, by simp (disch := omega) only [f_X9_count, n_lit, i_lt, i_le, i_eq, n_toInt, n_neg, if_pos, if_neg, if_true, if_false, Option.bind_some, b2_some, pI_some, ld_n, sd_n, n_add, n_mul, n_sub, wI_ne, wI_eq, wI_r, wR_1, cpm_ne, cpm_eq, cpm_r, rf9_ne, and_true, true_and, rz_n0, rz_n1, pZ_n0, pZ_n1, v_rf9n, v_rf10n, -Int32.reduceOfNat], by simp (disch := omega) only [f_X10_count, m4, n_lit, i_lt, i_le, i_eq, n_toInt, n_neg, if_pos, if_neg, if_true, if_false, Option.bind_some, b2_some, pI_some, ld_n, sd_n, n_add, n_mul, n_sub, wI_ne, wI_eq, wI_r, wR_1, cpm_ne, cpm_eq, cpm_r, rf9_ne, and_true, true_and, rz_n0, rz_n1, pZ_n0, pZ_n1, v_rf9n, v_rf10n, -Int32.reduceOfNat]⟩
    | 9, _ => exact ⟨μ.1 157 3, by simp (disch := omega) only [f_X9_count, n_lit, i_lt, i_le, i_eq, n_toInt, n_neg, if_pos, if_neg, if_true, if_false, Option.bind_some, b2_some, pI_some, ld_n, sd_n, n_add, n_mul, n_sub, wI_ne, wI_eq, wI_r, wR_1, cpm_ne, cpm_eq, cpm_r, rf9_ne, and_true, true_and, rz_n0, rz_n1, pZ_n0, pZ_n1, v_rf9n, v_rf10n, -Int32.reduceOfNat], by simp (disch := omega) only [f_X10_count, m5, n_lit, i_lt, i_le, i_eq, n_toInt, n_neg, if_pos, if_neg, if_true, if_false, Option.bind_some, b2_some, pI_some, ld_n, sd_n, n_add, n_mul, n_sub, wI_ne, wI_eq, wI_r, wR_1, cpm_ne, cpm_eq, cpm_r, rf9_ne, and_true, true_and, rz_n0, rz_n1, pZ_n0, pZ_n1, v_rf9n, v_rf10n, -Int32.reduceOfNat]⟩
    | 10, _ => exact ⟨μ.1 157 4, by simp (disch := omega) only [f_X9_count, n_lit, i_lt, i_le, i_eq, n_toInt, n_neg, if_pos, if_neg, if_true, if_false, Option.bind_some, b2_some, pI_some, ld_n, sd_n, n_add, n_mul, n_sub, wI_ne, wI_eq, wI_r, wR_1, cpm_ne, cpm_eq, cpm_r, rf9_ne, and_true, true_and, rz_n0, rz_n1, pZ_n0, pZ_n1, v_rf9n, v_rf10n, -Int32.reduceOfNat], by simp (disch := omega) only [f_X10_count, m6, n_lit, i_lt, i_le, i_eq, n_toInt, n_neg, if_pos, if_neg, if_true, if_false, Option.bind_some, b2_some, pI_some, ld_n, sd_n, n_add, n_mul, n_sub, wI_ne, wI_eq, wI_r, wR_1, cpm_ne, cpm_eq, cpm_r, rf9_ne, and_true, true_and, rz_n0, rz_n1, pZ_n0, pZ_n1, v_rf9n, v_rf10n, -Int32.reduceOfNat]⟩
    | 11, _ => exact ⟨μ.1 65 8, by simp (disch := omega) only [f_X9_count, f_X9_count_J22, f_X9_count_J47, n_lit, i_lt, i_le, i_eq, n_toInt, n_neg, if_pos, if_neg, if_true, if_false, Option.bind_some, b2_some, pI_some, ld_n, sd_n, n_add, n_mul, n_sub, wI_ne, wI_eq, wI_r, wR_1, cpm_ne, cpm_eq, cpm_r, rf9_ne, and_true, true_and, rz_n0, rz_n1, pZ_n0, pZ_n1, v_rf9n, v_rf10n, -Int32.reduceOfNat], by simp (disch := omega) only [f_X10_count, b9, n_lit, i_lt, i_le, i_eq, n_toInt, n_neg, if_pos, if_neg, if_true, if_false, Option.bind_some, b2_some, pI_some, ld_n, sd_n, n_add, n_mul, n_sub, wI_ne, wI_eq, wI_r, wR_1, cpm_ne, cpm_eq, cpm_r, rf9_ne, and_true, true_and, rz_n0, rz_n1, pZ_n0, pZ_n1, v_rf9n, v_rf10n, -Int32.reduceOfNat]⟩
    | 12, _ => exact ⟨μ.1 70 0, by simp (disch := omega) only [f_X9_count, f_X9_count_J22, n_lit, i_lt, i_le, i_eq, n_toInt, n_neg, if_pos, if_neg, if_true, if_false, Option.bind_some, b2_some, pI_some, ld_n, sd_n, n_add, n_mul, n_sub, wI_ne, wI_eq, wI_r, wR_1, cpm_ne, cpm_eq, cpm_r, rf9_ne, and_true, true_and, rz_n0, rz_n1, pZ_n0, pZ_n1, v_rf9n, v_rf10n, -Int32.reduceOfNat], by simp (disch := omega) only [f_X10_count, f_X10_termAt, c31, n_lit, i_lt, i_le, i_eq, n_toInt, n_neg, if_pos, if_neg, if_true, if_false, Option.bind_some, b2_some, pI_some, ld_n, sd_n, n_add, n_mul, n_sub, wI_ne, wI_eq, wI_r, wR_1, cpm_ne, cpm_eq, cpm_r, rf9_ne, and_true, true_and, rz_n0, rz_n1, pZ_n0, pZ_n1, v_rf9n, v_rf10n, -Int32.reduceOfNat]⟩
    | 13, _ => exact ⟨μ.1 70 1, by simp (disch := omega) only [f_X9_count, f_X9_count_J22, n_lit, i_lt, i_le, i_eq, n_toInt, n_neg, if_pos, if_neg, if_true, if_false, Option.bind_some, b2_some, pI_some, ld_n, sd_n, n_add, n_mul, n_sub, wI_ne, wI_eq, wI_r, wR_1, cpm_ne, cpm_eq, cpm_r, rf9_ne, and_true, true_and, rz_n0, rz_n1, pZ_n0, pZ_n1, v_rf9n, v_rf10n, -Int32.reduceOfNat], by simp (disch := omega) only [f_X10_count, f_X10_termAt, c32, n_lit, i_lt, i_le, i_eq, n_toInt, n_neg, if_pos, if_neg, if_true, if_false, Option.bind_some, b2_some, pI_some, ld_n, sd_n, n_add, n_mul, n_sub, wI_ne, wI_eq, wI_r, wR_1, cpm_ne, cpm_eq, cpm_r, rf9_ne, and_true, true_and, rz_n0, rz_n1, pZ_n0, pZ_n1, v_rf9n, v_rf10n, -Int32.reduceOfNat]⟩
    | 14, _ => exact ⟨μ.1 70 2, by simp (disch := omega) only [f_X9_count, f_X9_count_J22, n_lit, i_lt, i_le, i_eq, n_toInt, n_neg, if_pos, if_neg, if_true, if_false, Option.bind_some, b2_some, pI_some, ld_n, sd_n, n_add, n_mul, n_sub, wI_ne, wI_eq, wI_r, wR_1, cpm_ne, cpm_eq, cpm_r, rf9_ne, and_true, true_and, rz_n0, rz_n1, pZ_n0, pZ_n1, v_rf9n, v_rf10n, -Int32.reduceOfNat], by simp (disch := omega) only [f_X10_count, f_X10_termAt, c33, n_lit, i_lt, i_le, i_eq, n_toInt, n_neg, if_pos, if_neg, if_true, if_false, Option.bind_some, b2_some, pI_some, ld_n, sd_n, n_add, n_mul, n_sub, wI_ne, wI_eq, wI_r, wR_1, cpm_ne, cpm_eq, cpm_r, rf9_ne, and_true, true_and, rz_n0, rz_n1, pZ_n0, pZ_n1, v_rf9n, v_rf10n, -Int32.reduceOfNat]⟩
    | 15, _ => exact ⟨μ.1 70 3, by simp (disch := omega) only [f_X9_count, f_X9_count_J22, n_lit, i_lt, i_le, i_eq, n_toInt, n_neg, if_pos, if_neg, if_true, if_false, Option.bind_some, b2_some, pI_some, ld_n, sd_n, n_add, n_mul, n_sub, wI_ne, wI_eq, wI_r, wR_1, cpm_ne, cpm_eq, cpm_r, rf9_ne, and_true, true_and, rz_n0, rz_n1, pZ_n0, pZ_n1, v_rf9n, v_rf10n, -Int32.reduceOfNat], by simp (disch := omega) only [f_X10_count, f_X10_termAt, c34, n_lit, i_lt, i_le, i_eq, n_toInt, n_neg, if_pos, if_neg, if_true, if_false, Option.bind_some, b2_some, pI_some, ld_n, sd_n, n_add, n_mul, n_sub, wI_ne, wI_eq, wI_r, wR_1, cpm_ne, cpm_eq, cpm_r, rf9_ne, and_true, true_and, rz_n0, rz_n1, pZ_n0, pZ_n1, v_rf9n, v_rf10n, -Int32.reduceOfNat]⟩
    | k + 16, hk => omega
  · refine ⟨-1, ?_, by simp (disch := omega) only [f_X10_count, n_lit, i_lt, i_le, i_eq, n_toInt, n_neg, if_pos, if_neg, if_true, if_false, Option.bind_some, b2_some, pI_some, ld_n, sd_n, n_add, n_mul, n_sub, wI_ne, wI_eq, wI_r, wR_1, cpm_ne, cpm_eq, cpm_r, rf9_ne, and_true, true_and, rz_n0, rz_n1, pZ_n0, pZ_n1, v_rf9n, v_rf10n, -Int32.reduceOfNat]⟩
    by_cases y : v1.toInt < 0
    · simp (disch := omega) only [f_X9_count, f_X9_count_J22, f_X9_count_J47, n_lit, i_lt, i_le, i_eq, n_toInt, n_neg, if_pos, if_neg, if_true, if_false, Option.bind_some, b2_some, pI_some, ld_n, sd_n, n_add, n_mul, n_sub, wI_ne, wI_eq, wI_r, wR_1, cpm_ne, cpm_eq, cpm_r, rf9_ne, and_true, true_and, rz_n0, rz_n1, pZ_n0, pZ_n1, v_rf9n, v_rf10n, -Int32.reduceOfNat]
    · simp (disch := omega) only [f_X9_count, f_X9_count_J22, f_X9_count_J47, n_lit, i_lt, i_le, i_eq, n_toInt, n_neg, if_pos, if_neg, if_true, if_false, Option.bind_some, b2_some, pI_some, ld_n, sd_n, n_add, n_mul, n_sub, wI_ne, wI_eq, wI_r, wR_1, cpm_ne, cpm_eq, cpm_r, rf9_ne, and_true, true_and, rz_n0, rz_n1, pZ_n0, pZ_n1, v_rf9n, v_rf10n, -Int32.reduceOfNat]
theorem pu_drawn (v1 v2 : Int32) : pu_G PP (f_X9_drawn v1 v2) (f_X10_drawn v1 v2) := by
  intro μ h
  rcases h.2.2.1 with ⟨d1, d2⟩ | ⟨d1, d2, d3, d4⟩
  · refine ⟨-1, by simp (disch := omega) only [f_X9_drawn, d1, n_lit, i_lt, i_le, i_eq, n_toInt, n_neg, if_pos, if_neg, if_true, if_false, Option.bind_some, b2_some, pI_some, ld_n, sd_n, n_add, n_mul, n_sub, wI_ne, wI_eq, wI_r, wR_1, cpm_ne, cpm_eq, cpm_r, rf9_ne, and_true, true_and, rz_n0, rz_n1, pZ_n0, pZ_n1, v_rf9n, v_rf10n, -Int32.reduceOfNat], ?_⟩
    have e : (-1 - 1 : Int32).toInt = -2 := by decide
    unfold f_X10_drawn
    rw [d2, v_lies, e]
    have e0 : (0 : Int32).toInt = 0 := rfl
    rw [e0]
    simp (disch := omega) only [n_lit, i_lt, i_le, i_eq, n_toInt, n_neg, if_pos, if_neg, if_true, if_false, Option.bind_some, b2_some, pI_some, ld_n, sd_n, n_add, n_mul, n_sub, wI_ne, wI_eq, wI_r, wR_1, cpm_ne, cpm_eq, cpm_r, rf9_ne, and_true, true_and, rz_n0, rz_n1, pZ_n0, pZ_n1, v_rf9n, v_rf10n, -Int32.reduceOfNat]
  · have hn := bd_int d3 (by decide)
    have l9 := d3.2
    obtain ⟨dn, -⟩ := d3
    generalize nat (μ.1 77 0) = n at dn hn l9
    have hl : f_X10_lies v1 0 (μ.1 179 54 - 1) = some (if 0 ≤ v1.toInt ∧ v1.toInt < n then 1 else 0) := by
      have e : (Int32.ofNat n - 1).toInt = n - 1 := by
        by_cases z : n = 0
        · subst z; rfl
        · rw [n_lit, n_sub (by omega), n_toInt (by omega)]; omega
      rw [v_lies, d2, dn, e, show (0 : Int32).toInt = 0 from rfl]
      by_cases c : 0 ≤ v1.toInt ∧ v1.toInt < n
      · rw [if_pos c, if_pos (by omega)]
      · rw [if_neg c, if_neg (by omega)]
    by_cases c : 0 ≤ v1.toInt ∧ v1.toInt < n
    · obtain ⟨p, rfl, e1, l1⟩ := v_of c.1
      obtain ⟨q1, q2, q3⟩ := d4 p (by omega)
      by_cases y : 0 ≤ v2.toInt ∧ v2.toInt ≤ 2
      · obtain ⟨w, rfl, e2, l2⟩ := v_of y.1
        have hw : w < 3 := by omega
        match w, hw with
        | 0, _ => exact ⟨μ.1 78 p, by simp (disch := omega) only [f_X9_drawn, d1, v_has, hn, n_lit, i_lt, i_le, i_eq, n_toInt, n_neg, if_pos, if_neg, if_true, if_false, Option.bind_some, b2_some, pI_some, ld_n, sd_n, n_add, n_mul, n_sub, wI_ne, wI_eq, wI_r, wR_1, cpm_ne, cpm_eq, cpm_r, rf9_ne, and_true, true_and, rz_n0, rz_n1, pZ_n0, pZ_n1, v_rf9n, v_rf10n, -Int32.reduceOfNat], by unfold f_X10_drawn; rw [hl]; simp (disch := omega) only [v_lies, q1, Nat.zero_add, n_lit, i_lt, i_le, i_eq, n_toInt, n_neg, if_pos, if_neg, if_true, if_false, Option.bind_some, b2_some, pI_some, ld_n, sd_n, n_add, n_mul, n_sub, wI_ne, wI_eq, wI_r, wR_1, cpm_ne, cpm_eq, cpm_r, rf9_ne, and_true, true_and, rz_n0, rz_n1, pZ_n0, pZ_n1, v_rf9n, v_rf10n, -Int32.reduceOfNat]⟩
        | 1, _ => exact ⟨μ.1 79 p, by simp (disch := omega) only [f_X9_drawn, d1, v_has, hn, n_lit, i_lt, i_le, i_eq, n_toInt, n_neg, if_pos, if_neg, if_true, if_false, Option.bind_some, b2_some, pI_some, ld_n, sd_n, n_add, n_mul, n_sub, wI_ne, wI_eq, wI_r, wR_1, cpm_ne, cpm_eq, cpm_r, rf9_ne, and_true, true_and, rz_n0, rz_n1, pZ_n0, pZ_n1, v_rf9n, v_rf10n, -Int32.reduceOfNat], by unfold f_X10_drawn; rw [hl]; simp (disch := omega) only [v_lies, q2, n_lit, i_lt, i_le, i_eq, n_toInt, n_neg, if_pos, if_neg, if_true, if_false, Option.bind_some, b2_some, pI_some, ld_n, sd_n, n_add, n_mul, n_sub, wI_ne, wI_eq, wI_r, wR_1, cpm_ne, cpm_eq, cpm_r, rf9_ne, and_true, true_and, rz_n0, rz_n1, pZ_n0, pZ_n1, v_rf9n, v_rf10n, -Int32.reduceOfNat]⟩
        | 2, _ => exact ⟨μ.1 81 p, by simp (disch := omega) only [f_X9_drawn, d1, v_has, hn, n_lit, i_lt, i_le, i_eq, n_toInt, n_neg, if_pos, if_neg, if_true, if_false, Option.bind_some, b2_some, pI_some, ld_n, sd_n, n_add, n_mul, n_sub, wI_ne, wI_eq, wI_r, wR_1, cpm_ne, cpm_eq, cpm_r, rf9_ne, and_true, true_and, rz_n0, rz_n1, pZ_n0, pZ_n1, v_rf9n, v_rf10n, -Int32.reduceOfNat], by unfold f_X10_drawn; rw [hl]; simp (disch := omega) only [v_lies, q3, n_lit, i_lt, i_le, i_eq, n_toInt, n_neg, if_pos, if_neg, if_true, if_false, Option.bind_some, b2_some, pI_some, ld_n, sd_n, n_add, n_mul, n_sub, wI_ne, wI_eq, wI_r, wR_1, cpm_ne, cpm_eq, cpm_r, rf9_ne, and_true, true_and, rz_n0, rz_n1, pZ_n0, pZ_n1, v_rf9n, v_rf10n, -Int32.reduceOfNat]⟩
        | w + 3, hw => omega
      · exact ⟨-1, by simp (disch := omega) only [f_X9_drawn, d1, v_has, hn, n_lit, i_lt, i_le, i_eq, n_toInt, n_neg, if_pos, if_neg, if_true, if_false, Option.bind_some, b2_some, pI_some, ld_n, sd_n, n_add, n_mul, n_sub, wI_ne, wI_eq, wI_r, wR_1, cpm_ne, cpm_eq, cpm_r, rf9_ne, and_true, true_and, rz_n0, rz_n1, pZ_n0, pZ_n1, v_rf9n, v_rf10n, -Int32.reduceOfNat], by unfold f_X10_drawn; rw [hl]; simp (disch := omega) only [v_lies, n_lit, i_lt, i_le, i_eq, n_toInt, n_neg, if_pos, if_neg, if_true, if_false, Option.bind_some, b2_some, pI_some, ld_n, sd_n, n_add, n_mul, n_sub, wI_ne, wI_eq, wI_r, wR_1, cpm_ne, cpm_eq, cpm_r, rf9_ne, and_true, true_and, rz_n0, rz_n1, pZ_n0, pZ_n1, v_rf9n, v_rf10n, -Int32.reduceOfNat]⟩
    · exact ⟨-1, by simp (disch := omega) only [f_X9_drawn, d1, v_has, hn, n_lit, i_lt, i_le, i_eq, n_toInt, n_neg, if_pos, if_neg, if_true, if_false, Option.bind_some, b2_some, pI_some, ld_n, sd_n, n_add, n_mul, n_sub, wI_ne, wI_eq, wI_r, wR_1, cpm_ne, cpm_eq, cpm_r, rf9_ne, and_true, true_and, rz_n0, rz_n1, pZ_n0, pZ_n1, v_rf9n, v_rf10n, -Int32.reduceOfNat], by unfold f_X10_drawn; rw [hl]; simp (disch := omega) only [v_lies, n_lit, i_lt, i_le, i_eq, n_toInt, n_neg, if_pos, if_neg, if_true, if_false, Option.bind_some, b2_some, pI_some, ld_n, sd_n, n_add, n_mul, n_sub, wI_ne, wI_eq, wI_r, wR_1, cpm_ne, cpm_eq, cpm_r, rf9_ne, and_true, true_and, rz_n0, rz_n1, pZ_n0, pZ_n1, v_rf9n, v_rf10n, -Int32.reduceOfNat]⟩
