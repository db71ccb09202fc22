/-! The tape is fed. -/
def bt (x : Int32) (s : Nat) : Nat := (x.toBitVec.toNat >>> s) % 256
theorem bt_lt (x : Int32) (s : Nat) : bt x s < 256 := Nat.mod_lt _ (by decide)
theorem byt_8 : ∀ b, b < 256 → (Int8.ofNat b).toInt32 = byt b := by decide +kernel
theorem byt_n : ∀ b, b < 256 → vp_nar .byte (byt b) = byt b := by decide +kernel
theorem chr_n : ∀ b, b < 256 → vp_nar .char (((Int32.ofNat b).toUInt32 % 65536).toInt32) = Int32.ofNat b := by decide +kernel
theorem bt_and (x : Int32) (k : BitVec 32) (s : Nat) (hs : k.toNat = s) : (⟨⟨x.toBitVec >>> k⟩⟩ : Int32) &&& 255 = Int32.ofNat (bt x s) := by
  apply Int32.toBitVec_inj.mp
  show (x.toBitVec >>> k) &&& 255#32 = BitVec.ofNat 32 (bt x s)
  apply BitVec.eq_of_toNat_eq
  rw [BitVec.toNat_and, BitVec.toNat_ofNat, BitVec.ushiftRight_eq', BitVec.toNat_ushiftRight, hs]
  show (x.toBitVec.toNat >>> s) &&& 255 = bt x s % 2 ^ 32
  rw [Nat.mod_eq_of_lt (Nat.lt_of_lt_of_le (bt_lt x s) (by decide)), show 255 = 2 ^ 8 - 1 from rfl, Nat.and_two_pow_sub_one_eq_mod]
  rfl
theorem bt_c24 (x : Int32) : vp_nar .char (((((x.toUInt32 >>> ((Int32.ofNat 24).toUInt32 &&& Int32.toUInt32 31)).toInt32) &&& (255 : Int32)).toUInt32 % 65536).toInt32) = Int32.ofNat (bt x 24) := by
  rw [show (x.toUInt32 >>> ((Int32.ofNat 24).toUInt32 &&& Int32.toUInt32 31)).toInt32 &&& 255 = Int32.ofNat (bt x 24) from bt_and x 24#32 24 rfl]
  exact chr_n _ (bt_lt _ _)
theorem bt_c16 (x : Int32) : vp_nar .char (((((x.toUInt32 >>> ((Int32.ofNat 16).toUInt32 &&& Int32.toUInt32 31)).toInt32) &&& (255 : Int32)).toUInt32 % 65536).toInt32) = Int32.ofNat (bt x 16) := by
  rw [show (x.toUInt32 >>> ((Int32.ofNat 16).toUInt32 &&& Int32.toUInt32 31)).toInt32 &&& 255 = Int32.ofNat (bt x 16) from bt_and x 16#32 16 rfl]
  exact chr_n _ (bt_lt _ _)
theorem bt_c8 (x : Int32) : vp_nar .char (((((x.toUInt32 >>> ((Int32.ofNat 8).toUInt32 &&& Int32.toUInt32 31)).toInt32) &&& (255 : Int32)).toUInt32 % 65536).toInt32) = Int32.ofNat (bt x 8) := by
  rw [show (x.toUInt32 >>> ((Int32.ofNat 8).toUInt32 &&& Int32.toUInt32 31)).toInt32 &&& 255 = Int32.ofNat (bt x 8) from bt_and x 8#32 8 rfl]
  exact chr_n _ (bt_lt _ _)
theorem bt_c0 (x : Int32) : vp_nar .char (((((x.toUInt32 >>> ((Int32.ofNat 0).toUInt32 &&& Int32.toUInt32 31)).toInt32) &&& (255 : Int32)).toUInt32 % 65536).toInt32) = Int32.ofNat (bt x 0) := by
  rw [show (x.toUInt32 >>> ((Int32.ofNat 0).toUInt32 &&& Int32.toUInt32 31)).toInt32 &&& 255 = Int32.ofNat (bt x 0) from bt_and x 0#32 0 rfl]
  exact chr_n _ (bt_lt _ _)
theorem bt_b (x y : Int32) (s : Nat) (hs : s ≤ 24) (hy : (x >>> y).toBitVec = x.toBitVec.sshiftRight s) : vp_nar .byte ((x >>> y).toInt8.toInt32) = byt (bt x s) := by
  have e : (x >>> y).toInt8 = Int8.ofNat (bt x s) := by
    apply Int8.toBitVec_inj.mp
    rw [Int32.toBitVec_toInt8, hy]
    show _ = BitVec.ofNat 8 (bt x s)
    apply BitVec.eq_of_getLsbD_eq
    intro i hi
    rw [BitVec.getLsbD_signExtend, BitVec.getLsbD_sshiftRight, BitVec.getLsbD_ofNat]
    have h1 : i < 32 := by omega
    have h2 : s + i < 32 := by omega
    simp only [hi, h1, h2, decide_true, Bool.true_and, if_true]
    unfold bt
    rw [show (256 : Nat) = 2 ^ 8 from rfl, Nat.testBit_mod_two_pow, Nat.testBit_shiftRight]
    simp [hi, h1, BitVec.getLsbD]
  rw [e, byt_8 _ (bt_lt _ _), byt_n _ (bt_lt _ _)]
theorem bt_b24 (x : Int32) : vp_nar .byte ((x >>> (Int32.ofNat 24 &&& 31)).toInt8.toInt32) = byt (bt x 24) := bt_b x _ 24 (by decide) rfl
theorem bt_b16 (x : Int32) : vp_nar .byte ((x >>> (Int32.ofNat 16 &&& 31)).toInt8.toInt32) = byt (bt x 16) := bt_b x _ 16 (by decide) rfl
theorem bt_b8 (x : Int32) : vp_nar .byte ((x >>> (Int32.ofNat 8 &&& 31)).toInt8.toInt32) = byt (bt x 8) := bt_b x _ 8 (by decide) rfl
theorem bt_b0 (x : Int32) : vp_nar .byte ((x >>> (Int32.ofNat 0 &&& 31)).toInt8.toInt32) = byt (bt x 0) := bt_b x _ 0 (by decide) rfl
theorem bt_bs {s : Nat} (x : Int32) (h : s = 24 ∨ s = 16 ∨ s = 8 ∨ s = 0) : vp_nar .byte ((x >>> (Int32.ofNat s &&& Int32.ofNat 31)).toInt8.toInt32) = byt (bt x s) := by
  rcases h with rfl | rfl | rfl | rfl
  · exact bt_b24 x
  · exact bt_b16 x
  · exact bt_b8 x
  · exact bt_b0 x
theorem bt_cs {s : Nat} (x : Int32) (h : s = 24 ∨ s = 16 ∨ s = 8 ∨ s = 0) : vp_nar .char (((((x.toUInt32 >>> ((Int32.ofNat s).toUInt32 &&& (Int32.ofNat 31).toUInt32)).toInt32) &&& Int32.ofNat 255).toUInt32 % 65536).toInt32) = Int32.ofNat (bt x s) := by
  rcases h with rfl | rfl | rfl | rfl
  · exact bt_c24 x
  · exact bt_c16 x
  · exact bt_c8 x
  · exact bt_c0 x
theorem v_put {μ : hm_M} {T : Nat} (x : Int32) (hT : μ.1 64 12 = Int32.ofNat T) (h4 : T + 4 ≤ 400) : ∃ μ1, f_X9_putNumber x μ = some μ1 ∧ μ1.2 = μ.2 ∧ μ1.1 64 12 = Int32.ofNat (T + 4) ∧ (∀ a j, ¬ (a = 156 ∧ T ≤ j ∧ j < T + 4) ∧ ¬ (a = 64 ∧ j = 12) → μ1.1 a j = μ.1 a j) ∧ ∀ i, i < 4 → μ1.1 156 (T + i) = Int32.ofNat (bt x (24 - 8 * i)) := by
  unfold f_X9_putNumber
  refine lo2 (L := f_X9_putNumber_L3 x (fun μz4 => some μz4)) (fun k y μ1 => y = (if k = 4 then -8 else Int32.ofNat (24 - 8 * k)) ∧ μ1.2 = μ.2 ∧ μ1.1 64 12 = Int32.ofNat (T + k) ∧ (∀ a j, ¬ (a = 156 ∧ T ≤ j ∧ j < T + k) ∧ ¬ (a = 64 ∧ j = 12) → μ1.1 a j = μ.1 a j) ∧ ∀ i, i < k → μ1.1 156 (T + i) = Int32.ofNat (bt x (24 - 8 * i))) (fun o => ∃ μ1, o = some μ1 ∧ μ1.2 = μ.2 ∧ μ1.1 64 12 = Int32.ofNat (T + 4) ∧ (∀ a j, ¬ (a = 156 ∧ T ≤ j ∧ j < T + 4) ∧ ¬ (a = 64 ∧ j = 12) → μ1.1 a j = μ.1 a j) ∧ ∀ i, i < 4 → μ1.1 156 (T + i) = Int32.ofNat (bt x (24 - 8 * i))) 4 (fun k y μ1 hk hI => Or.inl ?_) (fun y μ1 hI n => ?_) (fu_lt (by decide)) ⟨rfl, rfl, hT, fun a j _ => rfl, fun i hi => absurd hi (Nat.not_lt_zero i)⟩
  · obtain ⟨rfl, e1, e2, e3, e4⟩ := hI
    rw [if_neg (show ¬ k = 4 by omega)]
    refine ⟨if k + 1 = 4 then -8 else Int32.ofNat (24 - 8 * (k + 1)), hm_wI (hm_wI μ1 156 (T + k) (Int32.ofNat (bt x (24 - 8 * k)))) 64 12 (Int32.ofNat (T + k + 1)), ⟨rfl, e1, by simp (disch := omega) only [wI_ne, wI_eq, cpm_ne, cpm_eq, wR_1]; rfl, fun a j z => by simp (disch := omega) only [wI_ne, cpm_ne, wR_1]; exact e3 a j (by omega), fun i hi => ?_⟩, fun n => ?_⟩
    · by_cases y : i = k
      · subst y
        simp (disch := omega) only [wI_ne, wI_eq, cpm_ne, cpm_eq, wR_1]
      · simp (disch := omega) only [wI_ne, cpm_ne, wR_1]
        exact e4 i (by omega)
    · have hy : Int32.ofNat (24 - 8 * k) + (-8 : Int32) = if k + 1 = 4 then -8 else Int32.ofNat (24 - 8 * (k + 1)) := by
        match k, hk with
        | 0, _ | 1, _ | 2, _ | 3, _ => rfl
        | k + 4, h => omega
      rw [← hy]
      rw [f_X9_putNumber_L3]
      simp (disch := omega) only [f_X9_putNumber_J44, e2, bt_cs, n_lit, i_lt, i_le, i_eq, n_toInt, n_neg, if_pos, if_neg, if_true, if_false, Option.bind_some, b2_some, pI_some, ld_n, sd_n, n_add, n_mul, n_sub, wI_ne, wI_eq, wI_r, wR_1, cpm_ne, cpm_eq, cpm_r, rf9_ne, and_true, true_and, rz_n0, rz_n1, pZ_n0, pZ_n1, v_rf9n, v_rf10n, -Int32.reduceOfNat]
  · obtain ⟨rfl, e1, e2, e3, e4⟩ := hI
    refine ⟨μ1, ?_, e1, e2, e3, e4⟩
    rw [f_X9_putNumber_L3, if_pos rfl, if_pos (by decide)]
theorem pu_feed (v1 v2 v3 v4 v5 : Int32) : pu_R PP (f_X9_feed v1 v2 v3 v4 v5) (f_X10_feed v1 v2 v3 v4 v5) := by
  intro μ h
  obtain ⟨a1, a2, a3, a4, a5, a6, a7⟩ := id h
  obtain ⟨⟨t1, lT⟩, t2, t3⟩ := id a5
  generalize nat (μ.1 64 12) = T at t1 lT
  rw [t1] at t2
  by_cases c : T + 20 ≤ 400
  · obtain ⟨m1, p1, q1, r1, s1, w1⟩ := v_put v1 t1 (by omega)
    obtain ⟨m2, p2, q2, r2, s2, w2⟩ := v_put v2 r1 (by omega)
    obtain ⟨m3, p3, q3, r3, s3, w3⟩ := v_put v3 r2 (by omega)
    obtain ⟨m4, p4, q4, r4, s4, w4⟩ := v_put v4 r3 (by omega)
    obtain ⟨m5, p5, q5, r5, s5, w5⟩ := v_put v5 r4 (by omega)
    have ew : ∀ i, i < 20 → m5.1 156 (T + i) = Int32.ofNat (bt ([v1, v2, v3, v4, v5].getD (i / 4) 0) (24 - 8 * (i - i / 4 * 4))) := by
      intro i hi
      rcases (by omega : i / 4 = 0 ∨ i / 4 = 1 ∨ i / 4 = 2 ∨ i / 4 = 3 ∨ i / 4 = 4) with z | z | z | z | z <;> rw [z]
      · rw [s5 _ _ (by omega), s4 _ _ (by omega), s3 _ _ (by omega), s2 _ _ (by omega), w1 i (by omega)]; rfl
      · rw [s5 _ _ (by omega), s4 _ _ (by omega), s3 _ _ (by omega), show T + i = T + 4 + (i - 4) by omega, w2 (i - 4) (by omega)]; rfl
      · rw [s5 _ _ (by omega), s4 _ _ (by omega), show T + i = T + 4 + 4 + (i - 8) by omega, w3 (i - 8) (by omega)]; rfl
      · rw [s5 _ _ (by omega), show T + i = T + 4 + 4 + 4 + (i - 12) by omega, w4 (i - 12) (by omega)]; rfl
      · rw [show T + i = T + 4 + 4 + 4 + 4 + (i - 16) by omega, w5 (i - 16) (by omega)]; rfl
    have es : ∀ a j, ¬ (a = 156 ∧ T ≤ j ∧ j < T + 20) ∧ ¬ (a = 64 ∧ j = 12) → m5.1 a j = μ.1 a j := fun a j z => by
      rw [s5 _ _ (by omega), s4 _ _ (by omega), s3 _ _ (by omega), s2 _ _ (by omega), s1 _ _ (by omega)]
    have em : m5.2 = μ.2 := by rw [q5, q4, q3, q2, q1]
    have e13 : m5.1 179 13 = Int32.ofNat T := by rw [es _ _ (by omega)]; exact t2.symm
    have hM : ∃ m6, f_X10_feed v1 v2 v3 v4 v5 m5 = some (Int32.ofNat (T + 20), m6) ∧ m6.2 = m5.2 ∧ m6.1 179 13 = Int32.ofNat (T + 20) ∧ (∀ i, i < 20 → m6.1 186 (T + i) = byt (bt ([v1, v2, v3, v4, v5].getD (i / 4) 0) (24 - 8 * (i - i / 4 * 4)))) ∧ ∀ a j, ¬ (a = 186 ∧ T ≤ j ∧ j < T + 20) ∧ ¬ (a = 179 ∧ j = 13) ∧ a ≠ 187 → m6.1 a j = m5.1 a j := by
      generalize hm : hm_wI (hm_wI (hm_wI (hm_wI (hm_wI m5 187 0 v1) 187 1 v2) 187 2 v3) 187 3 v4) 187 4 v5 = m
      have f5 : ∀ i, i < 5 → m.1 187 i = [v1, v2, v3, v4, v5].getD i 0 := by
        intro i hi
        rw [← hm]
        match i, hi with
        | 0, _ | 1, _ | 2, _ | 3, _ | 4, _ => rfl
        | i + 5, hi => omega
      have fm : ∀ a j, a ≠ 187 → m.1 a j = m5.1 a j := fun a j z => by rw [← hm]; simp (disch := omega) only [wI_ne, cpm_ne, wR_1]
      have f2 : m.2 = m5.2 := by rw [← hm]; rfl
      have key : ∀ e : hm_M → Option (Int32 × hm_M), ∃ m7, f_X10_feed_L55 v1 v2 v3 v4 v5 e hm_fu (Int32.ofNat 0) m = e m7 ∧ m7.2 = m5.2 ∧ (∀ i, i < 20 → m7.1 186 (T + i) = byt (bt ([v1, v2, v3, v4, v5].getD (i / 4) 0) (24 - 8 * (i - i / 4 * 4)))) ∧ ∀ a j, ¬ (a = 186 ∧ T ≤ j ∧ j < T + 20) → m7.1 a j = m.1 a j := by
        intro e
        refine lo2 (L := f_X10_feed_L55 v1 v2 v3 v4 v5 e) (fun k y m7 => y = Int32.ofNat k ∧ m7.2 = m5.2 ∧ (∀ i, i < k → m7.1 186 (T + i) = byt (bt ([v1, v2, v3, v4, v5].getD (i / 4) 0) (24 - 8 * (i - i / 4 * 4)))) ∧ ∀ a j, ¬ (a = 186 ∧ T ≤ j ∧ j < T + k) → m7.1 a j = m.1 a j) (fun o => ∃ m7, o = e m7 ∧ m7.2 = m5.2 ∧ (∀ i, i < 20 → m7.1 186 (T + i) = byt (bt ([v1, v2, v3, v4, v5].getD (i / 4) 0) (24 - 8 * (i - i / 4 * 4)))) ∧ ∀ a j, ¬ (a = 186 ∧ T ≤ j ∧ j < T + 20) → m7.1 a j = m.1 a j) 20 (fun k y m7 hk hI => Or.inl ?_) (fun y m7 hI n => ?_) (fu_lt (by decide)) ⟨rfl, f2, fun i hi => absurd hi (Nat.not_lt_zero i), fun a j _ => rfl⟩
        · obtain ⟨rfl, e1, e2, e3⟩ := hI
          refine ⟨Int32.ofNat (k + 1), hm_wI m7 186 (T + k) (byt (bt ([v1, v2, v3, v4, v5].getD (k / 4) 0) (24 - 8 * (k - k / 4 * 4)))), ⟨rfl, e1, fun i hi => ?_, fun a j z => by simp (disch := omega) only [wI_ne, cpm_ne, wR_1]; exact e3 a j (by omega)⟩, fun n => ?_⟩
          · by_cases y : i = k
            · subst y
              simp (disch := omega) only [wI_ne, wI_eq, cpm_ne, cpm_eq, wR_1]
            · simp (disch := omega) only [wI_ne, cpm_ne, wR_1]
              exact e2 i (by omega)
          · have ea : m7.1 179 13 = Int32.ofNat T := by rw [e3 _ _ (by omega), fm _ _ (by omega)]; exact e13
            have eb : m7.1 187 (k / 4) = [v1, v2, v3, v4, v5].getD (k / 4) 0 := by rw [e3 _ _ (by omega)]; exact f5 _ (by omega)
            rw [f_X10_feed_L55]
            simp (disch := omega) only [n_div, ea, eb, bt_bs, n_lit, i_lt, i_le, i_eq, n_toInt, n_neg, if_pos, if_neg, if_true, if_false, Option.bind_some, b2_some, pI_some, ld_n, sd_n, n_add, n_mul, n_sub, wI_ne, wI_eq, wI_r, wR_1, cpm_ne, cpm_eq, cpm_r, rf9_ne, and_true, true_and, rz_n0, rz_n1, pZ_n0, pZ_n1, v_rf9n, v_rf10n, -Int32.reduceOfNat]
        · obtain ⟨rfl, e1, e2, e3⟩ := hI
          refine ⟨m7, ?_, e1, e2, e3⟩
          rw [f_X10_feed_L55]
          simp (disch := omega) only [n_lit, i_lt, i_le, i_eq, n_toInt, n_neg, if_pos, if_neg, if_true, if_false, Option.bind_some, b2_some, pI_some, ld_n, sd_n, n_add, n_mul, n_sub, wI_ne, wI_eq, wI_r, wR_1, cpm_ne, cpm_eq, cpm_r, rf9_ne, and_true, true_and, rz_n0, rz_n1, pZ_n0, pZ_n1, v_rf9n, v_rf10n, -Int32.reduceOfNat]
      obtain ⟨m7, k1, k2, k3, k4⟩ := key (fun μz9 => Option.bind (hm_pI μz9 179 13 ((μz9.1 179 13) + (20 : Int32))) fun μ10 => some (μ10.1 179 13, μ10))
      have e7 : m7.1 179 13 = Int32.ofNat T := by rw [k4 _ _ (by omega), fm _ _ (by omega)]; exact e13
      refine ⟨hm_wI m7 179 13 (Int32.ofNat (T + 20)), ?_, k2, by simp (disch := omega) only [wI_ne, wI_eq, cpm_ne, cpm_eq, wR_1], fun i hi => by simp (disch := omega) only [wI_ne, cpm_ne, wR_1]; exact k3 i hi, fun a j z => by simp (disch := omega) only [wI_ne, cpm_ne, wR_1]; rw [k4 _ _ (by omega), fm _ _ (by omega)]⟩
      have e0 : f_X10_feed v1 v2 v3 v4 v5 m5 = f_X10_feed_L55 v1 v2 v3 v4 v5 (fun μz9 => Option.bind (hm_pI μz9 179 13 ((μz9.1 179 13) + (20 : Int32))) fun μ10 => some (μ10.1 179 13, μ10)) hm_fu (Int32.ofNat 0) m := by
        rw [← hm]
        simp (disch := omega) only [f_X10_feed, e13, n_lit, i_lt, i_le, i_eq, n_toInt, n_neg, if_pos, if_neg, if_true, if_false, Option.bind_some, b2_some, pI_some, ld_n, sd_n, n_add, n_mul, n_sub, wI_ne, wI_eq, wI_r, wR_1, cpm_ne, cpm_eq, cpm_r, rf9_ne, and_true, true_and, rz_n0, rz_n1, pZ_n0, pZ_n1, v_rf9n, v_rf10n, -Int32.reduceOfNat]
      rw [e0, k1]
      simp (disch := omega) only [e7, n_lit, i_lt, i_le, i_eq, n_toInt, n_neg, if_pos, if_neg, if_true, if_false, Option.bind_some, b2_some, pI_some, ld_n, sd_n, n_add, n_mul, n_sub, wI_ne, wI_eq, wI_r, wR_1, cpm_ne, cpm_eq, cpm_r, rf9_ne, and_true, true_and, rz_n0, rz_n1, pZ_n0, pZ_n1, v_rf9n, v_rf10n, -Int32.reduceOfNat]
    obtain ⟨m6, g1, g2, g3, g4, g5⟩ := hM
    refine ⟨Int32.ofNat (T + 20), m5, m6, by simp (disch := omega) only [f_X9_feed, t1, p1, p2, p3, p4, p5, r5, n_lit, i_lt, i_le, i_eq, n_toInt, n_neg, if_pos, if_neg, if_true, if_false, Option.bind_some, b2_some, pI_some, ld_n, sd_n, n_add, n_mul, n_sub, wI_ne, wI_eq, wI_r, wR_1, cpm_ne, cpm_eq, cpm_r, rf9_ne, and_true, true_and, rz_n0, rz_n1, pZ_n0, pZ_n1, v_rf9n, v_rf10n, -Int32.reduceOfNat], g1, ?_⟩
    have e2 : m6.2.2 = μ.2.2 := by rw [g2, em]
    refine ⟨PV.same a1 e2 fun a j z => by unfold dV at z; rw [g5 _ _ (by omega), es _ _ (by omega)], a2.same e2 fun a j z => by unfold dI at z; rw [g5 _ _ (by omega), es _ _ (by omega)], a3.same fun a j z => by unfold dD at z; rw [g5 _ _ (by omega), es _ _ (by omega)], a4.same fun a j z => by unfold dS at z; rw [g5 _ _ (by omega), es _ _ (by omega)], ⟨?_, ?_, fun i hi => ?_⟩, a6.same fun a j z => by unfold dM at z; rw [g5 _ _ (by omega), es _ _ (by omega)], a7.same fun j => by rw [g5 _ _ (by omega), es _ _ (by omega)]⟩
    · rw [g5 _ _ (by omega), r5]
      exact bd_n (by omega) (by decide)
    · rw [g5 _ _ (by omega), r5, g3]
    · by_cases y : T ≤ i ∧ i < T + 20
      · obtain ⟨q, rfl⟩ : ∃ q, i = T + q := ⟨i - T, by omega⟩
        rw [g5 _ _ (by omega), ew q (by omega), g4 q (by omega), nat_n (Nat.lt_trans (bt_lt _ _) (by decide))]
        exact ⟨bd_n (bt_lt _ _) (by decide), rfl⟩
      · rw [g5 156 i (by omega), g5 186 i (by omega), es _ _ (by omega), es _ _ (by omega)]
        exact t3 i hi
  · exact ⟨-1, μ, μ, by simp (disch := omega) only [f_X9_feed, t1, n_lit, i_lt, i_le, i_eq, n_toInt, n_neg, if_pos, if_neg, if_true, if_false, Option.bind_some, b2_some, pI_some, ld_n, sd_n, n_add, n_mul, n_sub, wI_ne, wI_eq, wI_r, wR_1, cpm_ne, cpm_eq, cpm_r, rf9_ne, and_true, true_and, rz_n0, rz_n1, pZ_n0, pZ_n1, v_rf9n, v_rf10n, -Int32.reduceOfNat], by simp (disch := omega) only [f_X10_feed, ← t2, n_lit, i_lt, i_le, i_eq, n_toInt, n_neg, if_pos, if_neg, if_true, if_false, Option.bind_some, b2_some, pI_some, ld_n, sd_n, n_add, n_mul, n_sub, wI_ne, wI_eq, wI_r, wR_1, cpm_ne, cpm_eq, cpm_r, rf9_ne, and_true, true_and, rz_n0, rz_n1, pZ_n0, pZ_n1, v_rf9n, v_rf10n, -Int32.reduceOfNat], h⟩
